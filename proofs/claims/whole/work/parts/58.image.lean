/-! an image, and back to it -/
theorem hcp_eq {h : HT} {k1 k0 N j : Nat} (hj : j < N) : hcp h k1 k0 N k1 j = h k0 j := by
  unfold hcp hr
  simp [hj]
theorem hcp_ne {h : HT} {k1 k0 N k : Nat} (hk : k ≠ k1) : hcp h k1 k0 N k = h k := by
  unfold hcp hr
  simp [hk]
/-- the cells of a Realm that count -/
def rel (r j : Nat) : Prop := (r = 1 ∧ j < 5) ∨ (2 ≤ r ∧ r < 5 ∧ j < 7) ∨ (6 ≤ r ∧ r < 13 ∧ j < 7) ∨ (14 ≤ r ∧ r < 21 ∧ j < 7) ∨ (r = 21 ∧ j = 1) ∨ (r = 22 ∧ j < 120) ∨ (r = 23 ∧ j < 5) ∨ (r = 24 ∧ j < 10) ∨ (r = 25 ∧ j < 10) ∨ (26 ≤ r ∧ r < 29 ∧ j < 120) ∨ (r = 30 ∧ j < 8) ∨ (32 ≤ r ∧ r < 40 ∧ j < 7)
def cpA (T S : Nat) (b : HT) (k : Nat) (g : HT) : Prop := (∀ q, ¬ (T + 1 ≤ q ∧ q ≤ T + 39) → g q = b q) ∧ ((∀ j, j < 5 → g (T + 1) j = b (S + 1) j) ∧ ∀ j, 8 ≤ j → g (T + 30) j = b (T + 30) j) ∧ ∀ i, i < k → g (T + 2) i = b (S + 2) i ∧ g (T + 3) i = b (S + 3) i ∧ g (T + 4) i = b (S + 4) i ∧ ∀ j, j < 7 → g (T + 6 + i) j = b (S + 6 + i) j ∧ g (T + 14 + i) j = b (S + 14 + i) j
section im
variable {P : PT} {n : Nat} {K : Nat} {s s' : RT} {L : Wld} {b h : HT}
theorem RX.e2 {o o' : Nat} (x : RX o s P K L n b) (e : ∀ r j, rel r j → h (o' + r) j = b (o + r) j) : RX o' s P K L n h := by
  unfold RX RC WRow at x ⊢
  obtain ⟨a0, ⟨b0, b1, b2, b3, b4, b5, b6, b7, b8, b9, b10⟩, a2, a3, a4, a5, a6, a7, a8, a9, a10, a11, a12, T, t1, t2, t3, t4⟩ := x
  have K7 := b0
  have w1 := a0.2.2.1.1
  have w2 := a0.2.2.1.2.1
  have e6 : ∀ k j, k < 7 → j < 7 → h (o' + 6 + k) j = b (o + 6 + k) j := fun k j hk hj => by rw [show o' + 6 + k = o' + (6 + k) by omega, show o + 6 + k = o + (6 + k) by omega]; exact e _ _ (by unfold rel; omega)
  have e14 : ∀ k j, k < 7 → j < 7 → h (o' + 14 + k) j = b (o + 14 + k) j := fun k j hk hj => by rw [show o' + 14 + k = o' + (14 + k) by omega, show o + 14 + k = o + (14 + k) by omega]; exact e _ _ (by unfold rel; omega)
  have e32 : ∀ k j, k < 8 → j < 7 → h (o' + 32 + k) j = b (o + 32 + k) j := fun k j hk hj => by rw [show o' + 32 + k = o' + (32 + k) by omega, show o + 32 + k = o + (32 + k) by omega]; exact e _ _ (by unfold rel; omega)
  have x23 : ∀ j, j < 5 → h (o' + 23) j = b (o + 23) j := fun j hj => e _ _ (by unfold rel; omega)
  have x1 : ∀ j, j < 5 → h (o' + 1) j = b (o + 1) j := fun j hj => e _ _ (by unfold rel; omega)
  refine ⟨a0, ⟨b0, by rw [x1 0 (by omega)]; exact b1, by rw [x1 1 (by omega)]; exact b2, ?_, ?_, by rw [x23 0 (by omega)]; exact b5, by rw [x23 1 (by omega)]; exact b6, by rw [x23 2 (by omega)]; exact b7, by rw [x23 3 (by omega)]; exact b8, by rw [x23 4 (by omega)]; exact b9, ?_⟩, a2, a3, by rw [x1 3 (by omega)]; exact a4, by rw [x1 2 (by omega)]; exact a5, by rw [x1 4 (by omega)]; exact a6, ?_, ?_, ?_, ?_, ?_, ?_, T, t1, t2, by rw [e 21 1 (by unfold rel; omega)]; exact t3, ?_⟩
  · intro k hk
    rw [e 2 k (by unfold rel; omega), e 3 k (by unfold rel; omega), e 4 k (by unfold rel; omega)]; exact b3 k hk
  · intro k j hk hj
    rw [e6 k j (by omega) (by omega), e14 k j (by omega) (by omega)]; exact b4 k j hk hj
  · intro c hc
    obtain ⟨p1, p2, p3⟩ := b10 c hc
    have hle : ln L (c + 1) ≤ ln L L.length := ln_le L (by omega)
    have hln : ln L (c + 1) = ln L c + (cl L c).2.length := rfl
    have y24 : h (o' + 24) c = b (o + 24) c := e _ _ (by unfold rel; omega)
    have y25 : h (o' + 24 + 1) c = b (o + 24 + 1) c := e 25 c (by unfold rel; omega)
    refine ⟨by rw [y24]; exact p1, by rw [y25]; exact p2, fun i hi => ?_⟩
    have y26 : h (o' + 24 + 2) (ln L c + i) = b (o + 24 + 2) (ln L c + i) := e 26 _ (by unfold rel; omega)
    have y27 : h (o' + 24 + 3) (ln L c + i) = b (o + 24 + 3) (ln L c + i) := e 27 _ (by unfold rel; omega)
    have y28 : h (o' + 24 + 4) (ln L c + i) = b (o + 24 + 4) (ln L c + i) := e 28 _ (by unfold rel; omega)
    rw [y26, y27, y28]; exact p3 i hi
  · intro t ht
    rw [e 30 t (by unfold rel; omega)]; exact a7 t ht
  · intro t k ht hk
    rw [e32 t k (by omega) hk]; exact a8 t k ht hk
  · intro t k h1 h2 hk
    rw [e32 t k h2 hk]; exact a9 t k h1 h2 hk
  · intro t ht
    rw [e 30 t (by unfold rel; omega)]; exact a10 t ht
  · intro k j hk hj
    rw [e6 k j (by omega) hj, e14 k j (by omega) hj]; exact a11 k j hk hj
  · intro k j h1 h2 hj
    rw [e6 k j h2 hj, e14 k j h2 hj, e 4 k (by unfold rel; omega)]; exact a12 k j h1 h2 hj
  · intro i hi
    rw [e 22 i (by unfold rel; omega)]; exact t4 i hi
theorem RX.rw9 {o : Nat} (x : RX o s P K L n h) (e : ∀ i, i < 490 → s' i = s i) : RX o s' P K L n h := by
  obtain ⟨⟨K7, s0, wf, c6, c7, c8, sk, sw, s5, sL⟩, ⟨b0, b1, b2, b3, b4, b5, b6, b7, b8, b9, b10⟩, a2, a3, a4, a5, a6, a7, a8, a9, a10, a11, a12, T, t1, t2, t3, t4⟩ := x
  have hw := wf.2.1
  have hl := wf.1
  refine ⟨⟨K7, by rw [e 0 (by omega)]; exact s0, wf, by rw [e 6 (by omega)]; exact c6, by rw [e 7 (by omega)]; exact c7, by rw [e 8 (by omega)]; exact c8, ?_, ?_, by rw [e 5 (by omega)]; exact s5, ?_⟩, ⟨b0, b1, ?_, ?_, ?_, by rw [e 6 (by omega)]; exact b5, by rw [e 7 (by omega)]; exact b6, by rw [e 8 (by omega)]; exact b7, b8, b9, b10⟩, a2, by rw [e 2 (by omega)]; exact a3, a4, by rw [e 1 (by omega)]; exact a5, by rw [e 4 (by omega)]; exact a6, ?_, ?_, a9, a10, ?_, a12, T, t1, by rw [e 3 (by omega)]; exact t2, t3, ?_⟩
  · intro k hk
    rw [e (270 + k) (by omega), e (280 + k) (by omega), e (290 + k) (by omega)]; exact sk k hk
  · intro k o hk ho
    rw [e (310 + 7 * k + o) (by omega), e (360 + 7 * k + o) (by omega)]; exact sw k o hk ho
  · intro c hc
    have h1 : ln L (c + 1) ≤ ln L L.length := ln_le L (by omega)
    have h2 : ln L (c + 1) = ln L c + (cl L c).2.length := rfl
    refine ⟨by rw [e _ (by omega)]; exact (sL c hc).1, fun i hi => by rw [e _ (by omega)]; exact (sL c hc).2 i hi⟩
  · rw [b2]; exact mk_cong fun k hk => by unfold lv; rw [e _ (by omega)]
  · intro k hk
    rw [e (270 + k) (by omega), e (280 + k) (by omega), e (300 + k) (by omega)]; exact b3 k hk
  · intro k j hk hj
    rw [e (310 + 7 * k + j) (by omega), e (360 + 7 * k + j) (by omega)]; exact b4 k j hk hj
  · intro t ht
    rw [e (410 + t) (by omega), e (420 + t) (by omega)]; exact a7 t ht
  · intro t k ht hk
    rw [e (430 + 7 * t + k) (by omega)]; exact a8 t k ht hk
  · intro k j hk hj
    rw [e (310 + 7 * k + j) (by omega), e (360 + 7 * k + j) (by omega)]; exact a11 k j hk hj
  · intro i hi
    rw [e (10 + i) (by omega)]; exact t4 i hi
theorem become_h41_h1 (hok : ∀ t, t < 8 → okq P (b 30 t) = some ()) : Rs (fun h => (∀ q, ¬ (41 ≤ q ∧ q ≤ 79) → h q = b q) ∧ (∀ r j, rel r j → h (40 + r) j = b (0 + r) j) ∧ ∀ j, 8 ≤ j → h (40 + 30) j = b (40 + 30) j) (fX3_become_h41_h1 P b) 0 := by
  have f1 : ∀ (g : HT) (j : Nat) (w : Int32), hu g 41 j w 1 = g 1 := fun g j w => hu_r (by omega)
  simp only [fX3_become_h41_h1, f1]
  refine loop0 (K := 7) (F := fun n k g => fX3_become_h41_h1_42 P n (nI k) g) (fun k g => cpA 40 0 b k g) (n := 1000) (by omega) ⟨fun q hq => by rw [hu_r (by omega), hu_r (by omega), hu_r (by omega), hu_r (by omega), hu_r (by omega)], ⟨?_, fun j _ => by rw [hu_r (by omega), hu_r (by omega), hu_r (by omega), hu_r (by omega), hu_r (by omega)]⟩, fun i hi => absurd hi (Nat.not_lt_zero i)⟩ ?_ ?_
  · intro j hj
    have : j = 0 ∨ j = 1 ∨ j = 2 ∨ j = 3 ∨ j = 4 := by omega
    rcases this with rfl | rfl | rfl | rfl | rfl
    · rw [hu_ne (by omega), hu_ne (by omega), hu_ne (by omega), hu_ne (by omega), hu_eq]
    · rw [hu_ne (by omega), hu_ne (by omega), hu_ne (by omega), hu_eq]
    · rw [hu_ne (by omega), hu_ne (by omega), hu_eq]
    · rw [hu_ne (by omega), hu_eq]
    · rw [hu_eq]
  · intro n k g hk ⟨g1, g2, g3⟩
    left
    have c7 : ck 7 (nI k) = some k := ckI rfl hk
    have n7 : ¬ (7 : Int32) ≤ nI k := nI_ge (b := 7) hk (by omega)
    have s2 : ∀ q, 1 ≤ q → q ≤ 39 → g q = b q := fun q h1 h2 => g1 q (by omega)
    have e3 : hu g 42 k (b 2 k) 3 k = b 3 k := by rw [hu_r (by omega), s2 _ (by omega) (by omega)]
    have e4 : (hu (hu g 42 k (b 2 k)) 43 k (b 3 k)) 4 k = b 4 k := by rw [hu_r (by omega), hu_r (by omega), s2 _ (by omega) (by omega)]
    generalize hG : hu (hu (hu g 42 k (b 2 k)) 43 k (b 3 k)) 44 k (b 4 k) = G
    have Gn : ∀ q, q ≠ 42 → q ≠ 43 → q ≠ 44 → G q = g q := fun q h1 h2 h3 => by rw [← hG, hu_r h3, hu_r h2, hu_r h1]
    refine ⟨hcp (hcp G (46 + k) (6 + k) 7) (54 + k) (14 + k) 7, ⟨fun q hq => ?_, ⟨fun j hj => ?_, fun j hj => by rw [hcp_ne (by omega), hcp_ne (by omega), Gn _ (by omega) (by omega) (by omega)]; exact g2.2 j hj⟩, fun i hi => ?_⟩, ?_⟩
    · rw [hcp_ne (by omega), hcp_ne (by omega), Gn _ (by omega) (by omega) (by omega)]; exact g1 q hq
    · rw [hcp_ne (by omega), hcp_ne (by omega), Gn _ (by omega) (by omega) (by omega)]; exact g2.1 j hj
    · have hG2 : ∀ i, G 42 i = if i = k then b 2 k else g 42 i := fun i => by
        rw [← hG, hu_r (by omega), hu_r (by omega)]
        by_cases z : i = k
        · subst z; rw [hu_eq, if_pos rfl]
        · rw [hu_ne (by omega), if_neg z]
      have hG3 : ∀ i, G 43 i = if i = k then b 3 k else g 43 i := fun i => by
        rw [← hG, hu_r (by omega)]
        by_cases z : i = k
        · subst z; rw [hu_eq, if_pos rfl]
        · rw [hu_ne (by omega), hu_r (by omega), if_neg z]
      have hG4 : ∀ i, G 44 i = if i = k then b 4 k else g 44 i := fun i => by
        rw [← hG]
        by_cases z : i = k
        · subst z; rw [hu_eq, if_pos rfl]
        · rw [hu_ne (by omega), hu_r (by omega), hu_r (by omega), if_neg z]
      by_cases z : i = k
      · subst z
        rw [hcp_ne (show 40 + 2 ≠ 54 + i by omega), hcp_ne (show 40 + 2 ≠ 46 + i by omega), hcp_ne (show 40 + 3 ≠ 54 + i by omega), hcp_ne (show 40 + 3 ≠ 46 + i by omega), hcp_ne (show 40 + 4 ≠ 54 + i by omega), hcp_ne (show 40 + 4 ≠ 46 + i by omega)]
        refine ⟨by show G 42 i = _; rw [hG2, if_pos rfl], by show G 43 i = _; rw [hG3, if_pos rfl], by show G 44 i = _; rw [hG4, if_pos rfl], fun j hj => ⟨?_, ?_⟩⟩
        · rw [hcp_ne (by omega), show 40 + 6 + i = 46 + i by omega, hcp_eq hj, Gn _ (by omega) (by omega) (by omega), s2 _ (by omega) (by omega)]
        · rw [show 40 + 14 + i = 54 + i by omega, hcp_eq hj, hcp_ne (by omega), Gn _ (by omega) (by omega) (by omega), s2 _ (by omega) (by omega)]
      · obtain ⟨o1, o2, o3, o4⟩ := g3 i (by omega)
        rw [hcp_ne (show 40 + 2 ≠ 54 + k by omega), hcp_ne (show 40 + 2 ≠ 46 + k by omega), hcp_ne (show 40 + 3 ≠ 54 + k by omega), hcp_ne (show 40 + 3 ≠ 46 + k by omega), hcp_ne (show 40 + 4 ≠ 54 + k by omega), hcp_ne (show 40 + 4 ≠ 46 + k by omega)]
        refine ⟨by show G 42 i = _; rw [hG2, if_neg z]; exact o1, by show G 43 i = _; rw [hG3, if_neg z]; exact o2, by show G 44 i = _; rw [hG4, if_neg z]; exact o3, fun j hj => ⟨?_, ?_⟩⟩
        · rw [hcp_ne (by omega), hcp_ne (by omega), Gn _ (by omega) (by omega) (by omega)]; exact (o4 j hj).1
        · rw [hcp_ne (by omega), hcp_ne (by omega), Gn _ (by omega) (by omega) (by omega)]; exact (o4 j hj).2
    · show fX3_become_h41_h1_42 P (n + 1) (nI k) g = fX3_become_h41_h1_42 P n (nI (k + 1)) _
      have g2k : g 2 k = b 2 k := by rw [s2 _ (by omega) (by omega)]
      simp only [fX3_become_h41_h1_42, if_neg n7, c7, ob_s, g2k, e3, e4, hG, nI_1]
  · intro n g ⟨g1, g2, g3⟩
    show Rs _ (fX3_become_h41_h1_42 P (n + 1) (nI 7) g) 0
    simp only [fX3_become_h41_h1_42, if_pos (show (7 : Int32) ≤ nI 7 from Int32.le_refl _)]
    refine loop0 (K := 8) (F := fun n k g => fX3_become_h41_h1_130 P n (nI k) g) (fun k g => cpA 40 0 b 7 g ∧ ∀ t, t < k → g (40 + 30) t = b (0 + 30) t ∧ ∀ j, j < 7 → g (40 + 32 + t) j = b (0 + 32 + t) j) (n := 1000) (by omega) ⟨⟨g1, g2, g3⟩, fun t ht => absurd ht (Nat.not_lt_zero t)⟩ ?_ ?_
    · intro n k g hk ⟨⟨g1, g2, g3⟩, g4⟩
      left
      have c8 : ck 8 (nI k) = some k := ckI rfl hk
      have c9 : ck 9 (nI k) = some k := ckI rfl (by omega)
      have n8 : ¬ (8 : Int32) ≤ nI k := nI_ge (b := 8) hk (by omega)
      have s2 : ∀ q, 1 ≤ q → q ≤ 39 → g q = b q := fun q h1 h2 => g1 q (by omega)
      have g30 : g 30 k = b 30 k := by rw [s2 _ (by omega) (by omega)]
      refine ⟨hcp (hu g 70 k (b 30 k)) (72 + k) (32 + k) 7, ⟨⟨fun q hq => ?_, ⟨fun j hj => ?_, fun j hj => by rw [hcp_ne (by omega), hu_ne (by omega)]; exact g2.2 j hj⟩, fun i hi => ?_⟩, fun t ht => ?_⟩, ?_⟩
      · rw [hcp_ne (by omega), hu_r (by omega)]; exact g1 q hq
      · rw [hcp_ne (by omega), hu_r (by omega)]; exact g2.1 j hj
      · obtain ⟨o1, o2, o3, o4⟩ := g3 i hi
        rw [hcp_ne (show 40 + 2 ≠ 72 + k by omega), hcp_ne (show 40 + 3 ≠ 72 + k by omega), hcp_ne (show 40 + 4 ≠ 72 + k by omega), hu_r (show 40 + 2 ≠ 70 by omega), hu_r (show 40 + 3 ≠ 70 by omega), hu_r (show 40 + 4 ≠ 70 by omega)]
        refine ⟨o1, o2, o3, fun j hj => ?_⟩
        rw [hcp_ne (show 40 + 6 + i ≠ 72 + k by omega), hcp_ne (show 40 + 14 + i ≠ 72 + k by omega), hu_r (show 40 + 6 + i ≠ 70 by omega), hu_r (show 40 + 14 + i ≠ 70 by omega)]
        exact o4 j hj
      · by_cases z : t = k
        · subst z
          refine ⟨?_, fun j hj => ?_⟩
          · rw [hcp_ne (by omega)]; exact hu_eq
          · rw [show 40 + 32 + t = 72 + t by omega, hcp_eq hj, hu_r (by omega), s2 _ (by omega) (by omega)]
        · obtain ⟨o1, o2⟩ := g4 t (by omega)
          refine ⟨?_, fun j hj => ?_⟩
          · rw [hcp_ne (by omega), hu_ne (by omega)]; exact o1
          · rw [hcp_ne (by omega), hu_r (by omega)]; exact o2 j hj
      · show fX3_become_h41_h1_130 P (n + 1) (nI k) g = fX3_become_h41_h1_130 P n (nI (k + 1)) _
        simp only [fX3_become_h41_h1_130, if_neg n8, c8, c9, ob_s, g30, hok k hk, nI_1]
    · intro n g ⟨⟨g1, g2, g3⟩, g4⟩
      show Rs _ (fX3_become_h41_h1_130 P (n + 1) (nI 8) g) 0
      have s2 : ∀ q, 1 ≤ q → q ≤ 39 → g q = b q := fun q h1 h2 => g1 q (by omega)
      have f2 : ∀ (g : HT) (j : Nat) (w : Int32), hu g 63 j w 23 = g 23 := fun g j w => hu_r (by omega)
      simp only [fX3_become_h41_h1_130, if_pos (show (8 : Int32) ≤ nI 8 from Int32.le_refl _), fX6_become_h61_h21, ob_s, fX10_become_h63_h23, f2]
      have q21 : (hcp g 62 22 120) 21 1 = b 21 1 := by rw [hcp_ne (by omega), s2 _ (by omega) (by omega)]
      rw [q21]
      generalize hA : hu (hcp g 62 22 120) 61 1 (b 21 1) = A
      have An : ∀ q, q ≠ 61 → q ≠ 62 → A q = g q := fun q h1 h2 => by rw [← hA, hu_r h1, hcp_ne h2]
      have A23 : A 23 = b 23 := by rw [An _ (by omega) (by omega), s2 _ (by omega) (by omega)]
      rw [A23]
      generalize hB : hu (hu (hu (hu (hu A 63 0 (b 23 0)) 63 1 (b 23 1)) 63 2 (b 23 2)) 63 3 (b 23 3)) 63 4 (b 23 4) = B
      have Bn : ∀ q, q ≠ 63 → B q = A q := fun q h1 => by rw [← hB, hu_r h1, hu_r h1, hu_r h1, hu_r h1, hu_r h1]
      have B23 : ∀ j, j < 5 → B 63 j = b 23 j := fun j hj => by
        rw [← hB]
        have : j = 0 ∨ j = 1 ∨ j = 2 ∨ j = 3 ∨ j = 4 := by omega
        rcases this with rfl | rfl | rfl | rfl | rfl
        · rw [hu_ne (by omega), hu_ne (by omega), hu_ne (by omega), hu_ne (by omega), hu_eq]
        · rw [hu_ne (by omega), hu_ne (by omega), hu_ne (by omega), hu_eq]
        · rw [hu_ne (by omega), hu_ne (by omega), hu_eq]
        · rw [hu_ne (by omega), hu_eq]
        · rw [hu_eq]
      have Bs : ∀ q, 1 ≤ q → q ≤ 39 → B q = b q := fun q h1 h2 => by rw [Bn _ (by omega), An _ (by omega) (by omega)]; exact s2 q h1 h2
      have Cn : ∀ q, q ≠ 64 → q ≠ 65 → q ≠ 66 → q ≠ 67 → q ≠ 68 → (hcp (hcp (hcp (hcp (hcp B 64 24 10) 65 25 10) 66 26 120) 67 27 120) 68 28 120) q = B q := fun q h1 h2 h3 h4 h5 => by
        rw [hcp_ne h5, hcp_ne h4, hcp_ne h3, hcp_ne h2, hcp_ne h1]
      refine Rs.ok ⟨fun q hq => by rw [Cn q (by omega) (by omega) (by omega) (by omega) (by omega), Bn q (by omega), An q (by omega) (by omega)]; exact g1 q hq, fun r j hr => ?_, fun j hj => by rw [Cn _ (by omega) (by omega) (by omega) (by omega) (by omega), Bn _ (by omega), An _ (by omega) (by omega)]; exact g2.2 j hj⟩
      have un : (r < 21 ∨ 29 < r) → (hcp (hcp (hcp (hcp (hcp B 64 24 10) 65 25 10) 66 26 120) 67 27 120) 68 28 120) (40 + r) = g (40 + r) := fun z => by
        rw [Cn _ (by omega) (by omega) (by omega) (by omega) (by omega), Bn _ (by omega), An _ (by omega) (by omega)]
      unfold rel at hr
      rcases hr with ⟨rfl, hj⟩ | ⟨h1, h2, hj⟩ | ⟨h1, h2, hj⟩ | ⟨h1, h2, hj⟩ | ⟨rfl, rfl⟩ | ⟨rfl, hj⟩ | ⟨rfl, hj⟩ | ⟨rfl, hj⟩ | ⟨rfl, hj⟩ | ⟨h1, h2, hj⟩ | ⟨rfl, hj⟩ | ⟨h1, h2, hj⟩
      · rw [un (by omega)]; exact g2.1 j hj
      · rw [un (by omega)]
        obtain ⟨o1, o2, o3, o4⟩ := g3 j hj
        have : r = 2 ∨ r = 3 ∨ r = 4 := by omega
        rcases this with rfl | rfl | rfl
        · exact o1
        · exact o2
        · exact o3
      · rw [un (by omega)]
        have := ((g3 (r - 6) (by omega)).2.2.2 j hj).1
        rwa [show 40 + 6 + (r - 6) = 40 + r by omega, show 0 + 6 + (r - 6) = 0 + r by omega] at this
      · rw [un (by omega)]
        have := ((g3 (r - 14) (by omega)).2.2.2 j hj).2
        rwa [show 40 + 14 + (r - 14) = 40 + r by omega, show 0 + 14 + (r - 14) = 0 + r by omega] at this
      · rw [Cn _ (by omega) (by omega) (by omega) (by omega) (by omega), Bn _ (by omega), ← hA]; exact hu_eq
      · rw [Cn _ (by omega) (by omega) (by omega) (by omega) (by omega), Bn _ (by omega), ← hA, hu_r (by omega)]
        show hcp g 62 22 120 62 j = b 22 j
        rw [hcp_eq hj, s2 _ (by omega) (by omega)]
      · rw [Cn _ (by omega) (by omega) (by omega) (by omega) (by omega)]; exact B23 j hj
      · rw [hcp_ne (by omega), hcp_ne (by omega), hcp_ne (by omega), hcp_ne (by omega)]
        show hcp B 64 24 10 64 j = b 24 j
        rw [hcp_eq hj, Bs _ (by omega) (by omega)]
      · rw [hcp_ne (by omega), hcp_ne (by omega), hcp_ne (by omega)]
        show hcp (hcp B 64 24 10) 65 25 10 65 j = b 25 j
        rw [hcp_eq hj, hcp_ne (by omega), Bs _ (by omega) (by omega)]
      · have : r = 26 ∨ r = 27 ∨ r = 28 := by omega
        rcases this with rfl | rfl | rfl
        · rw [hcp_ne (by omega), hcp_ne (by omega)]
          show hcp (hcp (hcp B 64 24 10) 65 25 10) 66 26 120 66 j = b 26 j
          rw [hcp_eq hj, hcp_ne (by omega), hcp_ne (by omega), Bs _ (by omega) (by omega)]
        · rw [hcp_ne (by omega)]
          show hcp (hcp (hcp (hcp B 64 24 10) 65 25 10) 66 26 120) 67 27 120 67 j = b 27 j
          rw [hcp_eq hj, hcp_ne (by omega), hcp_ne (by omega), hcp_ne (by omega), Bs _ (by omega) (by omega)]
        · show hcp (hcp (hcp (hcp (hcp B 64 24 10) 65 25 10) 66 26 120) 67 27 120) 68 28 120 68 j = b 28 j
          rw [hcp_eq hj, hcp_ne (by omega), hcp_ne (by omega), hcp_ne (by omega), hcp_ne (by omega), Bs _ (by omega) (by omega)]
      · rw [un (by omega)]; exact (g4 j hj).1
      · rw [un (by omega)]
        have := (g4 (r - 32) (by omega)).2 j hj
        rwa [show 40 + 32 + (r - 32) = 40 + r by omega, show 0 + 32 + (r - 32) = 0 + r by omega] at this
theorem become_h1_h41 (hok : ∀ t, t < 8 → okq P (b 70 t) = some ()) : Rs (fun h => (∀ q, ¬ (1 ≤ q ∧ q ≤ 39) → h q = b q) ∧ (∀ r j, rel r j → h (0 + r) j = b (40 + r) j) ∧ ∀ j, 8 ≤ j → h (0 + 30) j = b (0 + 30) j) (fX3_become_h1_h41 P b) 0 := by
  have f1 : ∀ (g : HT) (j : Nat) (w : Int32), hu g 1 j w 41 = g 41 := fun g j w => hu_r (by omega)
  simp only [fX3_become_h1_h41, f1]
  refine loop0 (K := 7) (F := fun n k g => fX3_become_h1_h41_42 P n (nI k) g) (fun k g => cpA 0 40 b k g) (n := 1000) (by omega) ⟨fun q hq => by rw [hu_r (by omega), hu_r (by omega), hu_r (by omega), hu_r (by omega), hu_r (by omega)], ⟨?_, fun j _ => by rw [hu_r (by omega), hu_r (by omega), hu_r (by omega), hu_r (by omega), hu_r (by omega)]⟩, fun i hi => absurd hi (Nat.not_lt_zero i)⟩ ?_ ?_
  · intro j hj
    have : j = 0 ∨ j = 1 ∨ j = 2 ∨ j = 3 ∨ j = 4 := by omega
    rcases this with rfl | rfl | rfl | rfl | rfl
    · rw [hu_ne (by omega), hu_ne (by omega), hu_ne (by omega), hu_ne (by omega), hu_eq]
    · rw [hu_ne (by omega), hu_ne (by omega), hu_ne (by omega), hu_eq]
    · rw [hu_ne (by omega), hu_ne (by omega), hu_eq]
    · rw [hu_ne (by omega), hu_eq]
    · rw [hu_eq]
  · intro n k g hk ⟨g1, g2, g3⟩
    left
    have c7 : ck 7 (nI k) = some k := ckI rfl hk
    have n7 : ¬ (7 : Int32) ≤ nI k := nI_ge (b := 7) hk (by omega)
    have s2 : ∀ q, 41 ≤ q → q ≤ 79 → g q = b q := fun q h1 h2 => g1 q (by omega)
    have e3 : hu g 2 k (b 42 k) 43 k = b 43 k := by rw [hu_r (by omega), s2 _ (by omega) (by omega)]
    have e4 : (hu (hu g 2 k (b 42 k)) 3 k (b 43 k)) 44 k = b 44 k := by rw [hu_r (by omega), hu_r (by omega), s2 _ (by omega) (by omega)]
    generalize hG : hu (hu (hu g 2 k (b 42 k)) 3 k (b 43 k)) 4 k (b 44 k) = G
    have Gn : ∀ q, q ≠ 2 → q ≠ 3 → q ≠ 4 → G q = g q := fun q h1 h2 h3 => by rw [← hG, hu_r h3, hu_r h2, hu_r h1]
    refine ⟨hcp (hcp G (6 + k) (46 + k) 7) (14 + k) (54 + k) 7, ⟨fun q hq => ?_, ⟨fun j hj => ?_, fun j hj => by rw [hcp_ne (by omega), hcp_ne (by omega), Gn _ (by omega) (by omega) (by omega)]; exact g2.2 j hj⟩, fun i hi => ?_⟩, ?_⟩
    · rw [hcp_ne (by omega), hcp_ne (by omega), Gn _ (by omega) (by omega) (by omega)]; exact g1 q hq
    · rw [hcp_ne (by omega), hcp_ne (by omega), Gn _ (by omega) (by omega) (by omega)]; exact g2.1 j hj
    · have hG2 : ∀ i, G 2 i = if i = k then b 42 k else g 2 i := fun i => by
        rw [← hG, hu_r (by omega), hu_r (by omega)]
        by_cases z : i = k
        · subst z; rw [hu_eq, if_pos rfl]
        · rw [hu_ne (by omega), if_neg z]
      have hG3 : ∀ i, G 3 i = if i = k then b 43 k else g 3 i := fun i => by
        rw [← hG, hu_r (by omega)]
        by_cases z : i = k
        · subst z; rw [hu_eq, if_pos rfl]
        · rw [hu_ne (by omega), hu_r (by omega), if_neg z]
      have hG4 : ∀ i, G 4 i = if i = k then b 44 k else g 4 i := fun i => by
        rw [← hG]
        by_cases z : i = k
        · subst z; rw [hu_eq, if_pos rfl]
        · rw [hu_ne (by omega), hu_r (by omega), hu_r (by omega), if_neg z]
      by_cases z : i = k
      · subst z
        rw [hcp_ne (show 0 + 2 ≠ 14 + i by omega), hcp_ne (show 0 + 2 ≠ 6 + i by omega), hcp_ne (show 0 + 3 ≠ 14 + i by omega), hcp_ne (show 0 + 3 ≠ 6 + i by omega), hcp_ne (show 0 + 4 ≠ 14 + i by omega), hcp_ne (show 0 + 4 ≠ 6 + i by omega)]
        refine ⟨by show G 2 i = _; rw [hG2, if_pos rfl], by show G 3 i = _; rw [hG3, if_pos rfl], by show G 4 i = _; rw [hG4, if_pos rfl], fun j hj => ⟨?_, ?_⟩⟩
        · rw [hcp_ne (by omega), show 0 + 6 + i = 6 + i by omega, hcp_eq hj, Gn _ (by omega) (by omega) (by omega), s2 _ (by omega) (by omega)]
        · rw [show 0 + 14 + i = 14 + i by omega, hcp_eq hj, hcp_ne (by omega), Gn _ (by omega) (by omega) (by omega), s2 _ (by omega) (by omega)]
      · obtain ⟨o1, o2, o3, o4⟩ := g3 i (by omega)
        rw [hcp_ne (show 0 + 2 ≠ 14 + k by omega), hcp_ne (show 0 + 2 ≠ 6 + k by omega), hcp_ne (show 0 + 3 ≠ 14 + k by omega), hcp_ne (show 0 + 3 ≠ 6 + k by omega), hcp_ne (show 0 + 4 ≠ 14 + k by omega), hcp_ne (show 0 + 4 ≠ 6 + k by omega)]
        refine ⟨by show G 2 i = _; rw [hG2, if_neg z]; exact o1, by show G 3 i = _; rw [hG3, if_neg z]; exact o2, by show G 4 i = _; rw [hG4, if_neg z]; exact o3, fun j hj => ⟨?_, ?_⟩⟩
        · rw [hcp_ne (by omega), hcp_ne (by omega), Gn _ (by omega) (by omega) (by omega)]; exact (o4 j hj).1
        · rw [hcp_ne (by omega), hcp_ne (by omega), Gn _ (by omega) (by omega) (by omega)]; exact (o4 j hj).2
    · show fX3_become_h1_h41_42 P (n + 1) (nI k) g = fX3_become_h1_h41_42 P n (nI (k + 1)) _
      have g2k : g 42 k = b 42 k := by rw [s2 _ (by omega) (by omega)]
      simp only [fX3_become_h1_h41_42, if_neg n7, c7, ob_s, g2k, e3, e4, hG, nI_1]
  · intro n g ⟨g1, g2, g3⟩
    show Rs _ (fX3_become_h1_h41_42 P (n + 1) (nI 7) g) 0
    simp only [fX3_become_h1_h41_42, if_pos (show (7 : Int32) ≤ nI 7 from Int32.le_refl _)]
    refine loop0 (K := 8) (F := fun n k g => fX3_become_h1_h41_130 P n (nI k) g) (fun k g => cpA 0 40 b 7 g ∧ ∀ t, t < k → g (0 + 30) t = b (40 + 30) t ∧ ∀ j, j < 7 → g (0 + 32 + t) j = b (40 + 32 + t) j) (n := 1000) (by omega) ⟨⟨g1, g2, g3⟩, fun t ht => absurd ht (Nat.not_lt_zero t)⟩ ?_ ?_
    · intro n k g hk ⟨⟨g1, g2, g3⟩, g4⟩
      left
      have c8 : ck 8 (nI k) = some k := ckI rfl hk
      have c9 : ck 9 (nI k) = some k := ckI rfl (by omega)
      have n8 : ¬ (8 : Int32) ≤ nI k := nI_ge (b := 8) hk (by omega)
      have s2 : ∀ q, 41 ≤ q → q ≤ 79 → g q = b q := fun q h1 h2 => g1 q (by omega)
      have g30 : g 70 k = b 70 k := by rw [s2 _ (by omega) (by omega)]
      refine ⟨hcp (hu g 30 k (b 70 k)) (32 + k) (72 + k) 7, ⟨⟨fun q hq => ?_, ⟨fun j hj => ?_, fun j hj => by rw [hcp_ne (by omega), hu_ne (by omega)]; exact g2.2 j hj⟩, fun i hi => ?_⟩, fun t ht => ?_⟩, ?_⟩
      · rw [hcp_ne (by omega), hu_r (by omega)]; exact g1 q hq
      · rw [hcp_ne (by omega), hu_r (by omega)]; exact g2.1 j hj
      · obtain ⟨o1, o2, o3, o4⟩ := g3 i hi
        rw [hcp_ne (show 0 + 2 ≠ 32 + k by omega), hcp_ne (show 0 + 3 ≠ 32 + k by omega), hcp_ne (show 0 + 4 ≠ 32 + k by omega), hu_r (show 0 + 2 ≠ 30 by omega), hu_r (show 0 + 3 ≠ 30 by omega), hu_r (show 0 + 4 ≠ 30 by omega)]
        refine ⟨o1, o2, o3, fun j hj => ?_⟩
        rw [hcp_ne (show 0 + 6 + i ≠ 32 + k by omega), hcp_ne (show 0 + 14 + i ≠ 32 + k by omega), hu_r (show 0 + 6 + i ≠ 30 by omega), hu_r (show 0 + 14 + i ≠ 30 by omega)]
        exact o4 j hj
      · by_cases z : t = k
        · subst z
          refine ⟨?_, fun j hj => ?_⟩
          · rw [hcp_ne (by omega)]; exact hu_eq
          · rw [show 0 + 32 + t = 32 + t by omega, hcp_eq hj, hu_r (by omega), s2 _ (by omega) (by omega)]
        · obtain ⟨o1, o2⟩ := g4 t (by omega)
          refine ⟨?_, fun j hj => ?_⟩
          · rw [hcp_ne (by omega), hu_ne (by omega)]; exact o1
          · rw [hcp_ne (by omega), hu_r (by omega)]; exact o2 j hj
      · show fX3_become_h1_h41_130 P (n + 1) (nI k) g = fX3_become_h1_h41_130 P n (nI (k + 1)) _
        simp only [fX3_become_h1_h41_130, if_neg n8, c8, c9, ob_s, g30, hok k hk, nI_1]
    · intro n g ⟨⟨g1, g2, g3⟩, g4⟩
      show Rs _ (fX3_become_h1_h41_130 P (n + 1) (nI 8) g) 0
      have s2 : ∀ q, 41 ≤ q → q ≤ 79 → g q = b q := fun q h1 h2 => g1 q (by omega)
      have f2 : ∀ (g : HT) (j : Nat) (w : Int32), hu g 23 j w 63 = g 63 := fun g j w => hu_r (by omega)
      simp only [fX3_become_h1_h41_130, if_pos (show (8 : Int32) ≤ nI 8 from Int32.le_refl _), fX6_become_h21_h61, ob_s, fX10_become_h23_h63, f2]
      have q21 : (hcp g 22 62 120) 61 1 = b 61 1 := by rw [hcp_ne (by omega), s2 _ (by omega) (by omega)]
      rw [q21]
      generalize hA : hu (hcp g 22 62 120) 21 1 (b 61 1) = A
      have An : ∀ q, q ≠ 21 → q ≠ 22 → A q = g q := fun q h1 h2 => by rw [← hA, hu_r h1, hcp_ne h2]
      have A23 : A 63 = b 63 := by rw [An _ (by omega) (by omega), s2 _ (by omega) (by omega)]
      rw [A23]
      generalize hB : hu (hu (hu (hu (hu A 23 0 (b 63 0)) 23 1 (b 63 1)) 23 2 (b 63 2)) 23 3 (b 63 3)) 23 4 (b 63 4) = B
      have Bn : ∀ q, q ≠ 23 → B q = A q := fun q h1 => by rw [← hB, hu_r h1, hu_r h1, hu_r h1, hu_r h1, hu_r h1]
      have B23 : ∀ j, j < 5 → B 23 j = b 63 j := fun j hj => by
        rw [← hB]
        have : j = 0 ∨ j = 1 ∨ j = 2 ∨ j = 3 ∨ j = 4 := by omega
        rcases this with rfl | rfl | rfl | rfl | rfl
        · rw [hu_ne (by omega), hu_ne (by omega), hu_ne (by omega), hu_ne (by omega), hu_eq]
        · rw [hu_ne (by omega), hu_ne (by omega), hu_ne (by omega), hu_eq]
        · rw [hu_ne (by omega), hu_ne (by omega), hu_eq]
        · rw [hu_ne (by omega), hu_eq]
        · rw [hu_eq]
      have Bs : ∀ q, 41 ≤ q → q ≤ 79 → B q = b q := fun q h1 h2 => by rw [Bn _ (by omega), An _ (by omega) (by omega)]; exact s2 q h1 h2
      have Cn : ∀ q, q ≠ 24 → q ≠ 25 → q ≠ 26 → q ≠ 27 → q ≠ 28 → (hcp (hcp (hcp (hcp (hcp B 24 64 10) 25 65 10) 26 66 120) 27 67 120) 28 68 120) q = B q := fun q h1 h2 h3 h4 h5 => by
        rw [hcp_ne h5, hcp_ne h4, hcp_ne h3, hcp_ne h2, hcp_ne h1]
      refine Rs.ok ⟨fun q hq => by rw [Cn q (by omega) (by omega) (by omega) (by omega) (by omega), Bn q (by omega), An q (by omega) (by omega)]; exact g1 q hq, fun r j hr => ?_, fun j hj => by rw [Cn _ (by omega) (by omega) (by omega) (by omega) (by omega), Bn _ (by omega), An _ (by omega) (by omega)]; exact g2.2 j hj⟩
      have un : (r < 21 ∨ 29 < r) → (hcp (hcp (hcp (hcp (hcp B 24 64 10) 25 65 10) 26 66 120) 27 67 120) 28 68 120) (0 + r) = g (0 + r) := fun z => by
        rw [Cn _ (by omega) (by omega) (by omega) (by omega) (by omega), Bn _ (by omega), An _ (by omega) (by omega)]
      unfold rel at hr
      rcases hr with ⟨rfl, hj⟩ | ⟨h1, h2, hj⟩ | ⟨h1, h2, hj⟩ | ⟨h1, h2, hj⟩ | ⟨rfl, rfl⟩ | ⟨rfl, hj⟩ | ⟨rfl, hj⟩ | ⟨rfl, hj⟩ | ⟨rfl, hj⟩ | ⟨h1, h2, hj⟩ | ⟨rfl, hj⟩ | ⟨h1, h2, hj⟩
      · rw [un (by omega)]; exact g2.1 j hj
      · rw [un (by omega)]
        obtain ⟨o1, o2, o3, o4⟩ := g3 j hj
        have : r = 2 ∨ r = 3 ∨ r = 4 := by omega
        rcases this with rfl | rfl | rfl
        · exact o1
        · exact o2
        · exact o3
      · rw [un (by omega)]
        have := ((g3 (r - 6) (by omega)).2.2.2 j hj).1
        rwa [show 0 + 6 + (r - 6) = 0 + r by omega, show 40 + 6 + (r - 6) = 40 + r by omega] at this
      · rw [un (by omega)]
        have := ((g3 (r - 14) (by omega)).2.2.2 j hj).2
        rwa [show 0 + 14 + (r - 14) = 0 + r by omega, show 40 + 14 + (r - 14) = 40 + r by omega] at this
      · rw [Cn _ (by omega) (by omega) (by omega) (by omega) (by omega), Bn _ (by omega), ← hA]; exact hu_eq
      · rw [Cn _ (by omega) (by omega) (by omega) (by omega) (by omega), Bn _ (by omega), ← hA, hu_r (by omega)]
        show hcp g 22 62 120 22 j = b 62 j
        rw [hcp_eq hj, s2 _ (by omega) (by omega)]
      · rw [Cn _ (by omega) (by omega) (by omega) (by omega) (by omega)]; exact B23 j hj
      · rw [hcp_ne (by omega), hcp_ne (by omega), hcp_ne (by omega), hcp_ne (by omega)]
        show hcp B 24 64 10 24 j = b 64 j
        rw [hcp_eq hj, Bs _ (by omega) (by omega)]
      · rw [hcp_ne (by omega), hcp_ne (by omega), hcp_ne (by omega)]
        show hcp (hcp B 24 64 10) 25 65 10 25 j = b 65 j
        rw [hcp_eq hj, hcp_ne (by omega), Bs _ (by omega) (by omega)]
      · have : r = 26 ∨ r = 27 ∨ r = 28 := by omega
        rcases this with rfl | rfl | rfl
        · rw [hcp_ne (by omega), hcp_ne (by omega)]
          show hcp (hcp (hcp B 24 64 10) 25 65 10) 26 66 120 26 j = b 66 j
          rw [hcp_eq hj, hcp_ne (by omega), hcp_ne (by omega), Bs _ (by omega) (by omega)]
        · rw [hcp_ne (by omega)]
          show hcp (hcp (hcp (hcp B 24 64 10) 25 65 10) 26 66 120) 27 67 120 27 j = b 67 j
          rw [hcp_eq hj, hcp_ne (by omega), hcp_ne (by omega), hcp_ne (by omega), Bs _ (by omega) (by omega)]
        · show hcp (hcp (hcp (hcp (hcp B 24 64 10) 25 65 10) 26 66 120) 27 67 120) 28 68 120 28 j = b 68 j
          rw [hcp_eq hj, hcp_ne (by omega), hcp_ne (by omega), hcp_ne (by omega), hcp_ne (by omega), Bs _ (by omega) (by omega)]
      · rw [un (by omega)]; exact (g4 j hj).1
      · rw [un (by omega)]
        have := (g4 (r - 32) (by omega)).2 j hj
        rwa [show 0 + 32 + (r - 32) = 0 + r by omega, show 40 + 32 + (r - 32) = 40 + r by omega] at this
theorem imageR : Rs (fun g => (∀ i, i < 490 → g 95 i = h 94 i) ∧ g 93 3 = 1 ∧ ∀ q j, q ≠ 95 → ¬ (q = 93 ∧ j = 3) → g q j = h q j) (fX12_image h) (h 94 0) := by
  refine loop0 (K := 490) (F := fun n k g => fX12_image_2 n (nI k) g) (fun k g => (∀ i, i < k → g 95 i = h 94 i) ∧ ∀ q, q ≠ 95 → g q = h q) (n := 1000) (by omega) ⟨fun i hi => absurd hi (Nat.not_lt_zero i), fun _ _ => rfl⟩ ?_ ?_
  · intro n k g hk ⟨g1, g2⟩
    left
    have c1 : ck 490 (nI k) = some k := ckI rfl hk
    have n1 : ¬ (490 : Int32) ≤ nI k := nI_ge (b := 490) hk (by omega)
    refine ⟨hu g 95 k (g 94 k), ⟨fun i hi => ?_, fun q hq => by rw [hu_r hq]; exact g2 q hq⟩, ?_⟩
    · by_cases z : i = k
      · subst z; rw [hu_eq, g2 94 (by omega)]
      · rw [hu_ne (by omega)]; exact g1 i (by omega)
    · show fX12_image_2 (n + 1) (nI k) g = fX12_image_2 n (nI (k + 1)) _
      simp only [fX12_image_2, if_neg n1, c1, ob_s, nI_1]
  · intro n g ⟨g1, g2⟩
    show Rs _ (fX12_image_2 (n + 1) (nI 490) g) _
    have e : hu g 93 3 1 94 0 = h 94 0 := by rw [hu_ne (by omega), g2 94 (by omega)]
    simp only [fX12_image_2, if_pos (show (490 : Int32) ≤ nI 490 from Int32.le_refl _), e]
    exact Rs.ok ⟨fun i hi => by rw [hu_ne (by omega)]; exact g1 i hi, hu_eq, fun q j h1 h2 => by rw [hu_ne (by omega), g2 q h1]⟩
theorem undoR : Rs (fun g => (∀ i, i < 490 → g 94 i = h 95 i) ∧ ∀ q, q ≠ 94 → g q = h q) (fX12_undo_12 1000 0 h) (h 95 0) := by
  refine loop0 (K := 490) (F := fun n k g => fX12_undo_12 n (nI k) g) (fun k g => (∀ i, i < k → g 94 i = h 95 i) ∧ ∀ q, q ≠ 94 → g q = h q) (n := 1000) (by omega) ⟨fun i hi => absurd hi (Nat.not_lt_zero i), fun _ _ => rfl⟩ ?_ ?_
  · intro n k g hk ⟨g1, g2⟩
    left
    have c1 : ck 490 (nI k) = some k := ckI rfl hk
    have n1 : ¬ (490 : Int32) ≤ nI k := nI_ge (b := 490) hk (by omega)
    refine ⟨hu g 94 k (g 95 k), ⟨fun i hi => ?_, fun q hq => by rw [hu_r hq]; exact g2 q hq⟩, ?_⟩
    · by_cases z : i = k
      · subst z; rw [hu_eq, g2 95 (by omega)]
      · rw [hu_ne (by omega)]; exact g1 i (by omega)
    · show fX12_undo_12 (n + 1) (nI k) g = fX12_undo_12 n (nI (k + 1)) _
      simp only [fX12_undo_12, if_neg n1, c1, ob_s, nI_1]
  · intro n g ⟨g1, g2⟩
    show Rs _ (fX12_undo_12 (n + 1) (nI 490) g) _
    simp only [fX12_undo_12, if_pos (show (490 : Int32) ≤ nI 490 from Int32.le_refl _), g1 0 (by omega)]
    exact Rs.ok ⟨g1, g2⟩
theorem m_image (X : Ix P K L n b) : Mu P b (fX11_image P) fX12_image := by
  have hK := X.K7
  have ok30 : ∀ t, t < 8 → okq P (b 30 t) = some () := X.1.2.2.2.2.2.2.2.2.2.2.1
  obtain ⟨h1, e1, f1, f2, f3⟩ := become_h41_h1 (P := P) (b := b) ok30
  have e0 : hu h1 0 2 1 1 0 = b 94 0 := by
    rw [hu_ne (by omega), f1 1 (by omega), X.s0]; exact (X.rc Qw.rfl').kings
  obtain ⟨h2, e2, g1, g2, g3⟩ := imageR (h := hu h1 0 2 1)
  have H : ∀ q, q ≠ 0 → ¬ (41 ≤ q ∧ q ≤ 79) → hu h1 0 2 1 q = b q := fun q hq1 hq2 => by rw [hu_r hq1]; exact f1 q hq2
  have h94 : h2 94 = b 94 := by rw [← H 94 (by omega) (by omega)]; exact funext fun j => g3 94 j (by omega) (by omega)
  have r : ∀ q, q ≠ 0 → q ≠ 93 → q ≠ 95 → ¬ (41 ≤ q ∧ q ≤ 79) → h2 q = b q := fun q a1 a2 a3 a4 => by rw [← H q a1 a4]; exact funext fun j => g3 q j a3 (by omega)
  obtain ⟨x2, x3, x4, c, c1, c2, c3, c4⟩ := X.2
  refine ⟨b 94 0, hu h1 0 2 1, h2, by simp only [fX11_image, e1, ob_s, e0], ?_, K, L, n, ?_, ⟨x2.1, fun j => ⟨?_, ?_⟩⟩, ?_, ?_, c, c1, ?_, ?_, ?_⟩
  · rw [e2, H 94 (by omega) (by omega)]
  · rw [h94]; exact X.1.e fun q h1 h2 h3 => r _ (by omega) (by omega) (by omega) (by omega)
  · rw [r 30 (by omega) (by omega) (by omega) (by omega)]; exact (x2.2 j).1
  · rw [g3 70 j (by omega) (by omega), hu_r (by omega)]
    by_cases z : j < 8
    · have := f2 30 j (by unfold rel; omega)
      rw [show h1 70 j = b 30 j from this]; exact (x2.2 j).1
    · have := f3 j (by omega)
      rw [show h1 70 j = b 70 j from this]; exact (x2.2 j).2
  · rw [g2, g3 0 2 (by omega) (by omega), hu_eq]
  · refine Or.inr ⟨g2, K, L, n, ?_⟩
    have y : RX 40 (b 94) P K L n h2 := X.1.e2 (o' := 40) fun q j hq => by
      have hb : 40 + q ≠ 93 ∧ 40 + q ≠ 95 ∧ 40 + q ≠ 0 := by unfold rel at hq; omega
      rw [g3 (40 + q) j hb.2.1 (by omega), hu_r hb.2.2]
      exact f2 q j hq
    refine y.rw9 fun i hi => ?_
    rw [g1 i hi, H 94 (by omega) (by omega)]
  · rw [r 91 (by omega) (by omega) (by omega) (by omega)]; exact c2
  · rw [g3 93 28 (by omega) (by omega), H 93 (by omega) (by omega)]; exact c3
  · rw [r 91 (by omega) (by omega) (by omega) (by omega), r 101 (by omega) (by omega) (by omega) (by omega)]; exact c4
theorem m_undo (X : Ix P K L n b) : Mu P b (fX11_undo P) fX12_undo := by
  obtain ⟨x2, x3, x4, c, c1, c2, c3, c4⟩ := X.2
  rcases x4 with x4 | ⟨x4, K', L', n', y⟩
  · refine Bo.mu X ⟨-3, fun g q => ?_, fun g q => ?_⟩
    · have : g 0 2 = 0 := by rw [show g 0 = b 0 from q.row (by omega), x3, x4]
      simp only [fX11_undo, if_pos this]; exact Rs.ok q
    · have : g 93 3 = 0 := by rw [q 93 3 (by unfold scr; omega), x4]
      simp only [fX12_undo, if_pos this]; exact Rs.ok q
  · have ok70 : ∀ t, t < 8 → okq P (b 70 t) = some () := y.2.2.2.2.2.2.2.2.2.2.1
    obtain ⟨h1, e1, f1, f2, f3⟩ := become_h1_h41 (P := P) (b := b) ok70
    have z0 : ¬ b 0 2 = 0 := by rw [x3, x4]; decide
    have e3 : h1 93 3 = 1 := by rw [f1 93 (by omega)]; exact x4
    have z3 : ¬ h1 93 3 = 0 := by rw [e3]; decide
    have s0 : b 95 0 = nI K' := y.1.2.1
    have e0 : h1 1 0 = b 95 0 := by
      have := f2 1 0 (by unfold rel; omega)
      rw [s0]
      have k1 : b (40 + 1) 0 = nI K' := y.2.1.2.1
      rw [k1] at this; exact this
    obtain ⟨h2, e2, g1, g2⟩ := undoR (h := h1)
    have r95 : h1 95 = b 95 := f1 95 (by omega)
    have r : ∀ q, q ≠ 94 → ¬ (1 ≤ q ∧ q ≤ 39) → h2 q = b q := fun q a1 a2 => by rw [g2 q a1]; exact f1 q a2
    refine ⟨b 95 0, h1, h2, by simp only [fX11_undo, if_neg z0, e1, ob_s, e0], by simp only [fX12_undo, if_neg z3, e2, r95], K', L', n', ?_, ⟨x2.1, fun j => ⟨?_, ?_⟩⟩, ?_, ?_, c, c1, ?_, ?_, ?_⟩
    · have y2 : RX 0 (b 95) P K' L' n' h2 := y.e2 (o' := 0) fun q j hq => by
        have hb : 0 + q ≠ 94 := by unfold rel at hq; omega
        rw [g2 (0 + q) hb]
        exact f2 q j hq
      exact y2.rw9 fun i hi => by rw [g1 i hi, r95]
    · rw [g2 30 (by omega)]
      by_cases z : j < 8
      · have := f2 30 j (by unfold rel; omega)
        rw [show h1 30 j = b 70 j from this]; exact (x2.2 j).2
      · have := f3 j (by omega)
        rw [show h1 30 j = b 30 j from this]; exact (x2.2 j).1
    · rw [r 70 (by omega) (by omega)]; exact (x2.2 j).2
    · rw [r 0 (by omega) (by omega), r 93 (by omega) (by omega)]; exact x3
    · rw [r 93 (by omega) (by omega), r 95 (by omega) (by omega)]
      exact Or.inr ⟨x4, K', L', n', y.e fun q h1 h2 h3 => r _ (by omega) (by omega)⟩
    · rw [r 91 (by omega) (by omega)]; exact c2
    · rw [r 93 (by omega) (by omega)]; exact c3
    · rw [r 91 (by omega) (by omega), r 101 (by omega) (by omega)]; exact c4
end im
