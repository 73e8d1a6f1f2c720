/-! a world is told -/
section wo
variable {P : PT} {n : Nat} {K : Nat} {s s' : RT} {L : Wld} {Z : Nat → Int32} {T p : Nat} {h m b : HT} {A : Ac}
def ENz (T : Nat) (m : HT) (r : Bool × Nat × Ac) (h : HT) : Prop := (r.1 = true → Rst m r.2.2 r.2.1 h ∧ r.2.1 = T) ∧ (r.1 = false → (∀ k j, ¬ (k = 96 ∨ k = 97 ∨ (k = 93 ∧ (j = 4 ∨ j = 6 ∨ j = 7 ∨ j = 10))) → h k j = m k j) ∧ h 93 4 = nI r.2.1 ∧ (h 93 6 = 1 ∨ (h 93 6 = 0 ∧ r.2.1 ≠ T)))
theorem w63 (r : rb Z T m) : ∀ (k : Nat) {n : Nat} {A : Ac} {p : Nat} {h : HT}, k < 10 → k < n → RLz m (clS Z T A p) h → p ≤ T → AOK A p → ∃ h', ENz T m (rdS Z T k A p) h' ∧ fX12_world_63 n (nI (10 - k)) h = fX12_world_105 h' := by
  intro k
  induction k with
  | zero =>
    intro n A p h hk hn w hp a
    obtain ⟨n, rfl⟩ : ∃ n', n = n' + 1 := ⟨n - 1, by omega⟩
    rw [rdS]
    refine ⟨h, ?_, ?_⟩
    · cases y : (clS Z T A p).1
      · have rs := w.2 y
        simp only [Bool.false_eq_true, if_false]
        exact ⟨fun e => (by cases e), fun _ => ⟨rs.1, rs.2.1, Or.inl rs.2.2⟩⟩
      · have ws := w.1 y
        simp only [if_true]
        by_cases q : (clS Z T A p).2.1 = T
        · rw [decide_eq_true q]
          exact ⟨fun _ => ⟨ws, q⟩, fun e => by cases e⟩
        · rw [decide_eq_false q]
          exact ⟨fun e => (by cases e), fun _ => ⟨ws.1, ws.2.1.2.1, Or.inr ⟨ws.2.1.2.2.1, q⟩⟩⟩
    · rw [fX12_world_63]
      by_cases z : h 93 6 = 0
      · rw [if_pos z, if_pos (show (10 : Int32) ≤ nI (10 - 0) by decide)]
      · rw [if_neg z]
  | succ k ih =>
    intro n A p h hk hn w hp a
    have hT := r.1
    obtain ⟨n, rfl⟩ : ∃ n', n = n' + 1 := ⟨n - 1, by omega⟩
    have n10 : ¬ (10 : Int32) ≤ nI (10 - (k + 1)) := nI_ge (a := 10 - (k + 1)) (b := 10) (by omega) (by omega)
    rw [rdS]
    cases y : (clS Z T A p).1
    · have rs := w.2 y
      simp only [Bool.false_eq_true, if_false]
      refine ⟨h, ⟨fun e => (by cases e), fun _ => ⟨rs.1, rs.2.1, Or.inl rs.2.2⟩⟩, ?_⟩
      rw [fX12_world_63, rs.2.2, if_neg (by decide)]
    · have ws := w.1 y
      obtain ⟨c1, c2, c3, c4⟩ := clS_ok a hp y
      have rp := ws.2.1.rf.rp (ws.rb r) c3
      have q59 : (hrS Z T (clS Z T A p).2.1 = 59) ↔ ((clS Z T A p).2.1 < T ∧ Z (clS Z T A p).2.1 = 59) := hr_eq (k := 59) (by omega)
      simp only [if_true]
      simp only [fX12_world_63, ws.2.1.2.2.1, if_true, if_neg n10, hereE rp, ob_s, q59, ws.2.1.2.1, nI_1]
      by_cases q : (clS Z T A p).2.1 = T
      · rw [if_pos q, if_neg (fun z => by omega)]
        exact ⟨h, ⟨fun _ => ⟨ws, q⟩, fun e => by cases e⟩, rfl⟩
      · rw [if_neg q]
        by_cases z : Z (clS Z T A p).2.1 = 59
        · rw [if_pos z, if_pos ⟨by omega, z⟩]
          have ws1 : Rst m (clS Z T A p).2.2 ((clS Z T A p).2.1 + 1) (hu h 93 4 (nI ((clS Z T A p).2.1 + 1))) := ⟨fun k j n => by rw [hu_ne (by omega)]; exact ws.1 k j n, ws.2.1.mv.self, by rw [hu_ne (by omega)]; exact ws.2.2.1, by rw [hu_ne (by omega)]; exact ws.2.2.2.1, by rw [hu_ne (by omega)]; exact ws.2.2.2.2⟩
          obtain ⟨h2, e2, r2⟩ := clauseR r ws1 (by omega) (c1.up (by omega))
          simp only [e2, ob_s]
          rw [show 10 - (k + 1) + 1 = 10 - k by omega]
          exact ih (by omega) (by omega) r2 (by omega) (c1.up (by omega))
        · rw [if_neg z, if_neg (fun w => z w.2)]
          exact ⟨h, ⟨fun e => (by cases e), fun _ => ⟨ws.1, ws.2.1.2.1, Or.inr ⟨ws.2.1.2.2.1, q⟩⟩⟩, rfl⟩
/-- the row with a new world -/
def wrS (s : RT) (A : Ac) (m : Nat) : RT := fun i => if 130 ≤ i ∧ i < 130 + m then (flR A.2.2.2).getD (i - 130) 0 else s i
def wrF (s : RT) (A : Ac) : RT := ups (ups (ups (ups (ups (wrS (ups s 3 0) A (flR A.2.2.2).length) 5 (nI (flR A.2.2.2).length)) 6 (nI A.1)) 7 (nI A.2.1)) 8 (nI A.2.2.1)) 1 (s 1 + 1)
theorem wrF_n {i : Nat} (hl : (flR A.2.2.2).length ≤ 130) (h : ¬ (i = 1 ∨ i = 3 ∨ (5 ≤ i ∧ i ≤ 8) ∨ (130 ≤ i ∧ i < 260))) : wrF s A i = s i := by
  unfold wrF
  rw [ups_ne (by omega), ups_ne (by omega), ups_ne (by omega), ups_ne (by omega), ups_ne (by omega)]
  unfold wrS
  rw [if_neg (by omega), ups_ne (by omega)]
theorem endR (ha : AOK A T) (hT : T ≤ 120) (hs : ∀ i, i ≠ 3 → m 94 i = s i) (h3 : m 94 3 = 0) (w : Rst m A T h) : ∃ h', fX12_world_133 1000 0 h = some (s 1 + 1, h') ∧ h' 94 = wrF s A ∧ ∀ k j, k ≠ 94 → h' k j = h k j := by
  have hl : (flR A.2.2.2).length ≤ 120 := Nat.le_trans ha.2.2.2.2.2.1 hT
  have h94 : h 94 = ups s 3 0 := by
    funext i
    rw [w.1 94 i (by omega)]
    by_cases z : i = 3
    · subst z; rw [h3, ups_eq]
    · rw [hs i z, ups_ne z]
  have e10 : h 93 10 = nI (flR A.2.2.2).length := w.2.1.2.2.2.2.1
  have e96 := w.2.1.2.2.2.2.2
  have go : ∀ (k : Nat) {n i : Nat} {g : HT}, i + k = (flR A.2.2.2).length → k < n → g 94 = wrS (ups s 3 0) A i → (∀ k j, k ≠ 94 → g k j = h k j) → ∃ g', fX12_world_133 n (nI i) g = fX12_world_175 1000 0 (hu g' 94 5 (nI (flR A.2.2.2).length)) ∧ g' 94 = wrS (ups s 3 0) A (flR A.2.2.2).length ∧ ∀ k j, k ≠ 94 → g' k j = h k j := by
    intro k
    induction k with
    | zero =>
      intro n i g hi hn g1 g2
      obtain ⟨n, rfl⟩ : ∃ n', n = n' + 1 := ⟨n - 1, by omega⟩
      obtain rfl : i = (flR A.2.2.2).length := by omega
      refine ⟨g, ?_, g1, g2⟩
      have e : g 93 10 = nI (flR A.2.2.2).length := by rw [g2 93 10 (by omega), e10]
      simp only [fX12_world_133, e, if_pos (Int32.le_refl _)]
    | succ k ih =>
      intro n i g hi hn g1 g2
      obtain ⟨n, rfl⟩ : ∃ n', n = n' + 1 := ⟨n - 1, by omega⟩
      have e : g 93 10 = nI (flR A.2.2.2).length := by rw [g2 93 10 (by omega), e10]
      have c1 : ck 140 (nI i) = some i := ckI rfl (by omega)
      have c2 : ck 490 ((130 : Int32) + nI i) = some (130 + i) := ckO 130 (by omega)
      have v : g 96 i = (flR A.2.2.2).getD i 0 := by rw [g2 96 i (by omega)]; exact e96 i (by omega)
      simp only [fX12_world_133, e, if_neg (nI_ge (show i < (flR A.2.2.2).length by omega) (by omega)), c1, c2, ob_s, v, nI_1]
      refine ih (by omega) (by omega) ?_ (fun k j hk => by rw [hu_ne (by omega)]; exact g2 k j hk)
      rw [hu_rw, g1]
      funext q
      unfold ups wrS
      by_cases z : q = 130 + i
      · rw [if_pos z, if_pos (by omega), show q - 130 = i by omega]
      · rw [if_neg z]
        by_cases z2 : 130 ≤ q ∧ q < 130 + i
        · rw [if_pos z2, if_pos (by omega)]
        · rw [if_neg z2, if_neg (by omega)]
  obtain ⟨g, e1, g1, g2⟩ := go (flR A.2.2.2).length (n := 1000) (i := 0) (g := h) (by omega) (by omega) (by
    rw [h94]
    funext q
    unfold wrS
    rw [if_neg (by omega)]) (fun _ _ _ => rfl)
  have e1' : fX12_world_133 1000 0 h = _ := e1
  rw [e1']
  have v97 : ∀ j, j < 3 → h 97 j = if j = 0 then nI A.1 else if j = 1 then nI A.2.1 else nI A.2.2.1 := fun j hj => by
    have : j = 0 ∨ j = 1 ∨ j = 2 := by omega
    rcases this with rfl | rfl | rfl
    · exact w.2.2.1
    · exact w.2.2.2.1
    · exact w.2.2.2.2
  have c0 : ck 3 (0 : Int32) = some 0 := ckI (j := 0) rfl (by omega)
  have c1 : ck 3 ((0 : Int32) + 1) = some 1 := ckI (j := 1) rfl (by omega)
  have c2 : ck 3 ((0 : Int32) + 1 + 1) = some 2 := ckI (j := 2) rfl (by omega)
  have d0 : ck 490 ((6 : Int32) + 0) = some 6 := ckI (j := 6) rfl (by omega)
  have d1 : ck 490 ((6 : Int32) + (0 + 1)) = some 7 := ckI (j := 7) rfl (by omega)
  have d2 : ck 490 ((6 : Int32) + (0 + 1 + 1)) = some 8 := ckI (j := 8) rfl (by omega)
  have st : ∀ {n : Nat} {l : Int32} {g : HT}, fX12_world_175 (n + 1) l g = if 3 ≤ l then (some ((hu g 94 1 ((g 94 1) + (1 : Int32))) 94 1, hu g 94 1 ((g 94 1) + (1 : Int32)))) else (Option.bind (ck 3 l) fun j8 => Option.bind (ck 490 ((6 : Int32) + l)) fun j9 => fX12_world_175 n (l + 1) (hu g 94 j9 (g 97 j8))) := by
    intro n l g
    rw [fX12_world_175]
  rw [show (1000 : Nat) = 996 + 1 + 1 + 1 + 1 from rfl, st, if_neg (by decide), c0]
  simp only [ob_s]
  rw [d0]
  simp only [ob_s]
  rw [st, if_neg (by decide), c1]
  simp only [ob_s]
  rw [d1]
  simp only [ob_s]
  rw [st, if_neg (by decide), c2]
  simp only [ob_s]
  rw [d2]
  simp only [ob_s]
  rw [st, if_pos (by decide)]
  have n97 : ∀ {g' : HT} {j : Nat} {v : Int32}, hu g' 94 j v 97 = g' 97 := hu_r (by omega)
  simp only [n97]
  rw [g2 97 0 (by omega), g2 97 1 (by omega), g2 97 2 (by omega), w.2.2.1, w.2.2.2.1, w.2.2.2.2]
  generalize hG : hu (hu (hu (hu g 94 5 (nI (flR A.2.2.2).length)) 94 6 (nI A.1)) 94 7 (nI A.2.1)) 94 8 (nI A.2.2.1) = G
  have G1 : G 94 1 = s 1 := by
    rw [← hG, hu_ne (by omega), hu_ne (by omega), hu_ne (by omega), hu_ne (by omega), g1]
    unfold wrS
    rw [if_neg (by omega), ups_ne (by omega)]
  rw [hu_eq, G1]
  refine ⟨_, rfl, ?_, fun k j hk => by rw [hu_ne (by omega), ← hG, hu_ne (by omega), hu_ne (by omega), hu_ne (by omega), hu_ne (by omega)]; exact g2 k j hk⟩
  rw [hu_rw, ← hG, hu_rw, hu_rw, hu_rw, hu_rw, g1]
  rfl
theorem wr_ok (ok : OKs K s L) (a : AOK A T) (hT : T ≤ 120) (hl : A.2.2.2.length ≤ 10) : OKs K (wrF s A) A.2.2.2 := by
  obtain ⟨K7, s0, wf, b6, b7, b8, sk, sw, s5, sL⟩ := ok
  obtain ⟨a1, a2, a3, ⟨r1, r2, r3, r4⟩, a5, a6, a7⟩ := a
  have l120 : (flR A.2.2.2).length ≤ 130 := by omega
  have nn : ∀ {i : Nat}, ¬ (i = 1 ∨ i = 3 ∨ (5 ≤ i ∧ i ≤ 8) ∨ (130 ≤ i ∧ i < 260)) → wrF s A i = s i := wrF_n l120
  have w6 : wrF s A 6 = nI A.1 := by unfold wrF; rw [ups_ne (by omega), ups_ne (by omega), ups_ne (by omega), ups_eq]
  have w7 : wrF s A 7 = nI A.2.1 := by unfold wrF; rw [ups_ne (by omega), ups_ne (by omega), ups_eq]
  have w8 : wrF s A 8 = nI A.2.2.1 := by unfold wrF; rw [ups_ne (by omega), ups_eq]
  have w5 : wrF s A 5 = nI (flR A.2.2.2).length := by unfold wrF; rw [ups_ne (by omega), ups_ne (by omega), ups_ne (by omega), ups_ne (by omega), ups_eq]
  have wE : ∀ i, i < (flR A.2.2.2).length → wrF s A (130 + i) = (flR A.2.2.2).getD i 0 := fun i hi => by
    unfold wrF
    rw [ups_ne (by omega), ups_ne (by omega), ups_ne (by omega), ups_ne (by omega), ups_ne (by omega)]
    unfold wrS
    rw [if_pos (by omega), show 130 + i - 130 = i by omega]
  refine ⟨K7, by rw [nn (by omega)]; exact s0, ⟨hl, by omega, a7⟩, by rw [w6]; exact nI_bd (by omega) (by omega), by rw [w7]; exact nI_bd (by omega) (by omega), by rw [w8]; exact nI_bd (by omega) (by omega), ?_, ?_, by rw [w5, r2], ?_⟩
  · intro k hk
    rw [nn (i := 270 + k) (by omega), nn (i := 280 + k) (by omega), nn (i := 290 + k) (by omega)]; exact sk k hk
  · intro k o hk ho
    rw [nn (i := 310 + 7 * k + o) (by omega), nn (i := 360 + 7 * k + o) (by omega)]; exact sw k o hk ho
  · intro c hc
    have h1 : ln A.2.2.2 (c + 1) ≤ ln A.2.2.2 A.2.2.2.length := ln_le _ (by omega)
    have h2 : ln A.2.2.2 (c + 1) = ln A.2.2.2 c + (cl A.2.2.2 c).2.length := rfl
    obtain ⟨q1, q2⟩ := r4 c hc
    exact ⟨by rw [wE _ (by omega)]; exact q1, fun i hi => by rw [wE _ (by omega)]; exact q2 i hi⟩
theorem RX.wor (X : RX 0 s P K L n b) (a : AOK A T) (hT : T ≤ 120) (hl : A.2.2.2.length ≤ 10) (hr : ∀ k j, 1 ≤ k → k ≤ 39 → k ≠ 29 → k ≠ 21 → k ≠ 22 → ¬ (23 ≤ k ∧ k ≤ 28) → ¬ (k = 1 ∧ j = 2) → h k j = b k j) (h12 : h 1 2 = s 1 + 1) (h21 : h 21 1 = 0) (w0 : h 23 0 = nI A.1) (w1 : h 23 1 = nI A.2.1) (w2 : h 23 2 = nI A.2.2.1) (ww : WRow A.2.2.2 23 24 h) : RX 0 (wrF s A) P K A.2.2.2 n h := by
  have l120 : (flR A.2.2.2).length ≤ 130 := by have := a.2.2.2.2.2.1; omega
  have ok' := wr_ok X.1 a hT hl
  have nn : ∀ {i : Nat}, ¬ (i = 1 ∨ i = 3 ∨ (5 ≤ i ∧ i ≤ 8) ∨ (130 ≤ i ∧ i < 260)) → wrF s A i = s i := wrF_n l120
  obtain ⟨a0, ⟨b0, b1, b2, b3, b4, b5, b6, b7, b8, b9, b10⟩, a2, a3, a4, a5, a6, a7, a8, a9, a10, a11, a12, _⟩ := X
  have K7 := b0
  have n8 := a2
  have r : ∀ q j, 1 ≤ q → q ≤ 39 → q ≠ 29 → q ≠ 21 → q ≠ 22 → ¬ (23 ≤ q ∧ q ≤ 28) → ¬ (q = 1 ∧ j = 2) → h (0 + q) j = b (0 + q) j := fun q j h1 h2 h3 h4 h5 h6 h7 => by rw [show 0 + q = q by omega]; exact hr q j h1 h2 h3 h4 h5 h6 h7
  have v6 : wrF s A 6 = nI A.1 := by unfold wrF; rw [ups_ne (by omega), ups_ne (by omega), ups_ne (by omega), ups_eq]
  have v7 : wrF s A 7 = nI A.2.1 := by unfold wrF; rw [ups_ne (by omega), ups_ne (by omega), ups_eq]
  have v8 : wrF s A 8 = nI A.2.2.1 := by unfold wrF; rw [ups_ne (by omega), ups_eq]
  have v1 : wrF s A 1 = s 1 + 1 := ups_eq
  have v3 : wrF s A 3 = 0 := by
    unfold wrF
    rw [ups_ne (by omega), ups_ne (by omega), ups_ne (by omega), ups_ne (by omega), ups_ne (by omega)]
    unfold wrS
    rw [if_neg (by omega), ups_eq]
  refine ⟨ok', ⟨b0, by rw [r 1 0 (by omega) (by omega) (by omega) (by omega) (by omega) (by omega) (by omega)]; exact b1, ?_, ?_, ?_, by rw [v6]; exact w0, by rw [v7]; exact w1, by rw [v8]; exact w2, ww⟩, a2, by rw [nn (by omega)]; exact a3, by rw [r 1 3 (by omega) (by omega) (by omega) (by omega) (by omega) (by omega) (by omega)]; exact a4, by rw [v1]; exact h12, by rw [r 1 4 (by omega) (by omega) (by omega) (by omega) (by omega) (by omega) (by omega), nn (by omega)]; exact a6, ?_, ?_, ?_, ?_, ?_, ?_, 0, Nat.zero_le _, by rw [v3]; rfl, by rw [show h (0 + 21) 1 = h 21 1 from rfl, h21]; rfl, fun i hi => absurd hi (Nat.not_lt_zero i)⟩
  · rw [r 1 1 (by omega) (by omega) (by omega) (by omega) (by omega) (by omega) (by omega), b2]
    exact mk_cong fun k hk => by unfold lv; rw [nn (i := 290 + k) (by omega)]
  · intro k hk
    rw [r 2 k (by omega) (by omega) (by omega) (by omega) (by omega) (by omega) (by omega), r 3 k (by omega) (by omega) (by omega) (by omega) (by omega) (by omega) (by omega), r 4 k (by omega) (by omega) (by omega) (by omega) (by omega) (by omega) (by omega), nn (i := 270 + k) (by omega), nn (i := 280 + k) (by omega), nn (i := 300 + k) (by omega)]
    exact b3 k hk
  · intro k j hk hj
    rw [show 0 + 6 + k = 0 + (6 + k) by omega, show 0 + 14 + k = 0 + (14 + k) by omega, r (6 + k) j (by omega) (by omega) (by omega) (by omega) (by omega) (by omega) (by omega), r (14 + k) j (by omega) (by omega) (by omega) (by omega) (by omega) (by omega) (by omega), nn (i := 310 + 7 * k + j) (by omega), nn (i := 360 + 7 * k + j) (by omega)]
    have := b4 k j hk hj
    rwa [show 0 + 6 + k = 0 + (6 + k) by omega, show 0 + 14 + k = 0 + (14 + k) by omega] at this
  · intro t ht
    rw [r 30 t (by omega) (by omega) (by omega) (by omega) (by omega) (by omega) (by omega), nn (i := 410 + t) (by omega), nn (i := 420 + t) (by omega)]; exact a7 t ht
  · intro t k ht hk
    rw [show 0 + 32 + t = 0 + (32 + t) by omega, r (32 + t) k (by omega) (by omega) (by omega) (by omega) (by omega) (by omega) (by omega), nn (i := 430 + 7 * t + k) (by omega)]
    have := a8 t k ht hk
    rwa [show 0 + 32 + t = 0 + (32 + t) by omega] at this
  · intro t k h1 h2 hk
    rw [show 0 + 32 + t = 0 + (32 + t) by omega, r (32 + t) k (by omega) (by omega) (by omega) (by omega) (by omega) (by omega) (by omega)]
    have := a9 t k h1 h2 hk
    rwa [show 0 + 32 + t = 0 + (32 + t) by omega] at this
  · intro t ht
    rw [r 30 t (by omega) (by omega) (by omega) (by omega) (by omega) (by omega) (by omega)]; exact a10 t ht
  · intro k j hk hj
    rw [show 0 + 6 + k = 0 + (6 + k) by omega, show 0 + 14 + k = 0 + (14 + k) by omega, r (6 + k) j (by omega) (by omega) (by omega) (by omega) (by omega) (by omega) (by omega), r (14 + k) j (by omega) (by omega) (by omega) (by omega) (by omega) (by omega) (by omega), nn (i := 310 + 7 * k + j) (by omega), nn (i := 360 + 7 * k + j) (by omega)]
    have := a11 k j hk hj
    rwa [show 0 + 6 + k = 0 + (6 + k) by omega, show 0 + 14 + k = 0 + (14 + k) by omega] at this
  · intro k j h1 h2 hj
    rw [show 0 + 6 + k = 0 + (6 + k) by omega, show 0 + 14 + k = 0 + (14 + k) by omega, r (6 + k) j (by omega) (by omega) (by omega) (by omega) (by omega) (by omega) (by omega), r (14 + k) j (by omega) (by omega) (by omega) (by omega) (by omega) (by omega) (by omega), r 4 k (by omega) (by omega) (by omega) (by omega) (by omega) (by omega) (by omega)]
    have := a12 k j h1 h2 hj
    rwa [show 0 + 6 + k = 0 + (6 + k) by omega, show 0 + 14 + k = 0 + (14 + k) by omega] at this
end wo
