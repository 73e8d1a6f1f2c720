/-! kings, standings, the tape: what is added -/
theorem sh_L : ∀ i, i < 8 → ((((8 : Int32) * nI i).toInt64 &&& 63).toBitVec.smod 64).toNat = 8 * i := by decide +kernel
theorem sh_U : ∀ i, i < 8 → (((((8 : Int32) * nI i).toInt64.toUInt64 &&& Int64.toUInt64 63).toBitVec) % 64).toNat = 8 * i := by decide +kernel
theorem b_i32 (x : Int64) {j : Nat} (hj : j < 32) : bt x.toInt32 j = x.toBitVec.getLsbD j := by
  unfold bt
  rw [Int64.toBitVec_toInt32, BitVec.getLsbD_signExtend]
  simp [hj, show j < 64 by omega]
theorem l_255 : ∀ j, j < 32 → (255 : Int64).toBitVec.getLsbD j = decide (j < 8) := by decide +kernel
theorem feedB (w : Int64) {i : Nat} (hi : i < 8) : (((w.toUInt64 >>> (((8 : Int32) * nI i).toInt64.toUInt64 &&& Int64.toUInt64 63)).toInt64).toInt32) &&& (255 : Int32) = ((w >>> (((8 : Int32) * nI i).toInt64 &&& 63)) &&& (255 : Int64)).toInt32 := by
  apply b_ext
  intro j hj
  rw [b_and, b_255, b_i32 _ hj, b_i32 _ hj, Int64.toBitVec_and, BitVec.getLsbD_and, l_255 j hj]
  show ((w.toUInt64 >>> (((8 : Int32) * nI i).toInt64.toUInt64 &&& Int64.toUInt64 63)).toBitVec.getLsbD j && decide (j < 8)) = _
  rw [UInt64.toBitVec_shiftRight, Int64.toBitVec_shiftRight]
  show ((w.toBitVec >>> ((((8 : Int32) * nI i).toInt64.toUInt64 &&& Int64.toUInt64 63).toBitVec % 64).toNat).getLsbD j && decide (j < 8)) = ((w.toBitVec.sshiftRight ((((8 : Int32) * nI i).toInt64 &&& 63).toBitVec.smod 64).toNat).getLsbD j && decide (j < 8))
  rw [sh_U i hi, sh_L i hi, BitVec.getLsbD_ushiftRight, BitVec.getLsbD_sshiftRight]
  by_cases c : j < 8
  · simp [show j < 64 by omega, show 8 * i + j < 64 by omega, show ¬ 64 ≤ j by omega]
  · simp [c]
section ad
variable {P : PT} {n : Nat} {K : Nat} {s s' : RT} {L : Wld} {b h : HT}
theorem RX.tape (X : RX 0 s P K L n b) (e : ∀ i, i ≠ 3 → ¬ (10 ≤ i ∧ i < 130) → s' i = s i) (hr : ∀ k j, 1 ≤ k → k ≤ 39 → k ≠ 29 → k ≠ 21 → k ≠ 22 → h k j = b k j) (hT : ∃ T, T ≤ 120 ∧ s' 3 = nI T ∧ h 21 1 = nI T ∧ ∀ i, i < T → h 22 i = s' (10 + i)) : RX 0 s' P K L n h := by
  have hh : RX 0 s P K L n (fun k j => if k = 21 ∨ k = 22 then b k j else h k j) := X.e fun r h1 h2 h3 => by
    funext j
    show (if 0 + r = 21 ∨ 0 + r = 22 then b (0 + r) j else h (0 + r) j) = b (0 + r) j
    by_cases c : 0 + r = 21 ∨ 0 + r = 22
    · rw [if_pos c]
    · rw [if_neg c]; exact hr _ j (by omega) (by omega) (by omega) (by omega) (by omega)
  obtain ⟨a0, ⟨b0, b1, b2, b3, b4, b5, b6, b7, b8, b9, b10⟩, a2, a3, a4, a5, a6, a7, a8, a9, a10, a11, a12, _⟩ := hh
  have K7 := b0
  have n8 := a2
  obtain ⟨K7, s0, wf, c6, c7, c8, sk, sw, s5, sL⟩ := a0
  have hw := wf.2.1
  have hl := wf.1
  have f : ∀ k, k ≠ 21 → k ≠ 22 → (fun k j => if k = 21 ∨ k = 22 then b k j else h k j) k = h k := fun k h1 h2 => funext fun j => if_neg (by omega)
  have lvE : ∀ k, lv s' k = lv s k := fun k => by unfold lv; rw [e _ (by omega) (by omega)]
  have t4 := hT
  refine ⟨⟨K7, by rw [e 0 (by omega) (by omega)]; exact s0, wf, by rw [e 6 (by omega) (by omega)]; exact c6, by rw [e 7 (by omega) (by omega)]; exact c7, by rw [e 8 (by omega) (by omega)]; exact c8, ?_, ?_, by rw [e 5 (by omega) (by omega)]; exact s5, ?_⟩, ⟨b0, b1, ?_, ?_, ?_, ?_, ?_, ?_, b8, b9, b10⟩, a2, by rw [e 2 (by omega) (by omega)]; exact a3, a4, by rw [e 1 (by omega) (by omega)]; exact a5, by rw [e 4 (by omega) (by omega)]; exact a6, ?_, ?_, ?_, ?_, ?_, ?_, hT⟩
  · intro k hk
    rw [e (270 + k) (by omega) (by omega), e (280 + k) (by omega) (by omega), e (290 + k) (by omega) (by omega)]; exact sk k hk
  · intro k o hk ho
    rw [e (310 + 7 * k + o) (by omega) (by omega), e (360 + 7 * k + o) (by omega) (by omega)]; exact sw k o hk ho
  · intro c hc
    have h1 : ln L (c + 1) ≤ ln L L.length := ln_le L (by omega)
    have h2 : ln L (c + 1) = ln L c + (cl L c).2.length := rfl
    refine ⟨by rw [e _ (by omega) (by omega)]; exact (sL c hc).1, fun i hi => by rw [e _ (by omega) (by omega)]; exact (sL c hc).2 i hi⟩
  · have b2' : h 1 1 = mk (lv s) K := b2
    show h 1 1 = _
    rw [b2']; exact mk_cong fun k _ => (lvE k).symm
  · intro k hk
    rw [e (270 + k) (by omega) (by omega), e (280 + k) (by omega) (by omega), e (300 + k) (by omega) (by omega)]; exact b3 k hk
  · intro k j hk hj
    have := b4 k j hk hj
    rw [f _ (by omega) (by omega), f _ (by omega) (by omega)] at this
    rw [e (310 + 7 * k + j) (by omega) (by omega), e (360 + 7 * k + j) (by omega) (by omega)]; exact this
  · rw [e 6 (by omega) (by omega)]; exact b5
  · rw [e 7 (by omega) (by omega)]; exact b6
  · rw [e 8 (by omega) (by omega)]; exact b7
  · intro t ht
    rw [e (410 + t) (by omega) (by omega), e (420 + t) (by omega) (by omega)]; exact a7 t ht
  · intro t k ht hk
    have := a8 t k ht hk
    rw [f _ (by omega) (by omega)] at this
    rw [e (430 + 7 * t + k) (by omega) (by omega)]; exact this
  · intro t k h1 h2 hk
    have := a9 t k h1 h2 hk
    rw [f _ (by omega) (by omega)] at this
    exact this
  · intro t ht; exact a10 t ht
  · intro k j hk hj
    have := a11 k j hk hj
    rw [f _ (by omega) (by omega), f _ (by omega) (by omega)] at this
    rw [e (310 + 7 * k + j) (by omega) (by omega), e (360 + 7 * k + j) (by omega) (by omega)]; exact this
  · intro k j h1 h2 hj
    have := a12 k j h1 h2 hj
    rw [f _ (by omega) (by omega), f _ (by omega) (by omega)] at this
    exact this
/-- a row of bytes behind those that lie there -/
def fdT (s : RT) (T : Nat) (w : Int64) (m k : Nat) : RT := fun i => if i = 3 then nI (T + k) else if 10 + T ≤ i ∧ i < 10 + T + k then ((w >>> (((8 : Int32) * nI (m - 1 - (i - 10 - T))).toInt64 &&& 63)) &&& (255 : Int64)).toInt32 else s i
theorem feedC {w : Int64} {m T : Nat} (hm : m ≤ 8) (hT : T + m ≤ 120) (h21 : b 21 1 = nI T) : ∀ (k : Nat) {n i : Nat} {g : HT}, i + k = m → k < n → g 21 1 = nI (T + i) → (∀ q j, q ≠ 21 → q ≠ 22 → g q j = b q j) → (∀ j, j < T → g 22 j = b 22 j) → (∀ j, j < i → g 22 (T + j) = ((w >>> (((8 : Int32) * nI (m - 1 - j)).toInt64 &&& 63)) &&& (255 : Int64)).toInt32) → Rs (fun g' => g' 21 1 = nI (T + m) ∧ (∀ q j, q ≠ 21 → q ≠ 22 → g' q j = b q j) ∧ (∀ j, j < T → g' 22 j = b 22 j) ∧ (∀ j, j < m → g' 22 (T + j) = ((w >>> (((8 : Int32) * nI (m - 1 - j)).toInt64 &&& 63)) &&& (255 : Int64)).toInt32)) (fX11_feed_39 n w (nI k + (-1)) g) (nI (T + m))
  | 0, n, i, g, hi, hn, e1, e2, e3, e4 => by
    obtain ⟨n, rfl⟩ : ∃ n', n = n' + 1 := ⟨n - 1, by omega⟩
    obtain rfl : i = m := by omega
    simp only [fX11_feed_39, if_pos (show nI 0 + (-1) < 0 by decide), e1]
    exact Rs.ok ⟨e1, e2, e3, e4⟩
  | k + 1, n, i, g, hi, hn, e1, e2, e3, e4 => by
    obtain ⟨n, rfl⟩ : ∃ n', n = n' + 1 := ⟨n - 1, by omega⟩
    have l1 : nI (T + i) < 120 := nI_lt (b := 120) (by omega) (by omega)
    have c1 : ck 120 (nI (T + i)) = some (T + i) := ckI rfl (by omega)
    rw [nI_m1]
    simp only [fX11_feed_39, if_neg (nI_pos (show k < 2 ^ 31 by omega)), fX6_put, e1, if_pos l1, c1, ob_s, feedB w (show k < 8 by omega)]
    have f21 : ∀ z : Int32, hu g 22 (T + i) z 21 1 = nI (T + i) := fun z => by rw [hu_ne (by omega)]; exact e1
    rw [f21, nI_1]
    refine feedC hm hT h21 k (i := i + 1) (by omega) (by omega) (by rw [hu_eq]; rfl) (fun q j h1 h2 => by rw [hu_r h1, hu_r h2]; exact e2 q j h1 h2) (fun j hj => by rw [hu_ne (by omega), hu_ne (by omega)]; exact e3 j hj) (fun j hj => ?_)
    rw [hu_ne (by omega)]
    by_cases z : j = i
    · subst z; rw [hu_eq, show m - 1 - j = k by omega]
    · rw [hu_ne (by omega)]; exact e4 j (by omega)
theorem feedR {w : Int64} {m T : Nat} (hm : m ≤ 8) (hT : T + m ≤ 120) : ∀ (k : Nat) {n i : Nat} {g : HT}, i + k = m → k < n → g 94 = fdT s T w m i → (∀ q, q ≠ 94 → g q = b q) → Rs (fun g' => g' 94 = fdT s T w m m ∧ ∀ q, q ≠ 94 → g' q = b q) (fX12_feed_34 n w (nI k + (-1)) g) (nI (T + m))
  | 0, n, i, g, hi, hn, e1, e2 => by
    obtain ⟨n, rfl⟩ : ∃ n', n = n' + 1 := ⟨n - 1, by omega⟩
    obtain rfl : i = m := by omega
    have e3 : g 94 3 = nI (T + i) := by rw [e1]; exact if_pos rfl
    simp only [fX12_feed_34, if_pos (show nI 0 + (-1) < 0 by decide), e3]
    exact Rs.ok ⟨e1, e2⟩
  | k + 1, n, i, g, hi, hn, e1, e2 => by
    obtain ⟨n, rfl⟩ : ∃ n', n = n' + 1 := ⟨n - 1, by omega⟩
    have e3 : g 94 3 = nI (T + i) := by rw [e1]; exact if_pos rfl
    have c1 : ck 490 ((10 : Int32) + nI (T + i)) = some (10 + (T + i)) := ckO 10 (by omega)
    rw [nI_m1]
    simp only [fX12_feed_34, if_neg (nI_pos (show k < 2 ^ 31 by omega)), e3, c1, ob_s]
    have f3 : ∀ z : Int32, hu g 94 (10 + (T + i)) z 94 3 = nI (T + i) := fun z => by rw [hu_ne (by omega)]; exact e3
    rw [f3, nI_1]
    refine feedR hm hT k (i := i + 1) (by omega) (by omega) ?_ (fun q h1 => by rw [hu_r h1, hu_r h1]; exact e2 q h1)
    rw [hu_rw, hu_rw, e1]
    funext j
    unfold ups fdT
    by_cases z : j = 3
    · subst z; rw [if_pos rfl, if_pos rfl]; rfl
    · simp only [if_neg z]
      by_cases z2 : j = 10 + (T + i)
      · rw [if_pos z2, if_pos (by omega), show m - 1 - (j - 10 - T) = k by omega]
      · rw [if_neg z2]
        by_cases z3 : 10 + T ≤ j ∧ j < 10 + T + i
        · rw [if_pos z3, if_pos (by omega)]
        · rw [if_neg z3, if_neg (by omega)]
theorem m_feed (X : Ix P K L n b) (w : Int64) (l3 : Int32) : Mu P b (fX11_feed w l3) (fX12_feed w l3) := by
  obtain ⟨T, t1, t2, t3, t4⟩ := X.1.2.2.2.2.2.2.2.2.2.2.2.2.2
  have e1 : (1 : Int32).toInt = 1 := by decide
  have e8 : (8 : Int32).toInt = 8 := by decide
  have r21 : ∀ g, Qw b g → g 21 = b 21 := fun g q => q.row (by omega)
  have t3 : b 21 1 = nI T := t3
  by_cases c : 1 ≤ l3 ∧ l3 ≤ 8
  · obtain ⟨m, hm1, hm8, rfl⟩ : ∃ m : Nat, 1 ≤ m ∧ m ≤ 8 ∧ l3 = nI m := by
      obtain ⟨c1, c2⟩ := c
      have c1' := c1
      rw [fa_le, e1] at c1
      rw [fa_le, e8] at c2
      obtain ⟨j, hj, rfl⟩ := nI_of (x := l3) (by rw [fa_lt, show (0 : Int32).toInt = 0 by decide]; omega)
      rw [nI_toInt hj] at c1 c2
      exact ⟨j, by omega, by omega, rfl⟩
    have n1 : ¬ nI m < 1 := nI_nlt (a := m) (b := 1) (by omega) (by omega)
    have n8 : nI m ≤ 8 := nI_le (b := 8) (by omega) (by omega)
    have n8' : ¬ (8 : Int32) < nI m := nI_nlt (a := 8) (b := m) (by omega) (by omega)
    by_cases c2 : T + m ≤ 120
    · have k1 : nI (T + m) ≤ 120 := nI_le (b := 120) (by omega) (by omega)
      have m1 : nI m - (1 : Int32) = nI m + (-1) := Int32.sub_eq_add_neg _ _
      obtain ⟨h1, f1, g1, g2, g3, g4⟩ := feedC (b := b) (w := w) (m := m) (T := T) hm8 c2 t3 m (n := 1000) (i := 0) (g := b) (by omega) (by omega) t3 (fun _ _ _ _ => rfl) (fun _ _ => rfl) (fun j hj => absurd hj (Nat.not_lt_zero j))
      have h94 : h1 94 = b 94 := funext fun j => g2 94 j (by omega) (by omega)
      obtain ⟨h2, f2, g5, g6⟩ := feedR (s := b 94) (b := h1) (w := w) (m := m) (T := T) hm8 c2 m (n := 1000) (i := 0) (g := h1) (by omega) (by omega) (by
        rw [h94]
        funext i
        unfold fdT
        by_cases z : i = 3
        · rw [if_pos z, z, t2]; rfl
        · rw [if_neg z, if_neg (by omega)]) (fun _ _ => rfl)
      refine ⟨nI (T + m), h1, h2, ?_, ?_, K, L, n, ?_, ?_⟩
      · simp only [fX11_feed, if_neg n1, if_pos n8, t3, nI_add, if_pos k1, m1]; exact f1
      · simp only [fX12_feed, fX12_in, if_neg n1, if_neg n8', fX12_in_15, cb_1, ob_s, if10, h94, t2, nI_add, if_pos k1, m1]; exact f2
      · rw [g5]
        have v3 : fdT (b 94) T w m m 3 = nI (T + m) := if_pos rfl
        refine X.1.tape (fun i h1 h2 => by unfold fdT; rw [if_neg h1, if_neg (by omega)]) (fun k j h1' h2' h3' h4' h5' => by rw [g6 k (by omega)]; exact g2 k j h4' h5') ⟨T + m, c2, v3, by rw [g6 21 (by omega)]; exact g1, fun i hi => ?_⟩
        rw [g6 22 (by omega)]
        unfold fdT
        rw [if_neg (by omega)]
        by_cases z : i < T
        · rw [if_neg (by omega), g3 i z]; exact t4 i z
        · rw [if_pos (by omega)]
          have := g4 (i - T) (by omega)
          rw [show T + (i - T) = i by omega] at this
          rw [this, show 10 + i - 10 - T = i - T by omega]
      · exact X.2.e (fun k hk => by rw [g6 k (by omega)]; exact funext fun j => g2 k j (by omega) (by omega)) (by rw [g6 93 (by omega)]; exact g2 93 3 (by omega) (by omega)) (by rw [g6 93 (by omega)]; exact g2 93 28 (by omega) (by omega))
    · have k1 : ¬ nI (T + m) ≤ 120 := nI_ge (a := 120) (b := T + m) (by omega) (by omega)
      refine Bo.mu X ⟨-4, fun g q => ?_, fun g q => ?_⟩
      · simp only [fX11_feed, if_neg n1, if_pos n8, r21 g q, t3, nI_add, if_neg k1]; exact Rs.ok q
      · simp only [fX12_feed, fX12_in, if_neg n1, if_neg n8', fX12_in_15, cb_1, ob_s, if10, X.r94 q, t2, nI_add, if_neg k1]; exact Rs.ok q
  · refine Bo.mu X ⟨-2, fun g q => ?_, fun g q => ?_⟩
    · simp only [fX11_feed, fX11_feed_11]
      by_cases z : l3 < 1
      · rw [if_pos z]; exact Rs.ok q
      · rw [if_neg z, if_neg (fun z2 => c ⟨Int32.not_lt.mp z, z2⟩)]; exact Rs.ok q
    · simp only [fX12_feed, fX12_in, fX12_in_14, fX12_in_15, cb_0, cb_1, ob_s]
      by_cases z : l3 < 1
      · simp only [if_pos z, ob_s, if_true]; exact Rs.ok q
      · have z2 : (8 : Int32) < l3 := Int32.not_le.mp fun z2 => c ⟨Int32.not_lt.mp z, z2⟩
        simp only [if_neg z, if_pos z2, ob_s, if_true]; exact Rs.ok q
end ad
