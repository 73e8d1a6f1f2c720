/-! small things on both sides -/
theorem isk (K : Nat) (hK : K ≤ 7) (x : Int32) : (∃ k, k < K ∧ x = nI k) ∨ (x < 0 ∨ nI K ≤ x) := by
  by_cases h : x < 0
  · exact Or.inr (Or.inl h)
  · obtain ⟨j, hj, rfl⟩ := nI_of h
    by_cases c : j < K
    · exact Or.inl ⟨j, c, rfl⟩
    · exact Or.inr (Or.inr (nI_le (by omega) hj))
theorem notk {K k : Nat} (hK : K ≤ 7) (hk : k < K) : ¬ (nI k < 0 ∨ nI K ≤ nI k) := by
  rintro (h | h)
  · exact nI_pos (by omega) h
  · exact nI_ge hk (by omega) h
theorem km1 {K : Nat} (hK : K ≤ 7) {x : Int32} (h0 : ¬ x < 0) : nI K - (1 : Int32) < x ↔ nI K ≤ x := by
  obtain ⟨j, hj, rfl⟩ := nI_of h0
  have e1 : (1 : Int32).toInt = 1 := by decide
  rw [fa_lt, fa_le, fb_subI, nI_toInt (show K < 2 ^ 31 by omega), nI_toInt hj, e1]
  · omega
  · rw [nI_toInt (show K < 2 ^ 31 by omega), e1]; omega
  · rw [nI_toInt (show K < 2 ^ 31 by omega), e1]; omega
section small
variable {K : Nat} {s : RT} {L : Wld} {h : HT}
theorem hasE (rc : RC 0 K s L h) {k : Nat} (hk : k < K) : fX3_has (nI k) h = some (1, h) := by
  have := rc.K7
  simp only [fX3_has, fX3_has_17, if_neg (nI_pos (show k < 2 ^ 31 by omega)), if_neg (rc.go hk), cb_1, ob_some]
theorem hasN (rc : RC 0 K s L h) {x : Int32} (hx : x < 0 ∨ nI K ≤ x) : fX3_has x h = some (0, h) := by
  simp only [fX3_has, fX3_has_16, fX3_has_17, cb_0, ob_some]
  by_cases c : x < 0
  · rw [if_pos c]
  · rw [if_neg c, if_pos (by rw [rc.kings]; exact hx.resolve_left c)]
theorem isKingE (hK : K ≤ 7) (e0 : h 94 0 = nI K) {k : Nat} (hk : k < K) : fX12_isKing (nI k) h = some (1, h) := by
  have n0 : ¬ nI k < 0 := nI_pos (by omega)
  have n1 : ¬ nI K - (1 : Int32) < nI k := by rw [km1 hK n0]; exact nI_ge hk (by omega)
  simp only [fX12_isKing, fX12_in, fX12_in_15, e0, if_neg n0, if_neg n1, cb_1, ob_some]
theorem isKingN (hK : K ≤ 7) (e0 : h 94 0 = nI K) {x : Int32} (hx : x < 0 ∨ nI K ≤ x) : fX12_isKing x h = some (0, h) := by
  simp only [fX12_isKing, fX12_in, fX12_in_14, fX12_in_15, e0, cb_0, ob_some]
  by_cases c : x < 0
  · simp only [if_pos c, ob_some, cb_0]
  · have n1 : nI K - (1 : Int32) < x := (km1 hK c).mpr (hx.resolve_left c)
    simp only [if_neg c, if_pos n1, ob_some, cb_0]
theorem lvb {k : Nat} (hK : K ≤ 7) (hk : k < K) : bt (mk (lv s) K) k = lv s k := by
  rw [b_mk _ (by omega) (by omega), decide_eq_true hk, Bool.true_and]
theorem livesE (rc : RC 0 K s L h) {k : Nat} (hk : k < K) : fX3_lives (nI k) h = some (bI (lv s k), h) := by
  have K7 := rc.K7
  have e := lvb (s := s) K7 hk
  simp only [fX3_lives, fX3_lives_16, cb_0, cb_1, ob_some, rc.alive]
  cases c : lv s k
  · rw [c] at e
    rw [if_pos (b_t0 (by omega) e)]; rfl
  · rw [c] at e
    rw [if_neg (b_n0 (by omega) e)]; rfl
theorem isAliveE (hK : K ≤ 7) (e94 : h 94 = s) (s0 : s 0 = nI K) {k : Nat} (hk : k < K) : fX12_isAlive (nI k) h = some (bI (lv s k), h) := by
  have e0 : h 94 0 = nI K := by rw [e94, s0]
  have c : ck 490 ((290 : Int32) + nI k) = some (290 + k) := ckO 290 (by omega)
  simp only [fX12_isAlive, isKingE hK e0 hk, ob_some, if_neg (show ¬ (1 : Int32) = 0 by decide), c, e94, fX12_isAlive_25, fX12_isAlive_26, cb_0, cb_1]
  unfold lv
  by_cases q : s (290 + k) = 0
  · rw [if_pos q, decide_eq_true q]; rfl
  · rw [if_neg q, decide_eq_false q]; rfl
theorem isAliveN (hK : K ≤ 7) (e0 : h 94 0 = nI K) {x : Int32} (hx : x < 0 ∨ nI K ≤ x) : fX12_isAlive x h = some (0, h) := by
  simp only [fX12_isAlive, isKingN hK e0 hx, ob_some, if_true, fX12_isAlive_25, fX12_isAlive_26, cb_0]
theorem rgo (hK : K ≤ 7) (e0 : h 94 0 = nI K) {k : Nat} (hk : k < K) : ¬ h 94 0 ≤ nI k := by rw [e0]; exact nI_ge hk (by omega)
theorem rgs (hK : K ≤ 7) (s0 : s 0 = nI K) {k : Nat} (hk : k < K) : ¬ s 0 ≤ nI k := by rw [s0]; exact nI_ge hk (by omega)
theorem rxs (s0 : s 0 = nI K) : s 0 ≤ nI K := by rw [s0]; exact Int32.le_refl _
theorem rex (e0 : h 94 0 = nI K) : h 94 0 ≤ nI K := by rw [e0]; exact Int32.le_refl _
theorem mkS (p : Nat → Bool) (k : Nat) : mk p k ||| (if p k = true then ((1 : Int32) <<< (nI k &&& 31)) else 0) = mk p (k + 1) := by
  rw [mk]
  cases p k
  · rw [if_neg (by decide), if_neg (by decide), Int32.or_zero]
  · rw [if_pos rfl, if_pos rfl]
theorem aliveE (hK : K ≤ 7) (e94 : h 94 = s) (s0 : s 0 = nI K) : fX12_alive h = some (mk (lv s) K, h) := by
  have e0 : h 94 0 = nI K := by rw [e94, s0]
  refine loopE (K := K) (F := fun n k => fX12_alive_4 n (mk (lv s) k) (nI k) h) ?_ ?_ K (n := 1000) (i := 0) (by omega) (by omega)
  · intro n k hk
    show fX12_alive_4 (n + 1) (mk (lv s) k) (nI k) h = fX12_alive_4 n (mk (lv s) (k + 1)) (nI (k + 1)) h
    simp only [fX12_alive_4, if_neg (rgo hK e0 hk), isAliveE hK e94 s0 hk, ob_some, fX12_alive_30, nI_1, ← mkS]
    cases lv s k
    · rw [if_pos bI_f]; rfl
    · rw [if_neg (by decide)]; rfl
  · intro n
    simp only [fX12_alive_4, if_pos (rex e0)]
theorem strengthsE (hK : K ≤ 7) (e94 : h 94 = s) (s0 : s 0 = nI K) (p : Nat → Bool) (x : Int32) (hx : ∀ k, k < K → bt x k = p k) : fX12_strengths x h = some (sumW p (fun k => s (270 + k)) K, h) := by
  have e0 : h 94 0 = nI K := by rw [e94, s0]
  refine loopE (K := K) (F := fun n k => fX12_strengths_4 n x (sumW p (fun k => s (270 + k)) k) (nI k) h) ?_ ?_ K (n := 1000) (i := 0) (by omega) (by omega)
  · intro n k hk
    show fX12_strengths_4 (n + 1) x _ (nI k) h = fX12_strengths_4 n x (sumW p (fun k => s (270 + k)) (k + 1)) (nI (k + 1)) h
    have c : ck 490 ((270 : Int32) + nI k) = some (270 + k) := ckO 270 (by omega)
    have e := hx k hk
    rw [sumW]
    simp only [fX12_strengths_4, e94, if_neg (rgs hK s0 hk), c, ob_some, fX12_strengths_38, nI_1]
    cases q : p k
    · rw [q] at e
      rw [if_neg (b_n1 (by omega) e), if_neg (by decide), Int32.add_zero]
    · rw [q] at e
      rw [if_pos (b_t1 (by omega) e), if_pos rfl]
  · intro n
    simp only [fX12_strengths_4, if_pos (rex e0)]
theorem strengthOfE (rc : RC 0 K s L h) (p : Nat → Bool) (x : Int32) (hx : ∀ k, k < K → bt x k = p k) : fX3_strengthOf x h = some (sumW p (fun k => s (270 + k)) K, h) := by
  have hK := rc.K7
  refine loopE (K := K) (F := fun n k => fX3_strengthOf_4 n x (sumW p (fun k => s (270 + k)) k) (nI k) h) ?_ ?_ K (n := 1000) (i := 0) (by omega) (by omega)
  · intro n k hk
    show fX3_strengthOf_4 (n + 1) x _ (nI k) h = fX3_strengthOf_4 n x (sumW p (fun k => s (270 + k)) (k + 1)) (nI (k + 1)) h
    have c : ck 7 (nI k) = some k := ckI rfl (by omega)
    have e := hx k hk
    rw [sumW]
    simp only [fX3_strengthOf_4, if_neg (rc.go hk), c, ob_some, fX3_strengthOf_29, nI_1, rc.str hk]
    cases q : p k
    · rw [q] at e
      rw [if_pos (b_t0 (by omega) e), if_neg (by decide)]
    · rw [q] at e
      rw [if_neg (b_n0 (by omega) e), if_pos rfl]
  · intro n
    simp only [fX3_strengthOf_4, if_pos rc.ex]
theorem forceAtE (rc : RC 0 K s L h) {k : Nat} (hk : k < K) (x : Int32) : fX3_forceAt (nI k) x h = some (frc s k x, h) := by
  have hK := rc.K7
  have c : ck 7 (nI k) = some k := ckI rfl (by omega)
  simp only [fX3_forceAt, c, ob_some, rc.str hk, rc.plc hk, rc.le]
  rfl
theorem forceOfE (hK : K ≤ 7) (e94 : h 94 = s) {k : Nat} (hk : k < K) (x : Int32) : fX12_forceOf (nI k) x h = some (frc s k x, h) := by
  have c1 : ck 490 ((270 : Int32) + nI k) = some (270 + k) := ckO 270 (by omega)
  have c2 : ck 490 ((280 : Int32) + nI k) = some (280 + k) := ckO 280 (by omega)
  have e : (1000 : Int32) * s (270 + k) - s 7 * absd (s (280 + k) - x) = frcX s k x := by unfold frcX; rw [Int32.mul_comm 1000]
  have sz : fX12_size (s (280 + k) - x) h = some (absd (s (280 + k) - x), h) := by
    simp only [fX12_size, fX12_size_10]
    unfold absd
    by_cases q : 0 ≤ s (280 + k) - x
    · rw [if_pos q, if_pos q]
    · rw [if_neg q, if_neg q, Int32.zero_sub]
  simp only [fX12_forceOf, c1, c2, ob_some, e94, sz, e, fX12_forceOf_48]
  unfold frc
  rcases fa_three 0 (frcX s k x) with q | q | q
  · rw [if_pos (fa_of_lt q).1, if_pos q]
  · rw [← q]; rfl
  · rw [if_neg (fa_of_lt q).2.1, if_neg (fa_of_lt q).2.2.1]
theorem forcesAtE (rc : RC 0 K s L h) (p : Nat → Bool) (x y : Int32) (hx : ∀ k, k < K → bt x k = p k) : fX3_forcesAt x y h = some (sumW p (fun k => frc s k y) K, h) := by
  have hK := rc.K7
  refine loopE (K := K) (F := fun n k => fX3_forcesAt_5 n x y (sumW p (fun k => frc s k y) k) (nI k) h) ?_ ?_ K (n := 1000) (i := 0) (by omega) (by omega)
  · intro n k hk
    show fX3_forcesAt_5 (n + 1) x y _ (nI k) h = fX3_forcesAt_5 n x y (sumW p (fun k => frc s k y) (k + 1)) (nI (k + 1)) h
    have e := hx k hk
    rw [sumW]
    simp only [fX3_forcesAt_5, if_neg (rc.go hk), ob_some, fX3_forcesAt_33, nI_1, forceAtE rc hk]
    cases q : p k
    · rw [q] at e
      rw [if_pos (b_t0 (by omega) e), if_neg (by decide)]
    · rw [q] at e
      rw [if_neg (b_n0 (by omega) e), if_pos rfl]
  · intro n
    simp only [fX3_forcesAt_5, if_pos rc.ex]
theorem b_mkK {p : Nat → Bool} (hK : K ≤ 7) : ∀ k, k < K → bt (mk p K) k = p k := fun k hk => by
  rw [b_mk _ (by omega) (by omega), decide_eq_true hk, Bool.true_and]
/-- the two sides' own bits -/
def cA (toA : Nat → Bool) (s : RT) (a b k : Nat) : Bool := decide (k = a) || (toA k && lv s k && decide (k ≠ a) && decide (k ≠ b))
def two (a b : Nat) : Int32 := (((1 : Int32) <<< (nI a &&& 31)) ||| ((1 : Int32) <<< (nI b &&& 31))) ^^^ (-1 : Int32)
theorem b_two {a b i : Nat} (ha : a < 32) (hb : b < 32) (hi : i < 32) : bt (two a b) i = (decide (i ≠ a) && decide (i ≠ b)) := by
  unfold two
  rw [b_not _ hi, b_or, b_one ha hi, b_one hb hi]
  by_cases e1 : i = a <;> by_cases e2 : i = b <;> simp [e1, e2]
theorem side_mk (hK : K ≤ 7) {a b : Nat} (ha : a < K) (hb : b < K) {x : Int32} {toA : Nat → Bool} (hx : ∀ k, k < K → bt x k = toA k) : (x &&& (mk (lv s) K &&& two a b)) ||| ((1 : Int32) <<< (nI a &&& 31)) = mk (cA toA s a b) K := by
  apply mk_ext (by omega)
  intro i hi
  rw [b_or, b_and, b_and, b_two (by omega) (by omega) hi, b_one (by omega) hi, b_mk _ hi (by omega)]
  unfold cA
  by_cases c : i < K
  · rw [hx i c, decide_eq_true c]
    by_cases e1 : i = a
    · subst e1; simp
    · simp [e1, Bool.and_assoc]
  · have e1 : i ≠ a := by omega
    simp [c, e1]
theorem joinedE (rc : RC 0 K s L h) {a b : Nat} (ha : a < K) (hb : b < K) {x y : Int32} {toA toB : Nat → Bool} (hx : ∀ k, k < K → bt x k = toA k) (hy : ∀ k, k < K → bt y k = toB k) : fX5_joined (nI a) (nI b) x y h = some (mk (cA toA s a b) K ||| (mk (cA toB s b a) K <<< ((8 : Int32) &&& 31)), h) := by
  have hK := rc.K7
  have e1 := side_mk (s := s) hK ha hb hx
  have e2 := side_mk (s := s) hK hb ha hy
  have e3 : two b a = two a b := by unfold two; rw [Int32.or_comm]
  rw [e3] at e2
  unfold two at e1 e2
  simp only [fX5_joined, rc.alive, e1, e2]
theorem b_127 : ∀ i, i < 32 → bt 127 i = decide (i < 7) := by decide +kernel
theorem attE (hK : K ≤ 7) (p q : Nat → Bool) : fX5_attackers (mk p K ||| (mk q K <<< ((8 : Int32) &&& 31))) h = some (mk p K, h) := by
  have e : (mk p K ||| (mk q K <<< ((8 : Int32) &&& 31))) &&& (127 : Int32) = mk p K := by
    apply mk_ext (by omega)
    intro i hi
    rw [b_and, b_or, b_shl8 _ hi, b_127 i hi, b_mk _ hi (by omega)]
    by_cases c : i < 7
    · have : ¬ 8 ≤ i := by omega
      simp [c, this]
    · have : ¬ i < K := by omega
      simp [c, this]
  rw [fX5_attackers, e]
theorem defE (hK : K ≤ 7) (p q : Nat → Bool) : fX5_defenders (mk p K ||| (mk q K <<< ((8 : Int32) &&& 31))) h = some (mk q K, h) := by
  have e : ((mk p K ||| (mk q K <<< ((8 : Int32) &&& 31))) >>> ((8 : Int32) &&& 31)) &&& (127 : Int32) = mk q K := by
    apply mk_ext (by omega)
    intro i hi
    rw [b_and, b_127 i hi, b_sshr8 _ hi]
    by_cases c : i < 7
    · have : ¬ 8 + i < K := by omega
      rw [if_pos (by omega), b_or, b_shl8 _ (by omega), b_mk _ (by omega) (by omega), Nat.add_sub_cancel_left, b_mk _ hi (by omega)]
      simp [c, this]
    · have : ¬ i < K := by omega
      simp [c, this]
  rw [fX5_defenders, e]
end small
