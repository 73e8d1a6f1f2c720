/-! counts of bits -/
def g7 (p : Nat → Bool) (K : Nat) : Nat → Bool := fun k => decide (k < K) && p k
def ls7 (b0 b1 b2 b3 b4 b5 b6 : Bool) : Nat → Bool := fun k => [b0, b1, b2, b3, b4, b5, b6].getD k false
theorem ls7_ (q : Nat → Bool) : ∀ k, k < 7 → ls7 (q 0) (q 1) (q 2) (q 3) (q 4) (q 5) (q 6) k = q k := by
  intro k hk
  have : k = 0 ∨ k = 1 ∨ k = 2 ∨ k = 3 ∨ k = 4 ∨ k = 5 ∨ k = 6 := by omega
  rcases this with rfl | rfl | rfl | rfl | rfl | rfl | rfl <;> rfl
theorem mk_7 {p : Nat → Bool} {K : Nat} (hK : K ≤ 7) : mk p K = mk (g7 p K) 7 := by
  apply b_ext
  intro i hi
  rw [b_mk _ hi (by omega), b_mk _ hi (by omega)]
  unfold g7
  by_cases c : i < K
  · have : i < 7 := by omega
    simp [c, this]
  · simp [c]
theorem ct_7 {p : Nat → Bool} {K : Nat} (hK : K ≤ 7) : fb_ct p K = fb_ct (g7 p K) 7 := by
  have h := fb_ct_split (g7 p K) K (7 - K)
  rw [show K + (7 - K) = 7 by omega] at h
  have z : fb_ct (fun k => g7 p K (K + k)) (7 - K) = 0 := fb_ct_zero.mpr (fun k _ => by unfold g7; rw [decide_eq_false (by omega)]; rfl)
  rw [h, z, Nat.add_zero]
  exact fb_ct_cong (fun k hk => by unfold g7; simp [hk])
theorem mk_l {p : Nat → Bool} {K : Nat} (hK : K ≤ 7) : ∃ b0 b1 b2 b3 b4 b5 b6 : Bool, mk p K = mk (ls7 b0 b1 b2 b3 b4 b5 b6) 7 ∧ fb_ct p K = fb_ct (ls7 b0 b1 b2 b3 b4 b5 b6) 7 := by
  refine ⟨g7 p K 0, g7 p K 1, g7 p K 2, g7 p K 3, g7 p K 4, g7 p K 5, g7 p K 6, ?_, ?_⟩
  · rw [mk_7 hK]; exact (mk_cong (ls7_ _)).symm
  · rw [ct_7 hK]; exact (fb_ct_cong (ls7_ _)).symm
def bcV (x : Int32) : Int32 := match fJ6_bitCount_0f7a4 x (fun _ _ => 0) with
  | some z => z.1
  | none => 0
theorem bc7 : ∀ b0 b1 b2 b3 b4 b5 b6 : Bool, bcV (mk (ls7 b0 b1 b2 b3 b4 b5 b6) 7) = nI (fb_ct (ls7 b0 b1 b2 b3 b4 b5 b6) 7) := by decide +kernel
theorem bcE {p : Nat → Bool} {K : Nat} (hK : K ≤ 7) (h : HT) : fJ6_bitCount_0f7a4 (mk p K) h = some (nI (fb_ct p K), h) := by
  obtain ⟨b0, b1, b2, b3, b4, b5, b6, e1, e2⟩ := mk_l (p := p) hK
  have e : fJ6_bitCount_0f7a4 (mk p K) h = some (bcV (mk p K), h) := rfl
  rw [e, e1, e2, bc7]
theorem mk_sm : ∀ b0 b1 b2 b3 b4 b5 b6 : Bool, ¬ mk (ls7 b0 b1 b2 b3 b4 b5 b6) 7 < 0 ∧ mk (ls7 b0 b1 b2 b3 b4 b5 b6) 7 ≤ 127 := by decide +kernel
theorem mk_nI (p : Nat → Bool) {K : Nat} (hK : K ≤ 7) : ∃ M, M ≤ 127 ∧ mk p K = nI M := by
  obtain ⟨b0, b1, b2, b3, b4, b5, b6, e1, _⟩ := mk_l (p := p) hK
  obtain ⟨h1, h2⟩ := mk_sm b0 b1 b2 b3 b4 b5 b6
  rw [← e1] at h1 h2
  exact nI_of2 (M := 127) (n := 127) (by decide) h1 h2
theorem count1E {p : Nat → Bool} {K : Nat} (hK : K ≤ 7) (h : HT) : fX12_count1 (mk p K) h = some (nI (fb_ct p K), h) := by
  rw [ct_7 hK]
  refine loopE (K := 7) (F := fun n k => fX12_count1_4 n (mk p K) (nI (fb_ct (g7 p K) k)) (nI k) h) ?_ ?_ 7 (n := 1000) (i := 0) (by omega) (by omega)
  · intro n k hk
    show fX12_count1_4 (n + 1) (mk p K) _ (nI k) h = fX12_count1_4 n (mk p K) (nI (fb_ct (g7 p K) (k + 1))) (nI (k + 1)) h
    have n7 : ¬ (7 : Int32) ≤ nI k := nI_ge (b := 7) hk (by omega)
    have e : bt (mk p K) k = g7 p K k := b_mk _ (by omega) (by omega)
    simp only [fX12_count1_4, if_neg n7, b_tst (show k < 32 by omega), e, nI_1]
    rw [fb_ct_succ]
    cases g7 p K k
    · rw [if_neg (by decide), if_neg (by decide), Int32.add_zero]; rfl
    · rw [if_pos rfl, if_pos rfl, nI_1]
  · intro n
    show fX12_count1_4 (n + 1) (mk p K) _ (nI 7) h = _
    simp only [fX12_count1_4, if_pos (show (7 : Int32) ≤ nI 7 from Int32.le_refl _)]
theorem sub_bits (x y : Int32) : (x &&& y = x) ↔ (x &&& (y ^^^ (-1 : Int32)) = 0) := by
  constructor
  · intro e
    apply b_ext
    intro i hi
    have := congrArg (fun z => bt z i) e
    rw [b_and] at this
    rw [b_and, b_not _ hi, b_0]
    cases h1 : bt x i <;> cases h2 : bt y i <;> simp_all
  · intro e
    apply b_ext
    intro i hi
    have := congrArg (fun z => bt z i) e
    rw [b_and, b_not _ hi, b_0] at this
    rw [b_and]
    cases h1 : bt x i <;> cases h2 : bt y i <;> simp_all
/-- how many sets of the others he turns -/
def oth (s : RT) (K x : Nat) : Int32 := mk (fun k => lv s k && !decide (k = x)) K
def tuF (s : RT) (K x : Nat) (X : Int32) : Bool := decide ((X &&& oth s K x) = X) && !decide (tt s K < 2 * sumW (bt X) (fun k => s (270 + k)) K) && !decide (2 * sumW (bt X) (fun k => s (270 + k)) K + 2 * s (270 + x) ≤ tt s K)
def tuV (s : RT) (K x : Nat) : Int32 := nI (fb_ct (fun i => tuF s K x (nI i)) ((oth s K x).toNatClampNeg + 1))
theorem oth_nI (s : RT) {K : Nat} (hK : K ≤ 7) (x : Nat) : ∃ M, M ≤ 127 ∧ oth s K x = nI M ∧ (oth s K x).toNatClampNeg = M := by
  obtain ⟨M, h1, h2⟩ := mk_nI (fun k => lv s k && !decide (k = x)) hK
  refine ⟨M, h1, h2, ?_⟩
  unfold oth
  rw [h2, nI_clamp (by omega)]
theorem tuV_le (s : RT) {K : Nat} (hK : K ≤ 7) (x : Nat) : ∃ c, c ≤ 128 ∧ tuV s K x = nI c := by
  obtain ⟨M, h1, _, h3⟩ := oth_nI s hK x
  refine ⟨_, ?_, rfl⟩
  rw [h3]
  have := fb_ct_le (fun i => tuF s K x (nI i)) (M + 1)
  omega
theorem oth_e {s : RT} {K x : Nat} (hK : K ≤ 7) (hx : x < K) : mk (lv s) K &&& (((1 : Int32) <<< (nI x &&& 31)) ^^^ (-1 : Int32)) = oth s K x := by
  apply mk_ext (by omega)
  intro i hi
  rw [b_and, b_not _ hi, b_one (by omega) hi, b_mk _ hi (by omega)]
  by_cases e : i = x
  · simp [e]
  · simp [e]
section tu
variable {K : Nat} {s : RT} {L : Wld} {h : HT} {x : Nat}
theorem turnsC (rc : RC 0 K s L h) (hx : x < K) : fX3_turns (nI x) h = some (tuV s K x, h) := by
  have hK := rc.K7
  obtain ⟨M, m1, m2, m3⟩ := oth_nI s hK x
  have cx : ck 7 (nI x) = some x := ckI rfl (by omega)
  have e1 := strengthOfE rc (lv s) _ (b_mkK hK)
  simp only [fX3_turns, rc.alive, e1, ob_s, oth_e hK hx]
  unfold tuV
  rw [m3]
  rw [m2]
  refine loopE (K := M + 1) (F := fun n i => fX3_turns_26 n (nI x) (nI M) (sumW (lv s) (fun k => s (270 + k)) K) (nI (fb_ct (fun i => tuF s K x (nI i)) i)) (nI i) h) ?_ ?_ (M + 1) (n := 1000) (i := 0) (by omega) (by omega)
  · intro n i hi
    show fX3_turns_26 (n + 1) (nI x) (nI M) _ _ (nI i) h = fX3_turns_26 n (nI x) (nI M) _ (nI (fb_ct (fun i => tuF s K x (nI i)) (i + 1))) (nI (i + 1)) h
    have n1 : ¬ nI M < nI i := nI_nlt (by omega) (by omega)
    have e2 := strengthOfE rc (bt (nI i)) (nI i) (fun _ _ => rfl)
    simp only [fX3_turns_26, if_neg n1, e2, ob_s, cx, rc.str hx, fX3_turns_78, nI_1]
    rw [fb_ct_succ]
    have ef : tuF s K x (nI i) = (decide ((nI i &&& nI M) = nI i) && !decide (sumW (lv s) (fun k => s (270 + k)) K < 2 * sumW (bt (nI i)) (fun k => s (270 + k)) K) && !decide (2 * sumW (bt (nI i)) (fun k => s (270 + k)) K + 2 * s (270 + x) ≤ sumW (lv s) (fun k => s (270 + k)) K)) := by unfold tuF tt; rw [m2]
    rw [ef]
    by_cases a1 : nI i &&& nI M = nI i
    · rw [if_pos a1, decide_eq_true a1]
      by_cases a2 : sumW (lv s) (fun k => s (270 + k)) K < 2 * sumW (bt (nI i)) (fun k => s (270 + k)) K
      · rw [if_pos a2, decide_eq_true a2]; rfl
      · rw [if_neg a2, decide_eq_false a2]
        by_cases a3 : 2 * sumW (bt (nI i)) (fun k => s (270 + k)) K + 2 * s (270 + x) ≤ sumW (lv s) (fun k => s (270 + k)) K
        · rw [if_pos a3, decide_eq_true a3]; rfl
        · rw [if_neg a3, decide_eq_false a3]; rfl
    · rw [if_neg a1, decide_eq_false a1]; rfl
  · intro n
    have n1 : nI M < nI (M + 1) := nI_lt (by omega) (by omega)
    simp only [fX3_turns_26, if_pos n1]
theorem turnsR (hK : K ≤ 7) (e94 : h 94 = s) (s0 : s 0 = nI K) (hx : x < K) : fX12_turnsOf (nI x) h = some (tuV s K x, h) := by
  obtain ⟨M, m1, m2, m3⟩ := oth_nI s hK x
  have cx : ck 490 ((270 : Int32) + nI x) = some (270 + x) := ckO 270 (by omega)
  have e1 := strengthsE hK e94 s0 (lv s) _ (b_mkK hK)
  simp only [fX12_turnsOf, aliveE hK e94 s0, e1, ob_s, oth_e hK hx]
  unfold tuV
  rw [m3]
  rw [m2]
  refine loopE (K := M + 1) (F := fun n i => fX12_turnsOf_26 n (nI x) (sumW (lv s) (fun k => s (270 + k)) K) (nI M) (nI (fb_ct (fun i => tuF s K x (nI i)) i)) (nI i) h) ?_ ?_ (M + 1) (n := 1000) (i := 0) (by omega) (by omega)
  · intro n i hi
    show fX12_turnsOf_26 (n + 1) (nI x) _ (nI M) _ (nI i) h = fX12_turnsOf_26 n (nI x) _ (nI M) (nI (fb_ct (fun i => tuF s K x (nI i)) (i + 1))) (nI (i + 1)) h
    have n1 : ¬ nI M < nI i := nI_nlt (by omega) (by omega)
    have e2 := strengthsE hK e94 s0 (bt (nI i)) (nI i) (fun _ _ => rfl)
    simp only [fX12_turnsOf_26, if_neg n1, e2, ob_s, cx, e94, fX12_turnsOf_82, fX12_turnsOf_83, nI_1, Int32.add_zero, ← sub_bits, Int32.mul_add]
    rw [fb_ct_succ]
    have ef : tuF s K x (nI i) = (decide ((nI i &&& nI M) = nI i) && !decide (sumW (lv s) (fun k => s (270 + k)) K < 2 * sumW (bt (nI i)) (fun k => s (270 + k)) K) && !decide (2 * sumW (bt (nI i)) (fun k => s (270 + k)) K + 2 * s (270 + x) ≤ sumW (lv s) (fun k => s (270 + k)) K)) := by unfold tuF tt; rw [m2]
    rw [ef]
    by_cases a1 : nI i &&& nI M = nI i
    · rw [if_pos a1, decide_eq_true a1]
      by_cases a2 : sumW (lv s) (fun k => s (270 + k)) K < 2 * sumW (bt (nI i)) (fun k => s (270 + k)) K
      · rw [if_pos a2, decide_eq_true a2]; rfl
      · rw [if_neg a2, decide_eq_false a2]
        by_cases a3 : 2 * sumW (bt (nI i)) (fun k => s (270 + k)) K + 2 * s (270 + x) ≤ sumW (lv s) (fun k => s (270 + k)) K
        · rw [if_pos a3, decide_eq_true a3]; rfl
        · rw [if_neg a3, decide_eq_false a3]; rfl
    · rw [if_neg a1, decide_eq_false a1]; rfl
  · intro n
    have n1 : nI M < nI (M + 1) := nI_lt (by omega) (by omega)
    simp only [fX12_turnsOf_26, if_pos n1]
end tu
