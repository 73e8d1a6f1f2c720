/-! the fewest guns -/
def fewF (up : Int32 → Nat → Bool) (K : Nat) : Nat → Nat → Option (Int32 × Nat)
  | 0, _ => none
  | m + 1, n => match fw2 (up (-nI n)) K 0 with
    | some k => some (-nI n, k)
    | none => match fw2 (up (nI n)) K 0 with
      | some k => some (nI n, k)
      | none => fewF up K m (n + 1)
def fewV (l : Int32) : Option (Int32 × Nat) → Int32
  | none => if l = 0 then 0 else -5
  | some (c, k) => if l = 0 then c else nI k
section few
variable {P : PT} {n : Nat} {N : Nat} {v : Int32} {blk : Nat → Int32} {K : Nat} {s s' : RT} {L : Wld} {r : SR} {b h : HT}
theorem few56 (hr : HR N v blk K s L b) (k38 : Int32 → Int32 → HT → Option (Int32 × HT)) (k47 : Int32 → Int32 → Int32 → HT → Option (Int32 × HT)) (l2 l3 l4 : Int32) : ∀ (m : Nat) {n k : Nat} {h : HT}, k + m = K → m < n → Qs b h → ∃ h', Qs b h' ∧ fX12_few_56 k38 k47 n l2 l3 l4 (nI k) h = match fw2 (upz N v blk K s L (l4 * l3)) m k with
    | some k' => some (if l2 = 0 then l4 * l3 else nI k', h')
    | none => k47 l2 l3 (l4 + 2) h'
  | 0, n, k, h, hk, hn, q => by
    obtain ⟨n, rfl⟩ : ∃ n', n = n' + 1 := ⟨n - 1, by omega⟩
    obtain rfl : k = K := by omega
    exact ⟨h, q, by simp only [fX12_few_56, if_pos (rex (hr.q q).e0), fw2]⟩
  | m + 1, n, k, h, hk, hn, q => by
    have hK := hr.K7
    obtain ⟨n, rfl⟩ : ∃ n', n = n' + 1 := ⟨n - 1, by omega⟩
    have hkK : k < K := by omega
    have c1 : ck 490 ((270 : Int32) + nI k) = some (270 + k) := ckO 270 (by omega)
    have hq := hr.q q
    have nx : ∀ {g : HT}, Qs b g → upz N v blk K s L (l4 * l3) k = false → ∃ h', Qs b h' ∧ fX12_few_56 k38 k47 n l2 l3 l4 (nI (k + 1)) g = match (if upz N v blk K s L (l4 * l3) k = true then some k else fw2 (upz N v blk K s L (l4 * l3)) m (k + 1)) with
        | some k' => some (if l2 = 0 then l4 * l3 else nI k', h')
        | none => k47 l2 l3 (l4 + 2) h' := fun qg z => by
      rw [z, if_neg (by decide)]
      exact few56 hr k38 k47 l2 l3 l4 m (by omega) (by omega) qg
    have eU : upz N v blk K s L (l4 * l3) k = (lv s k && !out (s (270 + k) + l4 * l3) 99 && !decide (firstS (dr N v blk K (ups s (270 + k) (s (270 + k) + l4 * l3)) L) K = -5)) := rfl
    simp only [fX12_few_56, if_neg (rgs hK hq.1.2.1 hkK), isAliveE hK hq.2.1 hq.1.2.1 hkK, ob_s, c1, hq.2.1, inE, fX12_few_127, fX12_few_128, nI_1, fw2]
    cases lk : lv s k
    · rw [ifbf]; exact nx q (by rw [eU, lk]; rfl)
    · rw [ifbt]
      cases ho : out (s (270 + k) + l4 * l3) 99
      · obtain ⟨h2, e2, q2⟩ := quietWithE hr q (l4 * l3) hkK lk ho
        simp only [Bool.not_false, ifbt, e2, ob_s]
        by_cases z : firstS (dr N v blk K (ups s (270 + k) (s (270 + k) + l4 * l3)) L) K = -5
        · rw [decide_eq_true z, ifbt]; exact nx q2 (by rw [eU, lk, ho, decide_eq_true z]; rfl)
        · have eT : upz N v blk K s L (l4 * l3) k = true := by rw [eU, lk, ho, decide_eq_false z]; rfl
          rw [decide_eq_false z, ifbf, if_pos eT]
          refine ⟨h2, q2, ?_⟩
          by_cases l0 : l2 = 0
          · rw [if_pos l0]; simp only [if_pos l0]
          · rw [if_neg l0]; simp only [if_neg l0]
      · simp only [Bool.not_true, ifbf]; exact nx q (by rw [eU, lk, ho]; rfl)
theorem few47s {k38 : Int32 → Int32 → HT → Option (Int32 × HT)} {n : Nat} {l2 l3 l4 : Int32} : fX12_few_47 k38 (n + 1) l2 l3 l4 h = if 2 ≤ l4 then k38 l2 (l3 + 1) h else fX12_few_56 k38 (fX12_few_47 k38 n) 1000 l2 l3 l4 0 h := by rw [fX12_few_47]
theorem few47 (hr : HR N v blk K s L b) (q : Qs b h) (k38 : Int32 → Int32 → HT → Option (Int32 × HT)) (l2 : Int32) (i : Nat) (m : Nat) : ∃ h', Qs b h' ∧ fX12_few_47 k38 (m + 1 + 1 + 1) l2 (nI i) (-1) h = match fw2 (upz N v blk K s L (-nI i)) K 0 with
    | some k => some (if l2 = 0 then -nI i else nI k, h')
    | none => match fw2 (upz N v blk K s L (nI i)) K 0 with
      | some k => some (if l2 = 0 then nI i else nI k, h')
      | none => k38 l2 (nI (i + 1)) h' := by
  have hK := hr.K7
  have e1 : (-1 : Int32) * nI i = -nI i := by rw [Int32.neg_mul, Int32.one_mul]
  have e2 : (1 : Int32) * nI i = nI i := Int32.one_mul _
  have e3 : (-1 : Int32) + 2 = 1 := by decide
  have e4 : (1 : Int32) + 2 = 3 := by decide
  obtain ⟨h1, q1, f1⟩ := few56 hr k38 (fX12_few_47 k38 (m + 1 + 1)) l2 (nI i) (-1) K (n := 1000) (k := 0) (by omega) (by omega) q
  obtain ⟨h2, q2, f2⟩ := few56 hr k38 (fX12_few_47 k38 (m + 1)) l2 (nI i) 1 K (n := 1000) (k := 0) (by omega) (by omega) q1
  have f1' : fX12_few_56 k38 (fX12_few_47 k38 (m + 1 + 1)) 1000 l2 (nI i) (-1) 0 h = _ := f1
  have f2' : fX12_few_56 k38 (fX12_few_47 k38 (m + 1)) 1000 l2 (nI i) 1 0 h1 = _ := f2
  rw [few47s, if_neg (by decide), f1', e1, e3]
  cases fw2 (upz N v blk K s L (-nI i)) K 0 with
  | some k => exact ⟨h1, q1, rfl⟩
  | none =>
    simp only
    rw [few47s, if_neg (by decide), f2', e2, e4]
    cases fw2 (upz N v blk K s L (nI i)) K 0 with
    | some k => exact ⟨h2, q2, rfl⟩
    | none =>
      simp only
      rw [few47s, if_pos (by decide), nI_1]
      exact ⟨h2, q2, rfl⟩
theorem few38 (hr : HR N v blk K s L b) (l2 : Int32) : ∀ (m : Nat) {n i : Nat} {h : HT}, i + m = 31 → m < n → Qs b h → Rs (Qs b) (fX12_few_38 n l2 (nI i) h) (fewV l2 (fewF (upz N v blk K s L) K m i))
  | 0, n, i, h, hi, hn, q => by
    obtain ⟨n, rfl⟩ : ∃ n', n = n' + 1 := ⟨n - 1, by omega⟩
    obtain rfl : i = 31 := by omega
    simp only [fX12_few_38, if_pos (show (30 : Int32) < nI 31 by decide), fX12_few_156, fewF, fewV]
    by_cases l0 : l2 = 0
    · rw [if_pos l0, if_pos l0]; exact Rs.ok q
    · rw [if_neg l0, if_neg l0]; exact Rs.ok q
  | m + 1, n, i, h, hi, hn, q => by
    obtain ⟨n, rfl⟩ : ∃ n', n = n' + 1 := ⟨n - 1, by omega⟩
    have n30 : ¬ (30 : Int32) < nI i := nI_nlt (b := i) (a := 30) (by omega) (by omega)
    obtain ⟨h1, q1, e1⟩ := few47 hr q (fX12_few_38 n) l2 i 997
    have e1' : fX12_few_47 (fX12_few_38 n) 1000 l2 (nI i) (-1) h = _ := e1
    rw [fX12_few_38, if_neg n30, e1', fewF]
    cases fw2 (upz N v blk K s L (-nI i)) K 0 with
    | some k => exact Rs.ok q1
    | none =>
      cases fw2 (upz N v blk K s L (nI i)) K 0 with
      | some k => exact Rs.ok q1
      | none => exact few38 hr l2 m (by omega) (by omega) q1
theorem few40 (hc : HC N v blk K s L r b) (l2 : Int32) : ∀ (m : Nat) {n i : Nat} {h : HT}, i + m = 31 → m < n → Qs b h → Rs (Qs b) (fX11_few_40 P n l2 r (nI i) h) (fewV l2 (fewF (upz N v blk K s L) K m i))
  | 0, n, i, h, hi, hn, q => by
    obtain ⟨n, rfl⟩ : ∃ n', n = n' + 1 := ⟨n - 1, by omega⟩
    obtain rfl : i = 31 := by omega
    simp only [fX11_few_40, if_pos (show (30 : Int32) < nI 31 by decide), fX11_few_117, fewF, fewV]
    by_cases l0 : l2 = 0
    · rw [if_pos l0, if_pos l0]; exact Rs.ok q
    · rw [if_neg l0, if_neg l0]; exact Rs.ok q
  | m + 1, n, i, h, hi, hn, q => by
    have hK := hc.K7
    obtain ⟨n, rfl⟩ : ∃ n', n = n' + 1 := ⟨n - 1, by omega⟩
    have n30 : ¬ (30 : Int32) < nI i := nI_nlt (b := i) (a := 30) (by omega) (by omega)
    obtain ⟨h1, e1, q1⟩ := upsetE hc q (-nI i)
    simp only [fX11_few_40, if_neg n30, e1, ob_s, fewF, fX11_few_74, fX11_few_100]
    cases f1 : fw2 (upz N v blk K s L (-nI i)) K 0 with
    | some k =>
      have := fw2_lt K f1
      simp only [if_neg (nI_pos (show k < 2 ^ 31 by omega)), fewV]
      by_cases l0 : l2 = 0
      · rw [if_pos l0, if_pos l0]; exact Rs.ok q1
      · rw [if_neg l0, if_neg l0]; exact Rs.ok q1
    | none =>
      simp only [if_pos (show (-5 : Int32) < 0 by decide)]
      obtain ⟨h2, e2, q2⟩ := upsetE hc q1 (nI i)
      simp only [e2, ob_s]
      cases f2 : fw2 (upz N v blk K s L (nI i)) K 0 with
      | some k =>
        have := fw2_lt K f2
        simp only [if_neg (nI_pos (show k < 2 ^ 31 by omega)), fewV]
        by_cases l0 : l2 = 0
        · rw [if_pos l0, if_pos l0]; exact Rs.ok q2
        · rw [if_neg l0, if_neg l0]; exact Rs.ok q2
      | none =>
        simp only [if_pos (show (-5 : Int32) < 0 by decide), nI_1]
        exact few40 hc l2 m (by omega) (by omega) q2
theorem b_few (x : Ix P K L n b) (l1 l2 : Int32) : Bo b (fX11_few P l1 l2) (fX12_few l1 l2) := by
  have hK := x.K7
  rcases isn x.n8 l1 with ⟨t, ht, rfl⟩ | hn
  · obtain ⟨N, p, v, r, d1, d2, d3, d4, hN, hv, hr0, ht8, hc, hr⟩ := x.sd ht
    generalize hblk : (fun k => b 94 (430 + 7 * t + k)) = blk at *
    cases ho : out l2 1
    · refine ⟨if firstS (dr N v blk K (b 94) L) K = -5 then fewV l2 (fewF (upz N v blk K (b 94) L) K 30 1) else -3, fun g q => ?_, fun g q => ?_⟩
      · obtain ⟨h1, e1, q1⟩ := fwC (hc g q) Qs.rfl'
        simp only [fX11_few, stdAtE x q ht, d1, onq_s, d2, ob_s, outE, ho, ifbf, e1, (first_neg hK).1]
        by_cases z : firstS (dr N v blk K (b 94) L) K = -5
        · rw [if_pos z, if_pos z]
          exact Rs.w q (few40 (hc g q) l2 30 (n := 1000) (i := 1) (by omega) (by omega) q1)
        · rw [if_neg z, if_neg z]; exact Rs.ok (q.tr q1.w)
      · obtain ⟨g1, e1, qq, r1⟩ := hr g q
        obtain ⟨h1, e2, q1⟩ := fwR r1 Qs.rfl'
        simp only [fX12_few, isStdE x q ht, ob_s, if10, inE, ho, Bool.not_false, ifbt, e1, e2]
        by_cases z : firstS (dr N v blk K (b 94) L) K = -5
        · rw [if_pos z, if_pos z]
          exact Rs.w qq (few38 r1 l2 30 (n := 1000) (i := 1) (by omega) (by omega) q1)
        · rw [if_neg z, if_neg z]; exact Rs.ok (qq.tr q1.w)
    · refine ⟨-1, fun g q => ?_, fun g q => ?_⟩
      · simp only [fX11_few, stdAtE x q ht, d1, onq_s, d2, ob_s, outE, ho, ifbt, fX11_few_21]; exact Rs.ok q
      · simp only [fX12_few, isStdE x q ht, ob_s, if10, inE, ho, Bool.not_true, ifbf, fX12_few_17]; exact Rs.ok q
  · refine ⟨-1, fun g q => ?_, fun g q => ?_⟩
    · simp only [fX11_few, stdAtN x q hn, ob_s, onq_0, fX11_few_21]; exact Rs.ok q
    · simp only [fX12_few, isStdN x q hn, ob_s, if_true, fX12_few_17]; exact Rs.ok q
end few
