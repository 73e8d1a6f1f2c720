/-! gains, who dares -/
theorem sumW_bd {p : Nat → Bool} {f : Nat → Int32} {m : Int} (h0 : 0 ≤ m) (hm : m ≤ 200000) : ∀ {n : Nat}, n ≤ 10 → (∀ k, k < n → bd (f k) m) → bd (sumW p f n) (m * n)
  | 0, _, _ => by
    have e : (0 : Int32).toInt = 0 := by decide
    unfold bd
    rw [sumW, e]
    exact ⟨Int.le_refl _, by simp⟩
  | n + 1, hn, hf => by
    have ih := sumW_bd (p := p) h0 hm (n := n) (by omega) (fun k hk => hf k (by omega))
    have hk := hf n (by omega)
    unfold bd at *
    have em : m * ((n + 1 : Nat) : Int) = m * (n : Int) + m := by rw [Int.natCast_succ, Int.mul_add, Int.mul_one]
    rw [em]
    have hb : m * (n : Int) ≤ 200000 * 10 := by
      have h1 : m * (n : Int) ≤ 200000 * (n : Int) := Int.mul_le_mul_of_nonneg_right hm (by omega)
      omega
    have hp : 0 ≤ m * (n : Int) := Int.mul_nonneg h0 (by omega)
    generalize m * (n : Int) = w at *
    rw [sumW]
    cases p n
    · rw [if_neg (by decide)]; omega
    · rw [if_pos rfl, fb_addI (by omega) (by omega)]; omega
theorem cost_bd {K : Nat} {s : RT} {L : Wld} (ok : OKs K s L) (k o : Nat) : bd (costS s L k o) 9990 := by
  have w := ok.2.2.1
  have a := sumW_bd (p := fun c => tru (fct s k o) (cl L c).2) (f := fun c => nI (cl L c).1) (m := 999) (by decide) (by decide) w.1 (fun c hc => by
    have e := (w.2.2 c hc).1
    unfold bd
    rw [nI_toInt (show (cl L c).1 < 2 ^ 31 by omega)]
    omega)
  have hl := w.1
  unfold bd costS at *
  omega
def wor (s : RT) (k o : Nat) : Int32 := s (310 + 7 * k + o)
def gn (N : Nat) (v : Int32) (blk : Nat → Int32) (K : Nat) (s : RT) (L : Wld) (x y : Nat) : Bool := !decide (wor s y x = 0) && decide (fB N v blk K s L x y < fA N v blk K s L x y) && decide (costS s L x y < wor s y x)
def gainS (N : Nat) (v : Int32) (blk : Nat → Int32) (K : Nat) (s : RT) (L : Wld) (x y : Nat) : Int32 := if fA N v blk K s L x y ≤ fB N v blk K s L x y then -costS s L x y - wor s x y else wor s y x - costS s L x y
def dr (N : Nat) (v : Int32) (blk : Nat → Int32) (K : Nat) (s : RT) (L : Wld) (x y : Nat) : Bool := !decide (x = y) && lv s x && lv s y && gn N v blk K s L x y
def HC (N : Nat) (v : Int32) (blk : Nat → Int32) (K : Nat) (s : RT) (L : Wld) (r : SR) (b : HT) : Prop := OKs K s L ∧ RC 0 K s L b ∧ StC N v blk r b ∧ N ≤ 6
def HR (N : Nat) (v : Int32) (blk : Nat → Int32) (K : Nat) (s : RT) (L : Wld) (b : HT) : Prop := OKs K s L ∧ b 94 = s ∧ StR N v blk b ∧ N ≤ 6
section dC
variable {K : Nat} {s : RT} {L : Wld} {b h : HT} {N : Nat} {v : Int32} {blk : Nat → Int32} {x y : Nat} {r : SR}
theorem wor_bd (ok : OKs K s L) (hx : x < K) (hy : y < K) : bd (wor s x y) 99 := by
  obtain ⟨_, _, _, _, _, _, _, sw, _⟩ := ok
  exact (sw x y hx hy).1
theorem gain_gn (ok : OKs K s L) (hx : x < K) (hy : y < K) : (gainS N v blk K s L x y ≤ 0) ↔ gn N v blk K s L x y = false := by
  have b1 := wor_bd ok hx hy
  have b2 := wor_bd ok hy hx
  have b3 := cost_bd ok x y
  have e0 : (0 : Int32).toInt = 0 := by decide
  have f0 : wor s y x = 0 ↔ (wor s y x).toInt = 0 := by rw [fa_eq, e0]
  unfold gainS gn
  generalize fA N v blk K s L x y = A
  generalize fB N v blk K s L x y = B
  generalize wor s x y = w1 at *
  generalize wor s y x = w2 at *
  generalize costS s L x y = c at *
  unfold bd at *
  by_cases q : A ≤ B
  · rw [if_pos q, decide_eq_false (Int32.not_lt.mpr q), Bool.and_false, Bool.false_and]
    have en : (-c).toInt = -c.toInt := fb_negI (by omega)
    rw [fa_le, e0, fb_subI (by omega) (by omega), en]
    exact ⟨fun _ => rfl, fun _ => by omega⟩
  · rw [if_neg q, decide_eq_true (Int32.not_le.mp q), Bool.and_true, fa_le, e0, fb_subI (by omega) (by omega)]
    by_cases z : w2 = 0
    · have := f0.mp z
      rw [decide_eq_true z]
      exact ⟨fun _ => rfl, fun _ => by omega⟩
    · rw [decide_eq_false z, Bool.not_false, Bool.true_and, decide_eq_false_iff_not, fa_lt]
      omega
theorem HC.q (hc : HC N v blk K s L r b) (q : Qs b h) : HC N v blk K s L r h := by
  obtain ⟨ok, rc, ⟨r1, r2, r3⟩, hN⟩ := hc
  refine ⟨ok, rc.q q, ⟨r1, r2, ?_⟩, hN⟩
  intro hn
  obtain ⟨t, t9, e, f⟩ := r3 hn
  exact ⟨t, t9, e, fun k hk => by rw [q.row (by omega)]; exact f k hk⟩
theorem HR.q (hr : HR N v blk K s L b) (q : Qs b h) : HR N v blk K s L h := by
  obtain ⟨ok, e, st, hN⟩ := hr
  exact ⟨ok, (q.row (by decide)).trans e, st.q q, hN⟩
theorem HC.K7 (hc : HC N v blk K s L r b) : K ≤ 7 := hc.1.1
theorem HR.K7 (hr : HR N v blk K s L b) : K ≤ 7 := hr.1.1
theorem gainsE (hc : HC N v blk K s L r b) (q : Qs b h) (hx : x < K) (hy : y < K) : Rs (Qs b) (fX5_gains r (nI x) (nI y) h) (bI (gn N v blk K s L x y)) := by
  obtain ⟨ok, rc, st, hN⟩ := hc
  have hK := ok.1
  have cx : ck 7 (nI x) = some x := ckI rfl (by omega)
  have cy : ck 7 (nI y) = some y := ckI rfl (by omega)
  have w : ∀ {g : HT}, Qs b g → g (6 + y) x = wor s y x := fun qg => (rc.q qg).wor hy hx
  have pl : ∀ {g : HT}, Qs b g → g 3 y = s (280 + y) := fun qg => (rc.q qg).plc hy
  simp only [fX5_gains, cx, cy, ob_s, w q]
  unfold gn
  by_cases z : wor s y x = 0
  · rw [if_pos z, decide_eq_true z]; exact Rs.ok q
  · rw [if_neg z, decide_eq_false z, Bool.not_false, Bool.true_and]
    obtain ⟨h1, e1, q1⟩ := campsE ok rc st hN q hx hy
    have e2 := fun (g : HT) (qg : Qs b g) => forcesAtE (rc.q qg) (mA N v blk K s L x y) _ (s (280 + y)) (b_mkK hK)
    have e3 := fun (g : HT) (qg : Qs b g) => forcesAtE (rc.q qg) (mB N v blk K s L x y) _ (s (280 + y)) (b_mkK hK)
    simp only [e1, ob_s, attJ hK, defJ hK, pl q1, e2 h1 q1, e3 h1 q1, fX5_gains_84, fX5_gains_85, cb_0, cb_1]
    unfold fA fB
    by_cases u : sumW (mA N v blk K s L x y) (fun k => frc s k (s (280 + y))) K ≤ sumW (mB N v blk K s L x y) (fun k => frc s k (s (280 + y))) K
    · rw [if_pos u, decide_eq_false (Int32.not_lt.mpr u), Bool.false_and]; exact Rs.ok q1
    · obtain ⟨h2, e4, q2⟩ := costC ok rc q1 hx hy
      rw [if_neg u, decide_eq_true (Int32.not_le.mp u), Bool.true_and]
      simp only [e4, ob_s, w q1]
      by_cases u2 : wor s y x ≤ costS s L x y
      · rw [if_pos u2, decide_eq_false (Int32.not_lt.mpr u2)]; exact Rs.ok q2
      · rw [if_neg u2, decide_eq_true (Int32.not_le.mp u2)]; exact Rs.ok q2
theorem gainOfE (hr : HR N v blk K s L b) (q : Qs b h) (hx : x < K) (hy : y < K) : Rs (Sm N v blk K s L x y b) (fX12_gainOf (nI x) (nI y) h) (gainS N v blk K s L x y) := by
  obtain ⟨ok, e94, st, hN⟩ := hr
  have hK := ok.1
  obtain ⟨h1, e1, m⟩ := sumsE ok e94 st hN q hx hy
  have h94 : h1 94 = s := (m.1.row (by decide)).trans e94
  obtain ⟨h2, e2, q2⟩ := costR ok h94 Q8.rfl' hx hy
  have m2 : Sm N v blk K s L x y b h2 := ⟨Q8.s m.1 q2, ⟨by rw [q2 93 (by decide)]; exact m.2.1.1, by rw [q2 93 (by decide)]; exact m.2.1.2⟩, by rw [q2 93 (by decide)]; exact m.2.2.1, by rw [q2 93 (by decide)]; exact m.2.2.2⟩
  have w1 : ck 490 (((310 : Int32) + ((7 : Int32) * nI x)) + nI y) = some (310 + 7 * x + y) := ckW 310 (by omega)
  have w2 : ck 490 (((310 : Int32) + ((7 : Int32) * nI y)) + nI x) = some (310 + 7 * y + x) := ckW 310 (by omega)
  have g94 : h2 94 = s := (q2 94 (by decide)).trans h94
  simp only [fX12_gainOf, e1, ob_s, e2, m2.2.2.1, m2.2.2.2, w1, w2, g94, fX12_gainOf_62]
  unfold gainS
  by_cases u : fA N v blk K s L x y ≤ fB N v blk K s L x y
  · rw [if_pos u, if_pos u]; exact Rs.ok m2
  · rw [if_neg u, if_neg u]; exact Rs.ok m2
theorem doesDareE (hr : HR N v blk K s L b) (q : Qs b h) (hx : x < K) (hy : y < K) : Rs (Qs b) (fX12_doesDare (nI x) (nI y) h) (bI (dr N v blk K s L x y)) := by
  have hK := hr.K7
  have e94 : h 94 = s := (q.row (by decide)).trans hr.2.1
  have a1 := isAliveE hK e94 hr.1.2.1 hx
  have a2 := isAliveE hK e94 hr.1.2.1 hy
  simp only [fX12_doesDare, nIx (show x < 7 by omega) (show y < 7 by omega), a1, a2, ob_s, fX12_doesDare_34, fX12_doesDare_35, cb_0, cb_1]
  unfold dr
  by_cases e : x = y
  · rw [if_pos e, decide_eq_true e]; exact Rs.ok q
  · rw [if_neg e, decide_eq_false e]
    cases lv s x
    · rw [if_pos bI_f]; exact Rs.ok q
    · rw [if_neg (show ¬ bI true = 0 by decide)]
      cases lv s y
      · rw [if_pos bI_f]; exact Rs.ok q
      · rw [if_neg (show ¬ bI true = 0 by decide)]
        obtain ⟨h1, e1, m⟩ := gainOfE hr q hx hy
        have g := gain_gn (N := N) (v := v) (blk := blk) hr.1 hx hy
        simp only [e1, ob_s, Bool.not_false, Bool.true_and]
        by_cases u : gainS N v blk K s L x y ≤ 0
        · rw [if_pos u, g.mp u]; exact Rs.ok m.1
        · rw [if_neg u]
          cases c : gn N v blk K s L x y
          · exact absurd (g.mpr c) u
          · exact Rs.ok m.1
/-- the class's test before gains -/
theorem preyE (hc : HC N v blk K s L r b) (q : Qs b h) (hx : x < K) : Rs (Qs b) (fX5_prey r (nI x) h) (mk (fun y => dr N v blk K s L x y) K) := by
  have hK := hc.K7
  refine loop0 (K := K) (F := fun n k h => fX5_prey_5 r n (nI x) (mk (fun y => dr N v blk K s L x y) k) (nI k) h) (fun _ h => Qs b h) (n := 1000) (by omega) q ?_ ?_
  · intro n k g hk qg
    refine Or.inl ?_
    show ∃ h', Qs b h' ∧ fX5_prey_5 r (n + 1) (nI x) _ (nI k) g = fX5_prey_5 r n (nI x) (mk (fun y => dr N v blk K s L x y) (k + 1)) (nI (k + 1)) h'
    have rg := hc.2.1.q qg
    have a1 := livesE rg hx
    have a2 := livesE rg hk
    rw [mk]
    simp only [fX5_prey_5, if_neg (rg.go hk), nIx (show x < 7 by omega) (show k < 7 by omega), a1, a2, ob_s, fX5_prey_55, nI_1]
    unfold dr
    by_cases e : x = k
    · rw [if_pos e, decide_eq_true e]; exact ⟨g, qg, rfl⟩
    · rw [if_neg e, decide_eq_false e]
      cases lv s x
      · rw [if_pos bI_f]; exact ⟨g, qg, rfl⟩
      · rw [if_neg (show ¬ bI true = 0 by decide)]
        cases lv s k
        · rw [if_pos bI_f]; exact ⟨g, qg, rfl⟩
        · rw [if_neg (show ¬ bI true = 0 by decide)]
          obtain ⟨h1, e1, q1⟩ := gainsE hc qg hx hk
          simp only [e1, ob_s, Bool.not_false, Bool.true_and]
          cases gn N v blk K s L x k
          · rw [if_pos bI_f]; exact ⟨h1, q1, rfl⟩
          · rw [if_neg (show ¬ bI true = 0 by decide)]; exact ⟨h1, q1, rfl⟩
  · intro n g qg
    simp only [fX5_prey_5, if_pos (hc.2.1.q qg).ex]
    exact Rs.ok qg
theorem huntersE (hc : HC N v blk K s L r b) (q : Qs b h) (hy : y < K) : Rs (Qs b) (fX5_hunters r (nI y) h) (mk (fun x => dr N v blk K s L x y) K) := by
  have hK := hc.K7
  refine loop0 (K := K) (F := fun n k h => fX5_hunters_5 r n (nI y) (mk (fun x => dr N v blk K s L x y) k) (nI k) h) (fun _ h => Qs b h) (n := 1000) (by omega) q ?_ ?_
  · intro n k g hk qg
    refine Or.inl ?_
    show ∃ h', Qs b h' ∧ fX5_hunters_5 r (n + 1) (nI y) _ (nI k) g = fX5_hunters_5 r n (nI y) (mk (fun x => dr N v blk K s L x y) (k + 1)) (nI (k + 1)) h'
    have rg := hc.2.1.q qg
    have a1 := livesE rg hk
    have a2 := livesE rg hy
    rw [mk]
    simp only [fX5_hunters_5, if_neg (rg.go hk), nIx (show k < 7 by omega) (show y < 7 by omega), a1, a2, ob_s, fX5_hunters_55, nI_1]
    unfold dr
    by_cases e : k = y
    · rw [if_pos e, decide_eq_true e]; exact ⟨g, qg, rfl⟩
    · rw [if_neg e, decide_eq_false e]
      cases lv s k
      · rw [if_pos bI_f]; exact ⟨g, qg, rfl⟩
      · rw [if_neg (show ¬ bI true = 0 by decide)]
        cases lv s y
        · rw [if_pos bI_f]; exact ⟨g, qg, rfl⟩
        · rw [if_neg (show ¬ bI true = 0 by decide)]
          obtain ⟨h1, e1, q1⟩ := gainsE hc qg hk hy
          simp only [e1, ob_s, Bool.not_false, Bool.true_and]
          cases gn N v blk K s L k y
          · rw [if_pos bI_f]; exact ⟨h1, q1, rfl⟩
          · rw [if_neg (show ¬ bI true = 0 by decide)]; exact ⟨h1, q1, rfl⟩
  · intro n g qg
    simp only [fX5_hunters_5, if_pos (hc.2.1.q qg).ex]
    exact Rs.ok qg
theorem HR.e0 (hr : HR N v blk K s L b) : b 94 0 = nI K := by rw [hr.2.1]; exact hr.1.2.1
theorem darersE (hr : HR N v blk K s L b) (q : Qs b h) (hy : y < K) : Rs (Qs b) (fX12_darers (nI y) h) (mk (fun x => dr N v blk K s L x y) K) := by
  have hK := hr.K7
  refine loop0 (K := K) (F := fun n k h => fX12_darers_4 n (nI y) (mk (fun x => dr N v blk K s L x y) k) (nI k) h) (fun _ h => Qs b h) (n := 1000) (by omega) q ?_ ?_
  · intro n k g hk qg
    refine Or.inl ?_
    show ∃ h', Qs b h' ∧ fX12_darers_4 (n + 1) (nI y) _ (nI k) g = fX12_darers_4 n (nI y) (mk (fun x => dr N v blk K s L x y) (k + 1)) (nI (k + 1)) h'
    obtain ⟨h1, e1, q1⟩ := doesDareE hr qg hk hy
    rw [mk]
    simp only [fX12_darers_4, if_neg (rgo hK (hr.q qg).e0 hk), e1, ob_s, fX12_darers_31, nI_1]
    cases dr N v blk K s L k y
    · rw [if_pos bI_f]; exact ⟨h1, q1, by rw [if_neg (by decide), Int32.or_zero]⟩
    · rw [if_neg (show ¬ bI true = 0 by decide)]; exact ⟨h1, q1, rfl⟩
  · intro n g qg
    simp only [fX12_darers_4, if_pos (rex (hr.q qg).e0)]
    exact Rs.ok qg
end dC
def anyB (p : Nat → Bool) : Nat → Bool
  | 0 => false
  | k + 1 => anyB p k || p k
theorem anyB_up {p : Nat → Bool} {k : Nat} (h : anyB p k = true) : ∀ d, anyB p (k + d) = true
  | 0 => h
  | d + 1 => by show (anyB p (k + d) || p (k + d)) = true; rw [anyB_up h d]; rfl
/-- the first with the property, of m from j on -/
def fw2 (p : Nat → Bool) : Nat → Nat → Option Nat
  | 0, _ => none
  | m + 1, j => if p j = true then some j else fw2 p m (j + 1)
def fw1 (d : Nat → Nat → Bool) (K : Nat) : Nat → Nat → Option (Nat × Nat)
  | 0, _ => none
  | m + 1, i => match fw2 (d i) K 0 with
    | some j => some (i, j)
    | none => fw1 d K m (i + 1)
def fwV : Option (Nat × Nat) → Int32
  | none => -5
  | some (i, j) => (10 : Int32) * nI i + nI j
def firstS (d : Nat → Nat → Bool) (K : Nat) : Int32 := fwV (fw1 d K K 0)
section dD
variable {K : Nat} {s : RT} {L : Wld} {b h : HT} {N : Nat} {v : Int32} {blk : Nat → Int32} {x y : Nat} {r : SR}
theorem doesDareAnyE (hr : HR N v blk K s L b) (q : Qs b h) (hx : x < K) : Rs (Qs b) (fX12_doesDareAny (nI x) h) (bI (anyB (dr N v blk K s L x) K)) := by
  have hK := hr.K7
  refine loop0 (K := K) (F := fun n k h => fX12_doesDareAny_4 n (nI x) (bI (anyB (dr N v blk K s L x) k)) (nI k) h) (fun _ h => Qs b h) (n := 1000) (by omega) q ?_ ?_
  · intro n k g hk qg
    show (∃ h', Qs b h' ∧ fX12_doesDareAny_4 (n + 1) (nI x) (bI (anyB (dr N v blk K s L x) k)) (nI k) g = fX12_doesDareAny_4 n (nI x) (bI (anyB (dr N v blk K s L x) k || dr N v blk K s L x k)) (nI (k + 1)) h') ∨ Rs (Qs b) (fX12_doesDareAny_4 (n + 1) (nI x) (bI (anyB (dr N v blk K s L x) k)) (nI k) g) (bI (anyB (dr N v blk K s L x) K))
    simp only [fX12_doesDareAny_4, if_neg (rgo hK (hr.q qg).e0 hk), fX12_doesDareAny_31, bI_cb, ob_s, nI_1]
    cases c : anyB (dr N v blk K s L x) k
    · left
      rw [if_pos bI_f]
      obtain ⟨h1, e1, q1⟩ := doesDareE hr qg hx hk
      exact ⟨h1, q1, by rw [e1]; rfl⟩
    · right
      rw [if_neg (show ¬ bI true = 0 by decide)]
      obtain ⟨d, hd⟩ : ∃ d, K = k + d := ⟨K - k, by omega⟩
      have e : anyB (dr N v blk K s L x) K = true := by
        have := anyB_up c d
        rwa [← hd] at this
      rw [e]; exact Rs.ok qg
  · intro n g qg
    simp only [fX12_doesDareAny_4, if_pos (rex (hr.q qg).e0), fX12_doesDareAny_31, bI_cb, ob_s]
    exact Rs.ok qg
theorem fwInR (hr : HR N v blk K s L b) (hx : x < K) (k2 : Int32 → HT → Option (Int32 × HT)) : ∀ (m : Nat) {n j : Nat} {h : HT}, j + m = K → m < n → Qs b h → ∃ h', Qs b h' ∧ fX12_firstWar_14 k2 n (nI x) (nI j) h = match fw2 (dr N v blk K s L x) m j with
    | some j' => some ((10 : Int32) * nI x + nI j', h')
    | none => k2 (nI (x + 1)) h'
  | 0, n, j, h, hj, hn, q => by
    obtain ⟨n, rfl⟩ : ∃ n', n = n' + 1 := ⟨n - 1, by omega⟩
    obtain rfl : j = K := by omega
    exact ⟨h, q, by simp only [fX12_firstWar_14, if_pos (rex (hr.q q).e0), nI_1, fw2]⟩
  | m + 1, n, j, h, hj, hn, q => by
    obtain ⟨n, rfl⟩ : ∃ n', n = n' + 1 := ⟨n - 1, by omega⟩
    obtain ⟨h1, e1, q1⟩ := doesDareE hr q hx (show j < K by omega)
    simp only [fX12_firstWar_14, if_neg (rgo hr.K7 (hr.q q).e0 (show j < K by omega)), e1, ob_s, nI_1, fw2]
    cases c : dr N v blk K s L x j
    · rw [if_pos bI_f, if_neg (by decide)]
      exact fwInR hr hx k2 m (by omega) (by omega) q1
    · rw [if_neg (show ¬ bI true = 0 by decide), if_pos rfl]
      exact ⟨h1, q1, rfl⟩
theorem fwR (hr : HR N v blk K s L b) (q : Qs b h) : Rs (Qs b) (fX12_firstWar h) (firstS (dr N v blk K s L) K) := by
  have hK := hr.K7
  unfold fX12_firstWar firstS
  have go : ∀ (m : Nat) {n i : Nat} {h : HT}, i + m = K → m < n → Qs b h → Rs (Qs b) (fX12_firstWar_2 n (nI i) h) (fwV (fw1 (dr N v blk K s L) K m i)) := by
    intro m
    induction m with
    | zero =>
      intro n i h hi hn q
      obtain ⟨n, rfl⟩ : ∃ n', n = n' + 1 := ⟨n - 1, by omega⟩
      obtain rfl : i = K := by omega
      simp only [fX12_firstWar_2, if_pos (rex (hr.q q).e0), fw1]
      exact Rs.ok q
    | succ m ih =>
      intro n i h hi hn q
      obtain ⟨n, rfl⟩ : ∃ n', n = n' + 1 := ⟨n - 1, by omega⟩
      obtain ⟨h1, q1, e1⟩ := fwInR hr (show i < K by omega) (fX12_firstWar_2 n) K (n := 1000) (j := 0) (by omega) (by omega) q
      simp only [fX12_firstWar_2, if_neg (rgo hr.K7 (hr.q q).e0 (show i < K by omega)), fw1]
      have e1' : fX12_firstWar_14 (fX12_firstWar_2 n) 1000 (nI i) 0 h = _ := e1
      rw [e1']
      cases fw2 (dr N v blk K s L i) K 0 with
      | some j => exact Rs.ok q1
      | none => exact ih (by omega) (by omega) q1
  exact go K (n := 1000) (i := 0) (by omega) (by omega) q
theorem fwInC (hc : HC N v blk K s L r b) (hx : x < K) (k2 : Int32 → HT → Option (Int32 × HT)) : ∀ (m : Nat) {n j : Nat} {h : HT}, j + m = K → m < n → Qs b h → ∃ h', Qs b h' ∧ fX5_firstWar_12 r k2 n (nI x) (nI j) h = match fw2 (dr N v blk K s L x) m j with
    | some j' => some ((10 : Int32) * nI x + nI j', h')
    | none => k2 (nI (x + 1)) h'
  | 0, n, j, h, hj, hn, q => by
    obtain ⟨n, rfl⟩ : ∃ n', n = n' + 1 := ⟨n - 1, by omega⟩
    obtain rfl : j = K := by omega
    exact ⟨h, q, by simp only [fX5_firstWar_12, if_pos (hc.2.1.q q).ex, nI_1, fw2]⟩
  | m + 1, n, j, h, hj, hn, q => by
    have hK := hc.K7
    have hjK : j < K := by omega
    obtain ⟨n, rfl⟩ : ∃ n', n = n' + 1 := ⟨n - 1, by omega⟩
    have rg := hc.2.1.q q
    have a1 := livesE rg hx
    have a2 := livesE rg hjK
    have ih : ∀ {g : HT}, Qs b g → _ := fun qg => fwInC hc hx k2 m (n := n) (j := j + 1) (by omega) (by omega) qg
    simp only [fX5_firstWar_12, if_neg (rg.go hjK), nIx (show x < 7 by omega) (show j < 7 by omega), a1, a2, ob_s, fX5_firstWar_58, nI_1, fw2]
    have hd : dr N v blk K s L x j = (!decide (x = j) && lv s x && lv s j && gn N v blk K s L x j) := rfl
    rw [hd]
    by_cases e : x = j
    · rw [if_pos e, decide_eq_true e]; exact ih q
    · rw [if_neg e, decide_eq_false e]
      cases lv s x
      · rw [if_pos bI_f]; exact ih q
      · rw [if_neg (show ¬ bI true = 0 by decide)]
        cases lv s j
        · rw [if_pos bI_f]; exact ih q
        · rw [if_neg (show ¬ bI true = 0 by decide)]
          obtain ⟨h1, e1, q1⟩ := gainsE hc q hx hjK
          simp only [e1, ob_s, Bool.not_false, Bool.true_and]
          cases gn N v blk K s L x j
          · rw [if_pos bI_f]; exact ih q1
          · rw [if_neg (show ¬ bI true = 0 by decide)]; exact ⟨h1, q1, rfl⟩
theorem fwC (hc : HC N v blk K s L r b) (q : Qs b h) : Rs (Qs b) (fX5_firstWar r h) (firstS (dr N v blk K s L) K) := by
  have hK := hc.K7
  unfold fX5_firstWar firstS
  have go : ∀ (m : Nat) {n i : Nat} {h : HT}, i + m = K → m < n → Qs b h → Rs (Qs b) (fX5_firstWar_2 r n (nI i) h) (fwV (fw1 (dr N v blk K s L) K m i)) := by
    intro m
    induction m with
    | zero =>
      intro n i h hi hn q
      obtain ⟨n, rfl⟩ : ∃ n', n = n' + 1 := ⟨n - 1, by omega⟩
      obtain rfl : i = K := by omega
      simp only [fX5_firstWar_2, if_pos (hc.2.1.q q).ex, fw1]
      exact Rs.ok q
    | succ m ih =>
      intro n i h hi hn q
      obtain ⟨n, rfl⟩ : ∃ n', n = n' + 1 := ⟨n - 1, by omega⟩
      obtain ⟨h1, q1, e1⟩ := fwInC hc (show i < K by omega) (fX5_firstWar_2 r n) K (n := 1000) (j := 0) (by omega) (by omega) q
      simp only [fX5_firstWar_2, if_neg ((hc.2.1.q q).go (show i < K by omega)), fw1]
      have e1' : fX5_firstWar_12 r (fX5_firstWar_2 r n) 1000 (nI i) 0 h = _ := e1
      rw [e1']
      cases fw2 (dr N v blk K s L i) K 0 with
      | some j => exact Rs.ok q1
      | none => exact ih (by omega) (by omega) q1
  exact go K (n := 1000) (i := 0) (by omega) (by omega) q
end dD
