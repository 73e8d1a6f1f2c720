section pa
variable {P : PT} {n : Nat} {K : Nat} {s : RT} {L : Wld} {b g h : HT} {w : Nat → Nat}
theorem beginE (X : Ix P K L n b) (q : Qw b g) : Rs (WC K b (fun _ => 0)) (fX8_begin g) 0 := by
  have hK := X.K7
  unfold fX8_begin
  refine Rs.mono (loop0 (K := K) (F := fun n k g => fX8_begin_7 n (nI k) g) (R := fun g => Qw b g ∧ g 88 2 = nI (cnt (b 94) K) ∧ (∀ j, j < K → lv (b 94) j = true → g 90 (cnt (b 94) j) = nI j) ∧ ∀ j, j < K → g 40 j = 0) (fun k g => Qw b g ∧ g 88 2 = nI (cnt (b 94) k) ∧ (∀ j, j < k → lv (b 94) j = true → g 90 (cnt (b 94) j) = nI j) ∧ ∀ j, j < k → g 40 j = 0) (n := 1000) (by omega) ⟨q.pu (by unfold scr; omega), by rw [hu_eq]; rfl, fun j hj => absurd hj (Nat.not_lt_zero j), fun j hj => absurd hj (Nat.not_lt_zero j)⟩ ?_ ?_) ?_
  · intro n k g hk ⟨q1, q2, q3, q4⟩
    left
    have c7 : ck 7 (nI k) = some k := ckI rfl (by omega)
    have q0 : Qw b (hu g 40 k 0) := q1.pu (by unfold scr; omega)
    have rc := X.rc q0
    have g0 : ¬ g 1 0 ≤ nI k := (X.rc q1).go hk
    have c1 := cnt_s (b 94) k
    have z40 : ∀ j, j < k + 1 → hu g 40 k 0 40 j = 0 := fun j hj => by
      by_cases z : j = k
      · subst z; rw [hu_eq]
      · rw [hu_ne (by omega)]; exact q4 j (by omega)
    simp only [fX8_begin_7, if_neg g0, c7, ob_s, livesE rc hk, fX8_begin_53, nI_1]
    cases l : lv (b 94) k
    · rw [l] at c1
      have c1 : cnt (b 94) (k + 1) = cnt (b 94) k := by simpa using c1
      rw [ifbf]
      refine ⟨hu g 40 k 0, ⟨q0, by rw [hu_ne (by omega), c1]; exact q2, fun j hj hl => ?_, z40⟩, rfl⟩
      by_cases z : j = k
      · subst z; rw [l] at hl; cases hl
      · rw [hu_ne (by omega)]; exact q3 j (by omega) hl
    · rw [l] at c1
      have c1 : cnt (b 94) (k + 1) = cnt (b 94) k + 1 := by simpa using c1
      have lt := cnt_lt (s := b 94) hk l
      have l7 := cnt_7 (b 94) hK
      have v88 : hu g 40 k 0 88 2 = nI (cnt (b 94) k) := by rw [hu_ne (by omega)]; exact q2
      have d1 : ck 7 (nI (cnt (b 94) k)) = some (cnt (b 94) k) := ckI rfl (by omega)
      have v88' : hu (hu g 40 k 0) 90 (cnt (b 94) k) (nI k) 88 2 = nI (cnt (b 94) k) := by rw [hu_ne (by omega)]; exact v88
      rw [ifbt]
      simp only [v88, d1, ob_s, v88', nI_1]
      refine ⟨_, ⟨(q0.pu (by unfold scr; omega)).pu (by unfold scr; omega), by rw [hu_eq, c1], fun j hj hl => ?_, fun j hj => by rw [hu_ne (by omega), hu_ne (by omega)]; exact z40 j hj⟩, rfl⟩
      rw [hu_ne (by omega)]
      by_cases z : j = k
      · subst z; rw [hu_eq]
      · have : cnt (b 94) j < cnt (b 94) k := cnt_lt (s := b 94) (show j < k by omega) hl
        rw [hu_ne (by omega), hu_ne (by omega)]; exact q3 j (by omega) hl
  · intro n g j
    simp only [fX8_begin_7, if_pos (X.rc j.1).ex]
    exact Rs.ok j
  · intro g ⟨q1, q2, q3, q4⟩
    exact ⟨q1, q2, q3, fun k hk _ => q4 k hk, fun _ => Nat.zero_le _⟩
theorem fitsE (X : Ix P K L n b) (q : Qw b g) : fX8_fits g = some (bI (!decide (6 < cnt (b 94) K)), g) := by
  have hK := X.K7
  have l7 := cnt_7 (b 94) hK
  have e : fb_ct (lv (b 94)) K = cnt (b 94) K := rfl
  have e6 : ((6 : Int32) < nI (cnt (b 94) K)) ↔ 6 < cnt (b 94) K := nI_ltI (a := 6) (by omega) (by omega)
  simp only [fX8_fits, (X.rc q).alive, bcE hK, e, ob_s, e6, fX8_fits_17, cb_0, cb_1]
  by_cases z : 6 < cnt (b 94) K
  · rw [if_pos z, decide_eq_true z]; rfl
  · rw [if_neg z, decide_eq_false z]; rfl
/-- all ways -/
def allW (s : RT) (K : Nat) : List Way := lvs s K 0 0 (fun _ => 0)
theorem lvs_mem (s : RT) : ∀ (d i mx : Nat) (w : Nat → Nat), mx = mxr s w i → mx ≤ i → ∀ x, x ∈ lvs s d i mx w → x.2 = mxr s x.1 (i + d) ∧ x.2 ≤ i + d
  | 0, i, mx, w, hm, hi, x, hx => by
    rw [lvs] at hx
    have := List.mem_singleton.mp hx
    subst this
    exact ⟨hm, hi⟩
  | d + 1, i, mx, w, hm, hi, x, hx => by
    rw [lvs] at hx
    have e : i + (d + 1) = i + 1 + d := by omega
    rw [e]
    have em : ∀ w : Nat → Nat, mxr s w (i + 1) = if lv s i = true then max (mxr s w i) (w i + 1) else mxr s w i := fun w => rfl
    cases l : lv s i
    · rw [l] at hx em
      simp only [Bool.false_eq_true, if_false] at hx em
      exact lvs_mem s d (i + 1) mx w (by rw [em]; exact hm) (by omega) x hx
    · rw [l] at hx em
      simp only [if_true] at hx em
      obtain ⟨v, hv, hx⟩ := List.mem_flatMap.mp hx
      have hv := List.mem_range'_1.mp hv
      have mE : mxr s (pset w i v) i = mxr s w i := mxr_c fun k hk => by unfold pset; rw [if_neg (by omega)]
      have wi : pset w i v i = v := if_pos rfl
      refine lvs_mem s d (i + 1) _ (pset w i v) ?_ ?_ x hx
      · rw [em, mE, wi, ← hm]
        by_cases z : v = mx
        · rw [if_pos z]; omega
        · rw [if_neg z]; omega
      · by_cases z : v = mx
        · rw [if_pos z]; omega
        · rw [if_neg z]; omega
def prW (K : Nat) (s : RT) (L : Wld) (qf hf : Int32) (x : Way) : Bool := (decide (qf = 0) || quiS K s L x.1) && (decide (hf = 0) || holS K s L x)
theorem run_cnt {E : Type} (pr : Way → Bool) : ∀ (l : List Way) (a : Nat), run (fun x a => (.inl (if pr x = true then a + 1 else a) : Nat ⊕ E)) l a = .inl (a + l.countP pr)
  | [], a => rfl
  | x :: l, a => by
    show run (fun x a => (.inl (if pr x = true then a + 1 else a) : Nat ⊕ E)) l (if pr x = true then a + 1 else a) = _
    rw [run_cnt pr l, List.countP_cons]
    cases pr x
    · simp
    · simp; omega
theorem numberE (X : Ix P K L n b) (q : Qw b g) (hf6 : ¬ 6 < cnt (b 94) K) {qf hf : Int32} (hqf : qf = 0 ∨ qf = 1) (hh : hf = 0 ∨ (hf = 1 ∧ qf = 1)) : Rs (Qw b) (fX8_number qf hf g) (nI ((allW (b 94) K).countP (prW K (b 94) L qf hf))) := by
  have hK := X.K7
  obtain ⟨h1, e1, c1⟩ := beginE X q
  simp only [fX8_number, e1, ob_s]
  have hlen : (allW (b 94) K).length ≤ 203 := by
    unfold allW
    rw [lvs_len]
    have : cnt (b 94) 0 = 0 := rfl
    rw [this, Nat.zero_add, Nat.sub_zero]
    exact NB_6 _ (by omega)
  have m0 : mxr (b 94) (fun _ => 0) 0 = 0 := rfl
  have W := wayC (b := b) (E := Unit) (B := fun _ _ => False) hK (leaf := fun x a => .inl (if prW K (b 94) L qf hf x = true then a + 1 else a)) (F := fun n a c g => fX8_number_11 n qf hf (nI a) (nI c) g) (fin := fun a h => some (nI a, h)) (by
    intro n a c g w hw hmK hc
    have n203 : ¬ (203 : Int32) ≤ nI c := nI_ge (b := 203) hc (by omega)
    show ∃ g', WC K b w g' ∧ fX8_number_11 (n + 1) qf hf (nI a) (nI c) g = Option.bind (fX8_advance g') fun z => if z.1 = 0 then some (nI (if prW K (b 94) L qf hf (w, mxr (b 94) w K) = true then a + 1 else a), z.2) else fX8_number_11 n qf hf (nI (if prW K (b 94) L qf hf (w, mxr (b 94) w K) = true then a + 1 else a)) (nI (c + 1)) z.2
    have eP : prW K (b 94) L qf hf (w, mxr (b 94) w K) = ((decide (qf = 0) || quiS K (b 94) L w) && (decide (hf = 0) || holS K (b 94) L (w, mxr (b 94) w K))) := rfl
    have f34 : ∀ g1, WC K b w g1 → (qf = 0 ∨ quiS K (b 94) L w = true) → ∃ g', WC K b w g' ∧ fX8_number_34 (fX8_number_11 n) qf hf (nI a) (nI c) g1 = Option.bind (fX8_advance g') fun z => if z.1 = 0 then some (nI (if prW K (b 94) L qf hf (w, mxr (b 94) w K) = true then a + 1 else a), z.2) else fX8_number_11 n qf hf (nI (if prW K (b 94) L qf hf (w, mxr (b 94) w K) = true then a + 1 else a)) (nI (c + 1)) z.2 := by
      intro g1 w1 hq
      have q1 : (decide (qf = 0) || quiS K (b 94) L w) = true := by
        rcases hq with z | z
        · rw [decide_eq_true z, Bool.true_or]
        · rw [z, Bool.or_true]
      rw [eP, q1, Bool.true_and]
      by_cases z : hf = 0
      · rw [decide_eq_true z, Bool.true_or]
        refine ⟨g1, w1, ?_⟩
        simp only [fX8_number_34, if_pos z, fX8_number_46, fX8_number_49, nI_1, fX8_number_72, if_true]
      · have hq2 : quiS K (b 94) L w = true := by
          rcases hq with y | y
          · exfalso
            rcases hh with y2 | ⟨_, y2⟩
            · exact z y2
            · rw [y2] at y; exact absurd y (by decide)
          · exact y
        rw [decide_eq_false z, Bool.false_or]
        obtain ⟨g2, e2, w2⟩ := steadyE X w1 hq2 (by omega)
        refine ⟨g2, w2, ?_⟩
        simp only [fX8_number_34, if_neg z, e2, ob_s]
        cases holS K (b 94) L (w, mxr (b 94) w K)
        · rw [ifbf]
          simp only [fX8_number_49, nI_1, fX8_number_72, Bool.false_eq_true, if_false]
        · rw [ifbt]
          simp only [fX8_number_46, fX8_number_49, nI_1, fX8_number_72, if_true]
    simp only [fX8_number_11, if_neg n203]
    by_cases z : qf = 0
    · rw [if_pos z]; exact f34 g hw (Or.inl z)
    · rw [if_neg z]
      obtain ⟨g1, e2, w1⟩ := fwW X hw
      simp only [e2, ob_s]
      have fn := first_neg (d := dr 2 0 (wb w) K (b 94) L) hK
      by_cases z2 : firstS (dr 2 0 (wb w) K (b 94) L) K = -5
      · rw [z2, if_neg (by decide)]
        exact f34 g1 w1 (Or.inr (decide_eq_true z2))
      · obtain ⟨x, y, _, hx, hy, e8⟩ := fn.2 z2
        rw [e8, if_pos (nI_pos' (by omega))]
        have qn : quiS K (b 94) L w = false := decide_eq_false z2
        rw [eP, qn, decide_eq_false z, Bool.or_false, Bool.false_and]
        refine ⟨g1, w1, ?_⟩
        simp only [fX8_number_49, nI_1, fX8_number_72, Bool.false_eq_true, if_false]) K 0 (fun _ => 0) 1000 0 0 h1 (by omega) (by rw [m0]; omega) c1 (fun _ _ _ _ => rfl) (by rw [m0, Nat.zero_add]; exact hlen) (by rw [m0]; exact Nat.le_trans hlen (by omega))
  rw [m0, run_cnt] at W
  obtain ⟨g', f, w1, lf, e3⟩ := W
  obtain ⟨f, rfl⟩ : ∃ f', f = f' + 1 := ⟨f - 1, by omega⟩
  have c0 : nI (cnt (b 94) 0) - (1 : Int32) ≤ 0 := (by decide : (nI 0 - (1 : Int32)) ≤ 0)
  rw [adv0 c0, ob_s, if_pos rfl] at e3
  have e3' : fX8_number_11 1000 qf hf 0 0 h1 = some (nI (0 + (allW (b 94) K).countP (prW K (b 94) L qf hf)), g') := e3
  rw [Nat.zero_add] at e3'
  rw [e3']
  exact Rs.ok w1.1
/-- the first such way with that number -/
def fnd (pr : Way → Bool) (tgt : Int32) : List Way → Nat → Option Way
  | [], _ => none
  | x :: l, a => if pr x = true then (if nI a = tgt then some x else fnd pr tgt l (a + 1)) else fnd pr tgt l a
theorem run_fnd (pr : Way → Bool) (tgt : Int32) : ∀ (l : List Way) (a : Nat), run (fun x a => if pr x = true then (if nI a = tgt then (.inr x : Nat ⊕ Way) else .inl (a + 1)) else .inl a) l a = match fnd pr tgt l a with
    | some x => .inr x
    | none => .inl (a + l.countP pr)
  | [], a => rfl
  | x :: l, a => by
    rw [run, fnd, List.countP_cons]
    cases c : pr x
    · simp only [Bool.false_eq_true, if_false]
      rw [run_fnd pr tgt l a]
      cases fnd pr tgt l a <;> simp
    · simp only [if_true]
      by_cases z : nI a = tgt
      · simp only [if_pos z]
      · simp only [if_neg z]
        rw [run_fnd pr tgt l (a + 1)]
        cases fnd pr tgt l (a + 1)
        · simp only
          rw [show a + 1 + List.countP pr l = a + (List.countP pr l + 1) by omega]
        · rfl
theorem findE (X : Ix P K L n b) (q : Qw b g) (hf6 : ¬ 6 < cnt (b 94) K) {tgt hf : Int32} (hh : hf = 0 ∨ hf = 1) : ∃ g', fX8_find tgt hf g = some (bI (match fnd (prW K (b 94) L 1 hf) tgt (allW (b 94) K) 0 with
    | some _ => true
    | none => false), g') ∧ Qw b g' ∧ ∀ x, fnd (prW K (b 94) L 1 hf) tgt (allW (b 94) K) 0 = some x → ∀ k, k < K → lv (b 94) k = true → g' 40 k = nI (x.1 k) := by
  have hK := X.K7
  obtain ⟨h1, e1, c1⟩ := beginE X q
  simp only [fX8_find, e1, ob_s]
  have hlen : (allW (b 94) K).length ≤ 203 := by
    unfold allW
    rw [lvs_len]
    have : cnt (b 94) 0 = 0 := rfl
    rw [this, Nat.zero_add, Nat.sub_zero]
    exact NB_6 _ (by omega)
  have m0 : mxr (b 94) (fun _ => 0) 0 = 0 := rfl
  have W := wayC (b := b) (B := fun x o => ∃ g', o = some (1, g') ∧ Qw b g' ∧ ∀ k, k < K → lv (b 94) k = true → g' 40 k = nI (x.1 k)) hK (leaf := fun x a => if prW K (b 94) L 1 hf x = true then (if nI a = tgt then (.inr x : Nat ⊕ Way) else .inl (a + 1)) else .inl a) (F := fun n a c g => fX8_find_11 n tgt hf (nI a) (nI c) g) (fin := fun _ h => some (0, h)) (by
    intro n a c g w hw hmK hc
    have n203 : ¬ (203 : Int32) ≤ nI c := nI_ge (b := 203) hc (by omega)
    have eP : prW K (b 94) L 1 hf (w, mxr (b 94) w K) = ((decide ((1 : Int32) = 0) || quiS K (b 94) L w) && (decide (hf = 0) || holS K (b 94) L (w, mxr (b 94) w K))) := rfl
    rw [decide_eq_false (show ¬ (1 : Int32) = 0 by decide), Bool.false_or] at eP
    have no : ∀ g1, WC K b w g1 → fX8_find_11 (n + 1) tgt hf (nI a) (nI c) g = fX8_find_53 (fX8_find_11 n) tgt hf (nI a) (nI c) g1 → ∃ g', WC K b w g' ∧ fX8_find_11 (n + 1) tgt hf (nI a) (nI c) g = Option.bind (fX8_advance g') fun z => if z.1 = 0 then some (0, z.2) else fX8_find_11 n tgt hf (nI a) (nI (c + 1)) z.2 := by
      intro g1 w1 e
      refine ⟨g1, w1, ?_⟩
      rw [e]
      simp only [fX8_find_53, fX8_find_76, nI_1]
    have yes2 : ¬ nI a = tgt → ∀ g1, WC K b w g1 → fX8_find_11 (n + 1) tgt hf (nI a) (nI c) g = fX8_find_42 (fX8_find_11 n) tgt hf (nI a) (nI c) g1 → ∃ g', WC K b w g' ∧ fX8_find_11 (n + 1) tgt hf (nI a) (nI c) g = Option.bind (fX8_advance g') fun z => if z.1 = 0 then some (0, z.2) else fX8_find_11 n tgt hf (nI (a + 1)) (nI (c + 1)) z.2 := by
      intro y g1 w1 e
      refine ⟨g1, w1, ?_⟩
      rw [e]
      simp only [fX8_find_42, if_neg y, fX8_find_53, fX8_find_76, nI_1]
    have yes1 : nI a = tgt → ∀ g1, WC K b w g1 → fX8_find_11 (n + 1) tgt hf (nI a) (nI c) g = fX8_find_42 (fX8_find_11 n) tgt hf (nI a) (nI c) g1 → ∃ g', fX8_find_11 (n + 1) tgt hf (nI a) (nI c) g = some (1, g') ∧ Qw b g' ∧ ∀ k, k < K → lv (b 94) k = true → g' 40 k = nI (w k) := by
      intro y g1 w1 e
      refine ⟨g1, ?_, w1.1, w1.2.2.2.1⟩
      rw [e]
      simp only [fX8_find_42, if_pos y]
    obtain ⟨g1, e2, w1⟩ := fwW X hw
    have fn := first_neg (d := dr 2 0 (wb w) K (b 94) L) hK
    by_cases z2 : firstS (dr 2 0 (wb w) K (b 94) L) K = -5
    · have q1 : quiS K (b 94) L w = true := decide_eq_true z2
      rw [q1, Bool.true_and] at eP
      by_cases zh : hf = 0
      · rw [decide_eq_true zh, Bool.true_or] at eP
        have ee : fX8_find_11 (n + 1) tgt hf (nI a) (nI c) g = fX8_find_42 (fX8_find_11 n) tgt hf (nI a) (nI c) g1 := by
          simp only [fX8_find_11, if_neg n203, e2, ob_s, z2, if_neg (show ¬ (0 : Int32) ≤ -5 by decide), if_pos zh]
        by_cases y : nI a = tgt
        · simp only [eP, if_true, if_pos y]; exact yes1 y g1 w1 ee
        · simp only [eP, if_true, if_neg y]; exact yes2 y g1 w1 ee
      · rw [decide_eq_false zh, Bool.false_or] at eP
        obtain ⟨g2, e3, w2⟩ := steadyE X w1 q1 (by omega)
        cases hs : holS K (b 94) L (w, mxr (b 94) w K)
        · rw [hs] at eP e3
          simp only [eP, Bool.false_eq_true, if_false]
          refine no g2 w2 ?_
          simp only [fX8_find_11, if_neg n203, e2, ob_s, z2, if_neg (show ¬ (0 : Int32) ≤ -5 by decide), if_neg zh, e3, ifbf]
        · rw [hs] at eP e3
          have ee : fX8_find_11 (n + 1) tgt hf (nI a) (nI c) g = fX8_find_42 (fX8_find_11 n) tgt hf (nI a) (nI c) g2 := by
            simp only [fX8_find_11, if_neg n203, e2, ob_s, z2, if_neg (show ¬ (0 : Int32) ≤ -5 by decide), if_neg zh, e3, ifbt]
          by_cases y : nI a = tgt
          · simp only [eP, if_true, if_pos y]; exact yes1 y g2 w2 ee
          · simp only [eP, if_true, if_neg y]; exact yes2 y g2 w2 ee
    · obtain ⟨x, y, _, hx, hy, e8⟩ := fn.2 z2
      have qn : quiS K (b 94) L w = false := decide_eq_false z2
      rw [qn, Bool.false_and] at eP
      simp only [eP, Bool.false_eq_true, if_false]
      refine no g1 w1 ?_
      simp only [fX8_find_11, if_neg n203, e2, ob_s, e8, if_pos (nI_pos' (show 10 * x + y < 2 ^ 31 by omega))]) K 0 (fun _ => 0) 1000 0 0 h1 (by omega) (by rw [m0]; omega) c1 (fun _ _ _ _ => rfl) (by rw [m0, Nat.zero_add]; exact hlen) (by rw [m0]; exact Nat.le_trans hlen (by omega))
  rw [m0, run_fnd] at W
  have eA : lvs (b 94) K 0 0 (fun _ => 0) = allW (b 94) K := rfl
  rw [eA] at W
  cases r : fnd (prW K (b 94) L 1 hf) tgt (allW (b 94) K) 0 with
  | some x =>
    rw [r] at W
    obtain ⟨g', e3, q3, q4⟩ := W
    exact ⟨g', e3, q3, fun y hy => by rw [← Option.some.inj hy]; exact q4⟩
  | none =>
    rw [r] at W
    obtain ⟨g', f, w1, lf, e3⟩ := W
    obtain ⟨f, rfl⟩ : ∃ f', f = f' + 1 := ⟨f - 1, by omega⟩
    have c0 : nI (cnt (b 94) 0) - (1 : Int32) ≤ 0 := (by decide : (nI 0 - (1 : Int32)) ≤ 0)
    rw [adv0 c0, ob_s, if_pos rfl] at e3
    exact ⟨g', e3, w1.1, fun y hy => by cases hy⟩
end pa
