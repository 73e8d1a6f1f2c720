/-! the class's cost of a war -/
theorem loopE {α : Type} {K : Nat} {F : Nat → Nat → α} {R : α} (hs : ∀ n i, i < K → F (n + 1) i = F n (i + 1)) (he : ∀ n, F (n + 1) K = R) : ∀ (m : Nat) {n i : Nat}, i + m = K → m < n → F n i = R
  | 0, n, i, hi, hn => by
    obtain ⟨n, rfl⟩ : ∃ n', n = n' + 1 := ⟨n - 1, by omega⟩
    obtain rfl : i = K := by omega
    exact he n
  | m + 1, n, i, hi, hn => by
    obtain ⟨n, rfl⟩ : ∃ n', n = n' + 1 := ⟨n - 1, by omega⟩
    rw [hs n i (by omega)]
    exact loopE hs he m (by omega) (by omega)
section acc
variable {K : Nat} {s : RT} {L : Wld} {h : HT}
theorem RC.K7 {o : Nat} (rc : RC o K s L h) : K ≤ 7 := rc.1
theorem RC.kings (rc : RC 0 K s L h) : h 1 0 = nI K := rc.2.1
theorem RC.alive (rc : RC 0 K s L h) : h 1 1 = mk (lv s) K := rc.2.2.1
theorem RC.str (rc : RC 0 K s L h) {k : Nat} (hk : k < K) : h 2 k = s (270 + k) := (rc.2.2.2.1 k hk).1
theorem RC.plc (rc : RC 0 K s L h) {k : Nat} (hk : k < K) : h 3 k = s (280 + k) := (rc.2.2.2.1 k hk).2.1
theorem RC.own (rc : RC 0 K s L h) {k : Nat} (hk : k < K) : h 4 k = s (300 + k) := (rc.2.2.2.1 k hk).2.2
theorem RC.wor (rc : RC 0 K s L h) {k j : Nat} (hk : k < K) (hj : j < K) : h (6 + k) j = s (310 + 7 * k + j) := (rc.2.2.2.2.1 k j hk hj).1
theorem RC.pac (rc : RC 0 K s L h) {k j : Nat} (hk : k < K) (hj : j < K) : h (14 + k) j = s (360 + 7 * k + j) := (rc.2.2.2.2.1 k j hk hj).2
theorem RC.wd (rc : RC 0 K s L h) : h 23 0 = s 6 := rc.2.2.2.2.2.1
theorem RC.le (rc : RC 0 K s L h) : h 23 1 = s 7 := rc.2.2.2.2.2.2.1
theorem RC.tk (rc : RC 0 K s L h) : h 23 2 = s 8 := rc.2.2.2.2.2.2.2.1
theorem RC.w (rc : RC 0 K s L h) : WRow L 23 24 h := rc.2.2.2.2.2.2.2.2
theorem RC.go (rc : RC 0 K s L h) {k : Nat} (hk : k < K) : ¬ h 1 0 ≤ nI k := by rw [rc.kings]; exact nI_ge hk (by have := rc.K7; omega)
theorem RC.ex (rc : RC 0 K s L h) : h 1 0 ≤ nI K := by rw [rc.kings]; exact nI_le (Nat.le_refl _) (by have := rc.K7; omega)
end acc
def stB (st : List Bool) : Int32 := mk (fun j => st.getD j false) 32
theorem b_stB (st : List Bool) {j : Nat} (hj : j < 32) : bt (stB st) j = st.getD j false := by
  unfold stB
  rw [b_mk _ hj (Nat.le_refl _)]
  simp [hj]
theorem getD_drop (st : List Bool) (a j : Nat) : (st.drop a).getD j false = st.getD (a + j) false := by
  rw [List.getD_eq_getElem?_getD, List.getElem?_drop, List.getD_eq_getElem?_getD]
theorem getD_big {st : List Bool} {j : Nat} (h : st.length ≤ j) : st.getD j false = false := by
  rw [List.getD_eq_getElem?_getD, List.getElem?_eq_none h]; rfl
theorem b_m2 : ∀ i, i < 32 → bt (-2) i = decide (i ≠ 0) := by decide +kernel
theorem b_shr1 (x : Int32) {i : Nat} (hi : i < 32) : bt (x >>> ((1 : Int32) &&& 31)) i = if 1 + i < 32 then bt x (1 + i) else bt x 31 := b_sshr 1 (by omega) x hi
theorem b_shl1 (x : Int32) {i : Nat} (hi : i < 32) : bt (x <<< ((1 : Int32) &&& 31)) i = (decide (1 ≤ i) && bt x (i - 1)) := b_shl 1 (by omega) x hi
theorem stB_nil : stB [] = 0 := b_ext (fun i hi => by rw [b_stB _ hi, b_0]; rfl)
theorem stB_not (st : List Bool) : stB st ^^^ (1 : Int32) = stB ((!st.getD 0 false) :: st.drop 1) := by
  apply b_ext
  intro i hi
  rw [b_xor, b_stB _ hi, b_stB _ hi, b_1 i hi]
  cases i with
  | zero => rw [List.getD_cons_zero]; cases st.getD 0 false <;> rfl
  | succ i => rw [List.getD_cons_succ, getD_drop, Nat.add_comm 1 i, decide_eq_false (by omega), Bool.xor_false]
theorem stB_and {st : List Bool} (h : st.length ≤ 31) : (stB st >>> ((1 : Int32) &&& 31)) &&& ((stB st &&& (1 : Int32)) ||| (-2 : Int32)) = stB ((st.getD 1 false && st.getD 0 false) :: st.drop 2) := by
  apply b_ext
  intro i hi
  rw [b_and, b_shr1 _ hi, b_or, b_and, b_stB _ hi, b_stB _ hi, b_1 i hi, b_m2 i hi]
  cases i with
  | zero => rw [if_pos (by omega), b_stB _ (by omega), List.getD_cons_zero]; simp
  | succ i =>
    rw [List.getD_cons_succ, getD_drop, decide_eq_false (show ¬ i + 1 = 0 by omega), decide_eq_true (show i + 1 ≠ 0 by omega), Bool.or_true, Bool.and_true]
    by_cases q : 1 + (i + 1) < 32
    · rw [if_pos q, b_stB _ q, show 1 + (i + 1) = 2 + i by omega]
    · rw [if_neg q, b_stB _ (by omega), getD_big (by omega), getD_big (by omega)]
theorem stB_or {st : List Bool} (h : st.length ≤ 31) : (stB st >>> ((1 : Int32) &&& 31)) ||| (stB st &&& (1 : Int32)) = stB ((st.getD 1 false || st.getD 0 false) :: st.drop 2) := by
  apply b_ext
  intro i hi
  rw [b_or, b_shr1 _ hi, b_and, b_stB _ hi, b_stB _ hi, b_1 i hi]
  cases i with
  | zero => rw [if_pos (by omega), b_stB _ (by omega), List.getD_cons_zero]; simp
  | succ i =>
    rw [List.getD_cons_succ, getD_drop, decide_eq_false (show ¬ i + 1 = 0 by omega), Bool.and_false, Bool.or_false]
    by_cases q : 1 + (i + 1) < 32
    · rw [if_pos q, b_stB _ q, show 1 + (i + 1) = 2 + i by omega]
    · rw [if_neg q, b_stB _ (by omega), getD_big (by omega), getD_big (by omega)]
theorem stB_push (st : List Bool) (t : Bool) : (stB st <<< ((1 : Int32) &&& 31)) ||| (if t = true then 1 else 0) = stB (t :: st) := by
  apply b_ext
  intro i hi
  rw [b_or, b_shl1 _ hi, b_stB _ hi]
  cases i with
  | zero => rw [List.getD_cons_zero, decide_eq_false (by omega), Bool.false_and, Bool.false_or]; cases t <;> rfl
  | succ i =>
    rw [List.getD_cons_succ, decide_eq_true (show 1 ≤ i + 1 by omega), Bool.true_and, Nat.add_sub_cancel, b_stB _ (by omega)]
    cases t
    · rw [if_neg (by decide), b_0, Bool.or_false]
    · rw [if_pos rfl, b_1 _ hi, decide_eq_false (by omega), Bool.or_false]
theorem stB_0 (st : List Bool) : stB st &&& (1 : Int32) = if st.getD 0 false = true then 1 else 0 := by
  apply b_ext
  intro i hi
  rw [b_and, b_stB _ hi, b_1 i hi]
  by_cases e : i = 0
  · subst e; cases st.getD 0 false
    · rw [if_neg (by decide), b_0]; rfl
    · rw [if_pos rfl, b_1 0 hi]; rfl
  · rw [decide_eq_false e, Bool.and_false]
    cases st.getD 0 false
    · rw [if_neg (by decide), b_0]
    · rw [if_pos rfl, b_1 i hi, decide_eq_false e]
/-- one step of the inner loop -/
theorem costIn {L : Wld} {h : HT} {f : Nat → Int32} {k62 : Int32 → Int32 → Int32 → HT → Option (Int32 × HT)} {x : Int32} {c : Nat} (w : WFL L) (wr : WRow L 23 24 h) (hf : ∀ t, t < 4 → h 29 t = f t) (hc : c < L.length) :
    fX10_costOf_81 k62 1000 x (nI (ln L c)) (nI c) 0 h = fX10_costOf_253 k62 x (nI (ln L (c + 1))) (nI c) (stB (ev f (cl L c).2 (cl L c).2.length)) h := by
  obtain ⟨w1, w2, w3⟩ := w
  obtain ⟨r1, r2, r3⟩ := wr
  have wl := (w3 c hc).2
  obtain ⟨r4, r5, r6⟩ := r3 c hc
  have hle : ln L (c + 1) ≤ 120 := Nat.le_trans (ln_le L (show c + 1 ≤ L.length by omega)) w2
  have hln : ln L (c + 1) = ln L c + (cl L c).2.length := rfl
  have ck10 : ck 10 (nI c) = some c := ckI rfl (by omega)
  have e0 : (0 : Int32) = stB (ev f (cl L c).2 0) := stB_nil.symm
  rw [e0]
  refine loopE (K := (cl L c).2.length) (F := fun n i => fX10_costOf_81 k62 n x (nI (ln L c + i)) (nI c) (stB (ev f (cl L c).2 i)) h) ?_ ?_ (cl L c).2.length (n := 1000) (i := 0) (by omega) (by omega)
  · intro n i hi
    show fX10_costOf_81 k62 (n + 1) x (nI (ln L c + i)) (nI c) (stB (ev f (cl L c).2 i)) h = fX10_costOf_81 k62 n x (nI (ln L c + (i + 1))) (nI c) (stB (ev f (cl L c).2 (i + 1))) h
    have ck120 : ck 120 (nI (ln L c + i)) = some (ln L c + i) := ckI rfl (by omega)
    have n1 : ¬ (h 25 c ≤ nI (ln L c + i)) := by rw [show h 25 c = nI (ln L (c + 1)) from r5]; exact nI_ge (by omega) (by omega)
    have n2 : ¬ ((120 : Int32) ≤ nI (ln L c + i)) := nI_ge (a := ln L c + i) (b := 120) (by omega) (by omega)
    obtain ⟨q1, q2, q3⟩ := r6 i hi
    have q1' : h 26 (ln L c + i) = nI (sp (cl L c).2 i).1 := q1
    have q2' : h 27 (ln L c + i) = nI (sp (cl L c).2 i).2.1 := q2
    have q3' : h 28 (ln L c + i) = nI (sp (cl L c).2 i).2.2 := q3
    have ol := wl.2 i hi
    have hlen := ev_len (f := f) wl.2 i (Nat.le_of_lt hi)
    have hd := dpt_le wl.2 i (Nat.le_of_lt hi)
    have es : ev f (cl L c).2 (i + 1) = stp f (sp (cl L c).2 i) (ev f (cl L c).2 i) := rfl
    rw [es]
    generalize sp (cl L c).2 i = y at *
    generalize ev f (cl L c).2 i = st at *
    obtain ⟨y1, y2, y3⟩ := y
    have l4 : nI (ln L c + i) + 1 = nI (ln L c + (i + 1)) := nI_1 _
    simp only [fX10_costOf_81, ck10, ck120, ob_some, if_neg n1, if_neg n2, q1', q2', q3', fX10_costOf_247, l4]
    dsimp only at q1' q2' q3' ol hlen hd ⊢
    by_cases h4 : y1 = 4
    · subst h4
      rw [if_pos (show nI 4 = 4 from rfl), stB_not]; rfl
    · have m4 : ¬ nI y1 = 4 := fun e => h4 ((nI_eq (b := 4) (by unfold okst at ol; dsimp only at ol; omega) (by omega)).mp e)
      rw [if_neg m4]
      by_cases h5 : y1 = 5
      · subst h5
        rw [if_pos (show nI 5 = 5 from rfl), stB_and (by omega)]; rfl
      · have m5 : ¬ nI y1 = 5 := fun e => h5 ((nI_eq (b := 5) (by unfold okst at ol; dsimp only at ol; omega) (by omega)).mp e)
        rw [if_neg m5]
        by_cases h6 : y1 = 6
        · subst h6
          rw [if_pos (show nI 6 = 6 from rfl), stB_or (by omega)]; rfl
        · have m6 : ¬ nI y1 = 6 := fun e => h6 ((nI_eq (b := 6) (by unfold okst at ol; dsimp only at ol; omega) (by omega)).mp e)
          rw [if_neg m6]
          have ol' : y1 < 4 ∧ y2 < 3 ∧ y3 ≤ 999 := by unfold okst at ol; dsimp only at ol; omega
          have c4 : ck 4 (nI y1 &&& (3 : Int32)) = some y1 := ckI ((by decide +kernel : ∀ y, y < 4 → nI y &&& (3 : Int32) = nI y) y1 ol'.1) ol'.1
          simp only [c4, ob_some, hf y1 ol'.1, fX10_costOf_221, ck120, q2', fX10_costOf_244, fX10_costOf_247, l4]
          have es2 : stp f (y1, y2, y3) st = tst f (y1, y2, y3) :: st := by
            unfold stp; dsimp only; rw [if_neg h4, if_neg h5, if_neg h6]
          rw [es2, ← stB_push st]
          unfold tst
          dsimp only
          have hy2 : y2 = 0 ∨ y2 = 1 ∨ y2 = 2 := by omega
          rcases fa_three (f y1) (nI y3) with u | u | u
          · have u1 : ¬ nI y3 ≤ f y1 := Int32.not_le.mpr u
            have u2 : ¬ f y1 = nI y3 := Int32.ne_of_lt u
            have u3 : ¬ nI y3 < f y1 := Int32.lt_asymm u
            rw [if_neg u1]
            rcases hy2 with rfl | rfl | rfl
            · rw [if_pos (show (0 : Int32) = nI 0 from rfl)]; simp [u]
            · rw [if_neg (show ¬ (0 : Int32) = nI 1 by decide)]; simp [u2]
            · rw [if_neg (show ¬ (0 : Int32) = nI 2 by decide)]; simp [u3]
          · have u1 : nI y3 ≤ f y1 := by rw [u]; exact Int32.le_refl _
            have u2 : f y1 ≤ nI y3 := by rw [u]; exact Int32.le_refl _
            have u3 : ¬ nI y3 < f y1 := by rw [u]; exact Int32.lt_irrefl
            have u4 : ¬ f y1 < nI y3 := by rw [u]; exact Int32.lt_irrefl
            rw [if_pos u1, if_pos u2]
            rcases hy2 with rfl | rfl | rfl
            · rw [if_neg (show ¬ (1 : Int32) = nI 0 by decide)]; simp [u4]
            · rw [if_pos (show (1 : Int32) = nI 1 from rfl)]; simp [u]
            · rw [if_neg (show ¬ (1 : Int32) = nI 2 by decide)]; simp [u3]
          · have u1 : nI y3 ≤ f y1 := Int32.le_of_lt u
            have u2 : ¬ f y1 ≤ nI y3 := Int32.not_le.mpr u
            have u3 : ¬ f y1 < nI y3 := Int32.lt_asymm u
            have u4 : ¬ f y1 = nI y3 := fun e => Int32.ne_of_lt u e.symm
            rw [if_pos u1, if_neg u2]
            rcases hy2 with rfl | rfl | rfl
            · rw [if_neg (show ¬ (2 : Int32) = nI 0 by decide)]; simp [u3]
            · rw [if_neg (show ¬ (2 : Int32) = nI 1 by decide)]; simp [u4]
            · rw [if_pos (show (2 : Int32) = nI 2 from rfl)]; simp [u]
  · intro n
    show fX10_costOf_81 k62 (n + 1) x (nI (ln L c + (cl L c).2.length)) (nI c) (stB (ev f (cl L c).2 (cl L c).2.length)) h = _
    have n1 : h 25 c ≤ nI (ln L (c + 1)) := by rw [show h 25 c = nI (ln L (c + 1)) from r5]; exact Int32.le_refl _
    simp only [fX10_costOf_81, ck10, ob_some, ← hln, if_pos n1]
theorem costOut {L : Wld} {h : HT} {f : Nat → Int32} (w : WFL L) (wr : WRow L 23 24 h) (hf : ∀ t, t < 4 → h 29 t = f t) :
    fX10_costOf_62 1000 0 0 0 h = some (sumW (fun c => tru f (cl L c).2) (fun c => nI (cl L c).1) L.length, h) := by
  have w1 := w.1
  refine loopE (K := L.length) (F := fun n c => fX10_costOf_62 n (sumW (fun c => tru f (cl L c).2) (fun c => nI (cl L c).1) c) (nI (ln L c)) (nI c) h) ?_ ?_ L.length (n := 1000) (i := 0) (by omega) (by omega)
  · intro n c hc
    show fX10_costOf_62 (n + 1) _ (nI (ln L c)) (nI c) h = fX10_costOf_62 n _ (nI (ln L (c + 1))) (nI (c + 1)) h
    have n1 : ¬ h 23 3 ≤ nI c := by rw [show h 23 3 = nI L.length from wr.1]; exact nI_ge hc (by omega)
    have n2 : ¬ (10 : Int32) ≤ nI c := nI_ge (a := c) (b := 10) (by omega) (by omega)
    have ck10 : ck 10 (nI c) = some c := ckI rfl (by omega)
    have hp : h 24 c = nI (cl L c).1 := (wr.2.2 c hc).1
    simp only [fX10_costOf_62, if_neg n1, if_neg n2]
    rw [costIn w wr hf hc]
    simp only [fX10_costOf_253, stB_0, ck10, ob_some, hp, fX10_costOf_272, nI_1]
    rw [sumW]
    unfold tru
    cases (ev f (cl L c).2 (cl L c).2.length).getD 0 false
    · rw [if_pos (by decide), if_neg (by decide)]
    · rw [if_neg (by decide), if_pos rfl]
  · intro n
    show fX10_costOf_62 (n + 1) _ (nI (ln L L.length)) (nI L.length) h = _
    have n1 : h 23 3 ≤ nI L.length := by rw [show h 23 3 = nI L.length from wr.1]; exact Int32.le_refl _
    simp only [fX10_costOf_62, if_pos n1, fX10_costOf_278]
theorem costC {K : Nat} {s : RT} {L : Wld} {b h : HT} {k o : Nat} (ok : OKs K s L) (rc : RC 0 K s L b) (q : Qs b h) (hk : k < K) (ho : o < K) : Rs (Qs b) (fX10_costOf (nI k) (nI o) h) (costS s L k o) := by
  have K7 := rc.K7
  have r := rc.q q
  have c1 : ck 7 (nI k) = some k := ckI rfl (by omega)
  have c2 : ck 7 (nI o) = some o := ckI rfl (by omega)
  simp only [fX10_costOf, c1, c2, ob_some]
  have e2 : ∀ (g : HT) (j : Nat) (v : Int32), hu g 29 j v 2 = g 2 := fun g j v => hu_r (by decide)
  simp only [e2, r.str hk, r.str ho, r.plc hk, r.plc ho]
  generalize hH : hu (hu (hu (hu h 29 0 _) 29 1 _) 29 2 _) 29 3 _ = H
  have qH : Qs b H := by
    rw [← hH]
    exact (((q.pu (Or.inl rfl)).pu (Or.inl rfl)).pu (Or.inl rfl)).pu (Or.inl rfl)
  have hf : ∀ t, t < 4 → H 29 t = fct s k o t := by
    intro t ht
    have : t = 0 ∨ t = 1 ∨ t = 2 ∨ t = 3 := by omega
    rw [← hH]
    rcases this with rfl | rfl | rfl | rfl <;> simp [hu, fct, absd]
  rw [costOut ok.2.2.1 (rc.q qH).w hf]
  exact Rs.ok qH
