/-! conditions: what is read, and what both sides make of it -/
abbrev PRs : Type := Bool × Nat × List Sq
def tstS (Z : Nat → Int32) (T p : Nat) : PRs := match pkS Z T [109, 115, 111, 107] p with
  | none => (false, p, [])
  | some a => match pkS Z T [60, 61, 62] (p + 1) with
    | none => (false, p + 1, [])
    | some c => match numS Z T (p + 2) with
      | none => (false, p + 2, [])
      | some (v, q) => (true, q, [(a, c, v)])
def lpS (Z : Nat → Int32) (T : Nat) (sign : Int32) (op : Nat) (sg : Nat → PRs) : Nat → Nat → List Sq → PRs
  | 0, p, S => (true, p, S)
  | f + 1, p, S => if p < T ∧ Z p = sign then (if (sg (p + 1)).1 = true then lpS Z T sign op sg f (sg (p + 1)).2.1 (S ++ (sg (p + 1)).2.2 ++ [(op, 0, 0)]) else (false, (sg (p + 1)).2.1, [])) else (true, p, S)
def jnS (Z : Nat → Int32) (T : Nat) (sign : Int32) (op : Nat) (sg : Nat → PRs) (p : Nat) : PRs := if (sg p).1 = true then lpS Z T sign op sg 120 (sg p).2.1 (sg p).2.2 else (false, (sg p).2.1, [])
def eiS (Z : Nat → Int32) (T : Nat) (sg : Nat → PRs) : Nat → PRs := jnS Z T 124 6 (jnS Z T 38 5 sg)
def sglS (Z : Nat → Int32) (T : Nat) : Nat → Nat → PRs
  | 0, p => tstS Z T p
  | d + 1, p => match pkS Z T [33, 40] p with
    | none => tstS Z T p
    | some 0 => if (sglS Z T d (p + 1)).1 = true then (true, (sglS Z T d (p + 1)).2.1, (sglS Z T d (p + 1)).2.2 ++ [(4, 0, 0)]) else (false, (sglS Z T d (p + 1)).2.1, [])
    | some (_ + 1) => if (eiS Z T (sglS Z T d) (p + 1)).1 = true then (if (eiS Z T (sglS Z T d) (p + 1)).2.1 < T ∧ Z (eiS Z T (sglS Z T d) (p + 1)).2.1 = 41 then (true, (eiS Z T (sglS Z T d) (p + 1)).2.1 + 1, (eiS Z T (sglS Z T d) (p + 1)).2.2) else (false, (eiS Z T (sglS Z T d) (p + 1)).2.1, [])) else (false, (eiS Z T (sglS Z T d) (p + 1)).2.1, [])
/-- each reading goes on by as many signs as it has steps at least -/
def LPz (T : Nat) (sg : Nat → PRs) : Prop := ∀ p, p ≤ T → (sg p).1 = true → p + (sg p).2.2.length ≤ (sg p).2.1 ∧ p < (sg p).2.1 ∧ (sg p).2.1 ≤ T
theorem pkz_lt {Z : Nat → Int32} {T p k : Nat} {cs : List Int32} (e : pkS Z T cs p = some k) : p < T ∧ k < cs.length ∧ cs.getD k 0 = Z p := by
  unfold pkS at e
  by_cases z : p < T
  · rw [if_pos z] at e
    have l := fw2_lt _ e
    have t := fw2_t _ e
    rw [decide_eq_true_eq] at t
    exact ⟨z, by omega, t⟩
  · rw [if_neg z] at e; cases e
theorem pkz_no {Z : Nat → Int32} {T p k : Nat} {cs : List Int32} (e : pkS Z T cs p = none) (hk : k < cs.length) : ¬ (p < T ∧ Z p = cs.getD k 0) := by
  intro ⟨z, y⟩
  unfold pkS at e
  rw [if_pos z] at e
  have := fw2_none _ _ e k (by omega) (by omega)
  rw [decide_eq_false_iff_not] at this
  exact this y.symm
theorem tst_LP (Z : Nat → Int32) (T : Nat) : LPz T (tstS Z T) := by
  intro p hp e
  unfold tstS at e ⊢
  cases a : pkS Z T [109, 115, 111, 107] p with
  | none => rw [a] at e; cases e
  | some i =>
    rw [a] at e
    simp only at e ⊢
    cases c : pkS Z T [60, 61, 62] (p + 1) with
    | none => rw [c] at e; cases e
    | some j =>
      rw [c] at e
      simp only at e ⊢
      cases d : numS Z T (p + 2) with
      | none => rw [d] at e; cases e
      | some x =>
        obtain ⟨v, q⟩ := x
        have := numS_le d
        show p + 1 ≤ q ∧ p < q ∧ q ≤ T
        omega
theorem lp_LP {Z : Nat → Int32} {T : Nat} {sign : Int32} {op : Nat} {sg : Nat → PRs} (hs : LPz T sg) : ∀ (f p : Nat) (S : List Sq), p ≤ T → (lpS Z T sign op sg f p S).1 = true → p + (lpS Z T sign op sg f p S).2.2.length ≤ (lpS Z T sign op sg f p S).2.1 + S.length ∧ p ≤ (lpS Z T sign op sg f p S).2.1 ∧ (lpS Z T sign op sg f p S).2.1 ≤ T
  | 0, p, S, hp, _ => by
    show p + S.length ≤ p + S.length ∧ p ≤ p ∧ p ≤ T
    omega
  | f + 1, p, S, hp, e => by
    rw [lpS] at e ⊢
    by_cases z : p < T ∧ Z p = sign
    · rw [if_pos z] at e ⊢
      by_cases y : (sg (p + 1)).1 = true
      · rw [if_pos y] at e ⊢
        obtain ⟨h1, h2, h3⟩ := hs (p + 1) (by omega) y
        obtain ⟨i1, i2, i3⟩ := lp_LP hs f (sg (p + 1)).2.1 (S ++ (sg (p + 1)).2.2 ++ [(op, 0, 0)]) h3 e
        rw [List.length_append, List.length_append, List.length_singleton] at i1
        omega
      · rw [if_neg y] at e; cases e
    · rw [if_neg z] at e ⊢
      show p + S.length ≤ p + S.length ∧ p ≤ p ∧ p ≤ T
      omega
theorem jn_LP {Z : Nat → Int32} {T : Nat} {sign : Int32} {op : Nat} {sg : Nat → PRs} (hs : LPz T sg) : LPz T (jnS Z T sign op sg) := by
  intro p hp e
  unfold jnS at e ⊢
  by_cases y : (sg p).1 = true
  · rw [if_pos y] at e ⊢
    obtain ⟨h1, h2, h3⟩ := hs p hp y
    obtain ⟨i1, i2, i3⟩ := lp_LP hs 120 _ _ h3 e
    omega
  · rw [if_neg y] at e; cases e
theorem sgl_LP (Z : Nat → Int32) (T : Nat) : ∀ d, LPz T (sglS Z T d)
  | 0 => tst_LP Z T
  | d + 1 => by
    intro p hp e
    have ih := sgl_LP Z T d
    rw [sglS] at e ⊢
    cases a : pkS Z T [33, 40] p with
    | none =>
      rw [a] at e
      exact tst_LP Z T p hp e
    | some k =>
      have hpT := (pkz_lt a).1
      rw [a] at e
      cases k with
      | zero =>
        simp only at e ⊢
        by_cases y : (sglS Z T d (p + 1)).1 = true
        · rw [if_pos y]
          obtain ⟨h1, h2, h3⟩ := ih (p + 1) (by omega) y
          simp only [List.length_append, List.length_singleton]
          omega
        · rw [if_neg y] at e; cases e
      | succ k =>
        simp only at e ⊢
        by_cases y : (eiS Z T (sglS Z T d) (p + 1)).1 = true
        · rw [if_pos y] at e ⊢
          have hL : LPz T (eiS Z T (sglS Z T d)) := jn_LP (jn_LP ih)
          obtain ⟨h1, h2, h3⟩ := hL (p + 1) (by omega) y
          by_cases z : (eiS Z T (sglS Z T d) (p + 1)).2.1 < T ∧ Z (eiS Z T (sglS Z T d) (p + 1)).2.1 = 41
          · rw [if_pos z]
            simp only
            omega
          · rw [if_neg z] at e; cases e
        · rw [if_neg y] at e; cases e
section cd
variable {Z : Nat → Int32} {T p : Nat} {h m : HT} {E : List Sq}
def CFz (m : HT) (p : Nat) (h : HT) : Prop := (∀ k j, ¬ (k = 84 ∨ k = 85 ∨ k = 86 ∨ (k = 81 ∧ j = 4) ∨ (k = 21 ∧ j = 2)) → h k j = m k j) ∧ h 21 2 = nI p
def CPz (m : HT) (p : Nat) (E : List Sq) (h : HT) : Prop := CFz m p h ∧ h 81 4 = nI E.length ∧ ∀ i, i < E.length → h 84 i = nI (sp E i).1 ∧ h 85 i = nI (sp E i).2.1 ∧ h 86 i = nI (sp E i).2.2
def tb (Z : Nat → Int32) (T : Nat) (m : HT) : Prop := T ≤ 120 ∧ m 21 1 = nI T ∧ ∀ i, i < T → m 22 i = Z i
theorem CFz.tp (c : CFz m p h) (b : tb Z T m) (hp : p ≤ T) : TP Z T p h := ⟨b.1, hp, by rw [c.1 21 1 (by omega)]; exact b.2.1, c.2, fun i hi => by rw [c.1 22 i (by omega)]; exact b.2.2 i hi⟩
theorem CPz.mv {q : Nat} (c : CPz m p E h) : CPz m q E (hu h 21 2 (nI q)) := ⟨⟨fun k j n => by rw [hu_ne (by omega)]; exact c.1.1 k j n, hu_eq⟩, by rw [hu_ne (by omega)]; exact c.2.1, fun i hi => by rw [hu_ne (by omega), hu_ne (by omega), hu_ne (by omega)]; exact c.2.2 i hi⟩
theorem sp_app {E S : List Sq} {i : Nat} (h : i < E.length) : sp (E ++ S) i = sp E i := by
  unfold sp
  rw [List.getD_eq_getElem?_getD, List.getElem?_append_left h, List.getD_eq_getElem?_getD]
theorem sp_last {E : List Sq} {x : Sq} : sp (E ++ [x]) E.length = x := by
  unfold sp
  rw [List.getD_eq_getElem?_getD, List.getElem?_append_right (Nat.le_refl _), Nat.sub_self]; rfl
theorem stepE (c : CPz m p E h) (hl : E.length < 120) (x : Sq) : Rs (CPz m p (E ++ [x])) (fX10_step (nI x.1) (nI x.2.1) (nI x.2.2) h) 0 := by
  obtain ⟨⟨c1, c2⟩, c3, c4⟩ := c
  have l1 : nI E.length < 120 := nI_lt (b := 120) hl (by omega)
  have k : ck 120 (nI E.length) = some E.length := ckI rfl hl
  have f1 : ∀ u : Int32, hu h 84 E.length u 81 4 = nI E.length := fun u => by rw [hu_ne (by omega)]; exact c3
  have f2 : ∀ u v : Int32, hu (hu h 84 E.length u) 85 E.length v 81 4 = nI E.length := fun u v => by rw [hu_ne (by omega)]; exact f1 u
  have f3 : ∀ u v w : Int32, hu (hu (hu h 84 E.length u) 85 E.length v) 86 E.length w 81 4 = nI E.length := fun u v w => by rw [hu_ne (by omega)]; exact f2 u v
  simp only [fX10_step, c3, if_pos l1, k, ob_s, f1, f2, f3, nI_1]
  refine Rs.ok ⟨⟨fun q j n => by rw [hu_ne (by omega), hu_ne (by omega), hu_ne (by omega), hu_ne (by omega)]; exact c1 q j n, by rw [hu_ne (by omega), hu_ne (by omega), hu_ne (by omega), hu_ne (by omega)]; exact c2⟩, by rw [hu_eq, List.length_append, List.length_singleton], fun i hi => ?_⟩
  rw [List.length_append, List.length_singleton] at hi
  by_cases z : i = E.length
  · subst z
    rw [sp_last, hu_ne (by omega), hu_ne (by omega), hu_ne (by omega), hu_eq, hu_ne (by omega), hu_ne (by omega), hu_eq, hu_ne (by omega), hu_eq]
    exact ⟨rfl, rfl, rfl⟩
  · rw [sp_app (by omega), hu_ne (by omega), hu_ne (by omega), hu_ne (by omega), hu_ne (by omega), hu_ne (by omega), hu_ne (by omega), hu_ne (by omega), hu_ne (by omega), hu_ne (by omega), hu_ne (by omega), hu_ne (by omega), hu_ne (by omega)]
    exact c4 i (by omega)
def CRz (m : HT) (E : List Sq) (r : PRs) (h : HT) : Prop := (r.1 = true → CPz m r.2.1 (E ++ r.2.2) h) ∧ (r.1 = false → CFz m r.2.1 h)
theorem CRz.t {q : Nat} {S : List Sq} (c : CPz m q (E ++ S) h) : CRz m E (true, q, S) h := ⟨fun _ => c, fun e => by cases e⟩
theorem CRz.f {q : Nat} {S : List Sq} (c : CFz m q h) : CRz m E (false, q, S) h := ⟨fun e => (by cases e), fun _ => c⟩
/-- a reading of the one side that does what is said -/
def SCl (T : Nat) (m : HT) (sg : Nat → PRs) (F : HT → Option (Int32 × HT)) : Prop := ∀ (E : List Sq) (p : Nat) (h : HT), CPz m p E h → p ≤ T → E.length ≤ p → Rs (CRz m E (sg p)) (F h) (bI (sg p).1)
theorem testC (b : tb Z T m) : SCl T m (tstS Z T) fX10_test := by
  intro E p h c hp hl
  have t := c.1.tp b hp
  have e1 : fX6_pick 5 h = _ := pickE st_5 (by decide) t
  unfold fX10_test tstS
  rw [e1]
  cases a : pkS Z T [109, 115, 111, 107] p with
  | none =>
    simp only [ob_s]
    rw [if_neg (by decide)]
    exact Rs.ok (CRz.f c.1)
  | some i =>
    obtain ⟨a1, a2, a3⟩ := pkz_lt a
    have a2 : i < 4 := a2
    simp only [ob_s]
    rw [if_pos (nI_pos' (by omega))]
    have t1 := t.up a1
    have c1 : CPz m (p + 1) E (hu h 21 2 (nI (p + 1))) := c.mv
    have e2 : fX6_pick 6 (hu h 21 2 (nI (p + 1))) = _ := pickE st_6 (by decide) t1
    rw [e2]
    cases d : pkS Z T [60, 61, 62] (p + 1) with
    | none =>
      simp only [ob_s]
      rw [if_neg (by decide)]
      exact Rs.ok (CRz.f c1.1)
    | some j =>
      obtain ⟨d1, d2, d3⟩ := pkz_lt d
      have d2 : j < 3 := d2
      simp only [ob_s]
      rw [if_pos (nI_pos' (by omega)), hu_two]
      have t2 : TP Z T (p + 2) (hu h 21 2 (nI (p + 1 + 1))) := by
        have := t1.up d1
        rwa [hu_two] at this
      have c2 : CPz m (p + 2) E (hu h 21 2 (nI (p + 1 + 1))) := c.mv
      rw [numE t2]
      cases f : numS Z T (p + 2) with
      | none =>
        simp only [ob_s]
        rw [if_neg (by decide)]
        exact Rs.ok (CRz.f c2.1)
      | some x =>
        obtain ⟨v, q⟩ := x
        have nl := numS_le f
        simp only [ob_s]
        rw [if_pos (nI_pos' (by omega)), hu_two]
        have c3 : CPz m q E (hu h 21 2 (nI q)) := c.mv
        have hT := b.1
        obtain ⟨h4, e4, c4⟩ := stepE c3 (by omega) (i, j, v)
        simp only [e4, ob_s]
        exact Rs.ok (CRz.t c4)
theorem loopC {sg : Nat → PRs} {rec : Int32 → HT → Option (Int32 × HT)} {l2 : Int32} (b : tb Z T m) (hs : LPz T sg) (hC : SCl T m sg (rec l2)) : ∀ (f : Nat) {n p : Nat} {S : List Sq} {h : HT}, f ≤ 120 → f < n → CPz m p (E ++ S) h → p ≤ T → E.length + S.length ≤ p → Rs (CRz m E (lpS Z T 38 5 sg f p S)) (fX10_both_13 rec n l2 (nI (120 - f)) h) (bI (lpS Z T 38 5 sg f p S).1)
  | 0, n, p, S, h, hf, hn, c, hp, hl => by
    obtain ⟨n, rfl⟩ : ∃ n', n = n' + 1 := ⟨n - 1, by omega⟩
    simp only [fX10_both_13, if_pos (show (120 : Int32) ≤ nI (120 - 0) from Int32.le_refl _), fX10_both_52, lpS]
    exact Rs.ok (CRz.t c)
  | f + 1, n, p, S, h, hf, hn, c, hp, hl => by
    obtain ⟨n, rfl⟩ : ∃ n', n = n' + 1 := ⟨n - 1, by omega⟩
    have n1 : ¬ (120 : Int32) ≤ nI (120 - (f + 1)) := nI_ge (b := 120) (by omega) (by omega)
    have t := c.1.tp b hp
    have e1 : fX6_pick 8 h = _ := pickE st_8 (by decide) t
    have hT := b.1
    rw [lpS]
    simp only [fX10_both_13, if_neg n1, e1, fX10_both_52]
    cases a : pkS Z T [38] p with
    | none =>
      have : ¬ (p < T ∧ Z p = 38) := pkz_no (k := 0) a (by decide)
      simp only [ob_s]
      rw [if_neg (show ¬ (-1 : Int32) = 0 by decide), if_neg this]
      exact Rs.ok (CRz.t c)
    | some i =>
      obtain ⟨a1, a2, a3⟩ := pkz_lt a
      have a2 : i < 1 := a2
      obtain rfl : i = 0 := by omega
      have a3 : (38 : Int32) = Z p := a3
      simp only [ob_s]
      rw [if_pos (show nI 0 = 0 from rfl), if_pos ⟨a1, a3.symm⟩]
      have c1 : CPz m (p + 1) (E ++ S) (hu h 21 2 (nI (p + 1))) := c.mv
      obtain ⟨h2, e2, r2⟩ := hC (E ++ S) (p + 1) _ c1 (by omega) (by rw [List.length_append]; omega)
      simp only [e2, ob_s]
      cases y : (sg (p + 1)).1
      · simp only [if_pos bI_f, Bool.false_eq_true, if_false]
        exact Rs.ok (CRz.f (r2.2 y))
      · simp only [ifbt, if_true]
        obtain ⟨l1, l2', l3⟩ := hs (p + 1) (by omega) y
        obtain ⟨h3, e3, c3⟩ := stepE (r2.1 y) (by rw [List.length_append, List.length_append]; omega) (5, 0, 0)
        have e3' : fX10_step 5 0 0 h2 = some (0, h3) := e3
        simp only [e3', ob_s, nI_1]
        rw [show 120 - (f + 1) + 1 = 120 - f by omega]
        have c3' : CPz m (sg (p + 1)).2.1 (E ++ (S ++ (sg (p + 1)).2.2 ++ [(5, 0, 0)])) h3 := by
          have e : E ++ (S ++ (sg (p + 1)).2.2 ++ [(5, 0, 0)]) = E ++ S ++ (sg (p + 1)).2.2 ++ [(5, 0, 0)] := by simp
          rw [e]; exact c3
        exact loopC b hs hC f (by omega) (by omega) c3' l3 (by rw [List.length_append, List.length_append, List.length_singleton]; omega)
theorem bothC {sg : Nat → PRs} {rec : Int32 → HT → Option (Int32 × HT)} {l2 : Int32} (b : tb Z T m) (hs : LPz T sg) (hC : SCl T m sg (rec l2)) : SCl T m (jnS Z T 38 5 sg) (fX10_both rec l2) := by
  intro E p h c hp hl
  obtain ⟨h1, e1, r1⟩ := hC E p h c hp hl
  unfold jnS
  simp only [fX10_both, e1, ob_s]
  cases y : (sg p).1
  · simp only [if_pos bI_f, Bool.false_eq_true, if_false]
    exact Rs.ok (CRz.f (r1.2 y))
  · simp only [ifbt, if_true]
    obtain ⟨l1, l2', l3⟩ := hs p hp y
    exact loopC b hs hC 120 (n := 1000) (Nat.le_refl _) (by omega) (r1.1 y) l3 (by omega)
theorem loopD {sg : Nat → PRs} {rec : Int32 → HT → Option (Int32 × HT)} {l2 : Int32} (b : tb Z T m) (hs : LPz T sg) (hC : SCl T m sg (fX10_both rec l2)) : ∀ (f : Nat) {n p : Nat} {S : List Sq} {h : HT}, f ≤ 120 → f < n → CPz m p (E ++ S) h → p ≤ T → E.length + S.length ≤ p → Rs (CRz m E (lpS Z T 124 6 sg f p S)) (fX10_either_13 rec n l2 (nI (120 - f)) h) (bI (lpS Z T 124 6 sg f p S).1)
  | 0, n, p, S, h, hf, hn, c, hp, hl => by
    obtain ⟨n, rfl⟩ : ∃ n', n = n' + 1 := ⟨n - 1, by omega⟩
    simp only [fX10_either_13, if_pos (show (120 : Int32) ≤ nI (120 - 0) from Int32.le_refl _), fX10_either_53, lpS]
    exact Rs.ok (CRz.t c)
  | f + 1, n, p, S, h, hf, hn, c, hp, hl => by
    obtain ⟨n, rfl⟩ : ∃ n', n = n' + 1 := ⟨n - 1, by omega⟩
    have n1 : ¬ (120 : Int32) ≤ nI (120 - (f + 1)) := nI_ge (b := 120) (by omega) (by omega)
    have t := c.1.tp b hp
    have e1 : fX6_pick 9 h = _ := pickE st_9 (by decide) t
    have hT := b.1
    rw [lpS]
    simp only [fX10_either_13, if_neg n1, e1, fX10_either_53]
    cases a : pkS Z T [124] p with
    | none =>
      have : ¬ (p < T ∧ Z p = 124) := pkz_no (k := 0) a (by decide)
      simp only [ob_s]
      rw [if_neg (show ¬ (-1 : Int32) = 0 by decide), if_neg this]
      exact Rs.ok (CRz.t c)
    | some i =>
      obtain ⟨a1, a2, a3⟩ := pkz_lt a
      have a2 : i < 1 := a2
      obtain rfl : i = 0 := by omega
      have a3 : (124 : Int32) = Z p := a3
      simp only [ob_s]
      rw [if_pos (show nI 0 = 0 from rfl), if_pos ⟨a1, a3.symm⟩]
      have c1 : CPz m (p + 1) (E ++ S) (hu h 21 2 (nI (p + 1))) := c.mv
      obtain ⟨h2, e2, r2⟩ := hC (E ++ S) (p + 1) _ c1 (by omega) (by rw [List.length_append]; omega)
      simp only [e2, ob_s]
      cases y : (sg (p + 1)).1
      · simp only [if_pos bI_f, Bool.false_eq_true, if_false]
        exact Rs.ok (CRz.f (r2.2 y))
      · simp only [ifbt, if_true]
        obtain ⟨l1, l2', l3⟩ := hs (p + 1) (by omega) y
        obtain ⟨h3, e3, c3⟩ := stepE (r2.1 y) (by rw [List.length_append, List.length_append]; omega) (6, 0, 0)
        have e3' : fX10_step 6 0 0 h2 = some (0, h3) := e3
        simp only [e3', ob_s, nI_1]
        rw [show 120 - (f + 1) + 1 = 120 - f by omega]
        have c3' : CPz m (sg (p + 1)).2.1 (E ++ (S ++ (sg (p + 1)).2.2 ++ [(6, 0, 0)])) h3 := by
          have e : E ++ (S ++ (sg (p + 1)).2.2 ++ [(6, 0, 0)]) = E ++ S ++ (sg (p + 1)).2.2 ++ [(6, 0, 0)] := by simp
          rw [e]; exact c3
        exact loopD b hs hC f (by omega) (by omega) c3' l3 (by rw [List.length_append, List.length_append, List.length_singleton]; omega)
theorem eithC {sg : Nat → PRs} {rec : Int32 → HT → Option (Int32 × HT)} {l2 : Int32} (b : tb Z T m) (hs : LPz T sg) (hC : SCl T m sg (rec l2)) : SCl T m (eiS Z T sg) (fX10_either rec l2) := by
  intro E p h c hp hl
  have hB := bothC b hs hC
  have hL : LPz T (jnS Z T 38 5 sg) := jn_LP hs
  obtain ⟨h1, e1, r1⟩ := hB E p h c hp hl
  unfold eiS
  generalize jnS Z T 38 5 sg = sg2 at *
  unfold jnS
  simp only [fX10_either, e1, ob_s]
  cases y : (sg2 p).1
  · simp only [if_pos bI_f, Bool.false_eq_true, if_false]
    exact Rs.ok (CRz.f (r1.2 y))
  · simp only [ifbt, if_true]
    obtain ⟨l1, l2', l3⟩ := hL p hp y
    exact loopD b hL hB 120 (n := 1000) (Nat.le_refl _) (by omega) (r1.1 y) l3 (by omega)
theorem singleC (b : tb Z T m) : ∀ (d n o : Nat), o + d = 5 → d < n → SCl T m (sglS Z T d) (fX10_single n (nI o))
  | 0, n, o, ho, hn => by
    obtain ⟨n, rfl⟩ : ∃ n', n = n' + 1 := ⟨n - 1, by omega⟩
    obtain rfl : o = 5 := by omega
    intro E p h c hp hl
    obtain ⟨h1, e1, r1⟩ := testC b E p h c hp hl
    show Rs _ (fX10_singleb (fX10_single n) (nI 5) h) _
    rw [sglS]
    simp only [fX10_singleb, if_pos (show (5 : Int32) ≤ nI 5 from Int32.le_refl _), fX10_singleb_15, if_neg (show ¬ (0 : Int32) ≤ -1 by decide), e1, ob_s, bI_cb]
    exact Rs.ok r1
  | d + 1, n, o, ho, hn => by
    obtain ⟨n, rfl⟩ : ∃ n', n = n' + 1 := ⟨n - 1, by omega⟩
    intro E p h c hp hl
    have ih := singleC b d n (o + 1) (by omega) (by omega)
    have hT := b.1
    have n5 : ¬ (5 : Int32) ≤ nI o := nI_ge (b := 5) (by omega) (by omega)
    have t := c.1.tp b hp
    have e1 : fX6_pick 4 h = _ := pickE st_4 (by decide) t
    show Rs _ (fX10_singleb (fX10_single n) (nI o) h) _
    rw [sglS]
    simp only [fX10_singleb, if_neg n5, e1]
    cases a : pkS Z T [33, 40] p with
    | none =>
      obtain ⟨h2, e2, r2⟩ := testC b E p h c hp hl
      simp only [ob_s, fX10_singleb_15, if_neg (show ¬ (0 : Int32) ≤ -1 by decide), e2, bI_cb]
      exact Rs.ok r2
    | some i =>
      obtain ⟨a1, a2, a3⟩ := pkz_lt a
      have a2 : i < 2 := a2
      have c1 : CPz m (p + 1) E (hu h 21 2 (nI (p + 1))) := c.mv
      cases i with
      | zero =>
        obtain ⟨h2, e2, r2⟩ := ih E (p + 1) _ c1 (by omega) (by omega)
        simp only [ob_s, fX10_singleb_15, if_pos (show (0 : Int32) ≤ nI 0 by decide), if_neg (show ¬ nI 0 = 1 by decide), nI_1, e2]
        cases y : (sglS Z T d (p + 1)).1
        · simp only [if_pos bI_f, Bool.false_eq_true, if_false]
          exact Rs.ok (CRz.f (r2.2 y))
        · simp only [ifbt, if_true]
          obtain ⟨l1, l2', l3⟩ := sgl_LP Z T d (p + 1) (by omega) y
          obtain ⟨h3, e3, c3⟩ := stepE (r2.1 y) (by rw [List.length_append]; omega) (4, 0, 0)
          have e3' : fX10_step 4 0 0 h2 = some (0, h3) := e3
          simp only [e3', ob_s]
          refine Rs.ok (CRz.t ?_)
          rw [← List.append_assoc]; exact c3
      | succ i =>
        obtain rfl : i = 0 := by omega
        obtain ⟨h2, e2, r2⟩ := eithC b (sgl_LP Z T d) ih E (p + 1) _ c1 (by omega) (by omega)
        simp only [ob_s, fX10_singleb_15, if_pos (show (0 : Int32) ≤ nI (0 + 1) by decide), if_pos (show nI (0 + 1) = 1 from rfl), nI_1, e2, fX10_singleb_55, fX10_singleb_56, cb_0, cb_1]
        cases y : (eiS Z T (sglS Z T d) (p + 1)).1
        · simp only [if_pos bI_f, Bool.false_eq_true, if_false]
          exact Rs.ok (CRz.f (r2.2 y))
        · simp only [ifbt, if_true]
          have hL : LPz T (eiS Z T (sglS Z T d)) := jn_LP (jn_LP (sgl_LP Z T d))
          obtain ⟨l1, l2', l3⟩ := hL (p + 1) (by omega) y
          have cc := r2.1 y
          have t2 := cc.1.tp b l3
          have e3 : fX6_pick 7 h2 = _ := pickE st_7 (by decide) t2
          rw [e3]
          cases q : pkS Z T [41] (eiS Z T (sglS Z T d) (p + 1)).2.1 with
          | none =>
            have : ¬ ((eiS Z T (sglS Z T d) (p + 1)).2.1 < T ∧ Z (eiS Z T (sglS Z T d) (p + 1)).2.1 = 41) := pkz_no (k := 0) q (by decide)
            simp only [ob_s]
            rw [if_neg (show ¬ (-1 : Int32) = 0 by decide), if_neg this]
            exact Rs.ok (CRz.f cc.1)
          | some j =>
            obtain ⟨q1, q2, q3⟩ := pkz_lt q
            have q2 : j < 1 := q2
            obtain rfl : j = 0 := by omega
            have q3 : (41 : Int32) = Z (eiS Z T (sglS Z T d) (p + 1)).2.1 := q3
            simp only [ob_s]
            rw [if_pos (show nI 0 = 0 from rfl), if_pos ⟨q1, q3.symm⟩]
            exact Rs.ok (CRz.t cc.mv)
end cd
