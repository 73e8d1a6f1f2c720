section nu
variable {Z : Nat → Int32} {T p : Nat} {h m : HT}
def dig (Z : Nat → Int32) (T p : Nat) : Option Nat := pkS Z T [48, 49, 50, 51, 52, 53, 54, 55, 56, 57] p
theorem fw2_none {q : Nat → Bool} : ∀ (n j : Nat), fw2 q n j = none → ∀ k, j ≤ k → k < j + n → q k = false
  | 0, j, _, k, h1, h2 => by omega
  | n + 1, j, e, k, h1, h2 => by
    rw [fw2] at e
    by_cases z : q j = true
    · rw [if_pos z] at e; cases e
    · rw [if_neg z] at e
      by_cases zk : k = j
      · rw [zk]; simpa using z
      · exact fw2_none n (j + 1) e k (by omega) (by omega)
theorem digs : ∀ k, k < 10 → ([48, 49, 50, 51, 52, 53, 54, 55, 56, 57] : List Int32).getD k 0 = nI (48 + k) := by decide +kernel
theorem dig_some {k : Nat} (e : dig Z T p = some k) : p < T ∧ k < 10 ∧ Z p = nI (48 + k) := by
  unfold dig pkS at e
  by_cases z : p < T
  · rw [if_pos z] at e
    have l := fw2_lt _ e
    have l : k < 0 + 10 := l
    have t := fw2_t _ e
    rw [decide_eq_true_eq, digs k (by omega)] at t
    exact ⟨z, by omega, t.symm⟩
  · rw [if_neg z] at e; cases e
theorem dig_none (e : dig Z T p = none) : ∀ k, k < 10 → ¬ (p < T ∧ Z p = nI (48 + k)) := by
  intro k hk ⟨z, y⟩
  unfold dig pkS at e
  rw [if_pos z] at e
  have := fw2_none _ _ e k (by omega) (by show k < 0 + 10; omega)
  rw [decide_eq_false_iff_not, digs k hk] at this
  exact this y.symm
/-- a number of one to three signs -/
def numS (Z : Nat → Int32) (T p : Nat) : Option (Nat × Nat) := match dig Z T p with
  | none => none
  | some 0 => some (0, p + 1)
  | some (a + 1) => match dig Z T (p + 1) with
    | none => some (a + 1, p + 1)
    | some c => match dig Z T (p + 2) with
      | none => some (10 * (a + 1) + c, p + 2)
      | some d => some (10 * (10 * (a + 1) + c) + d, p + 3)
theorem numS_le {v q : Nat} (e : numS Z T p = some (v, q)) : v ≤ 999 ∧ p < q ∧ q ≤ T := by
  unfold numS at e
  cases d0 : dig Z T p with
  | none => rw [d0] at e; cases e
  | some a =>
    rw [d0] at e
    obtain ⟨a1, a2, _⟩ := dig_some d0
    cases a with
    | zero =>
      obtain ⟨rfl, rfl⟩ := Prod.mk.inj (Option.some.inj e)
      omega
    | succ a =>
      simp only at e
      cases d1 : dig Z T (p + 1) with
      | none =>
        rw [d1] at e
        obtain ⟨rfl, rfl⟩ := Prod.mk.inj (Option.some.inj e)
        omega
      | some c =>
        rw [d1] at e
        obtain ⟨b1, b2, _⟩ := dig_some d1
        simp only at e
        cases d2 : dig Z T (p + 2) with
        | none =>
          rw [d2] at e
          obtain ⟨rfl, rfl⟩ := Prod.mk.inj (Option.some.inj e)
          omega
        | some d =>
          rw [d2] at e
          obtain ⟨c1, c2, _⟩ := dig_some d2
          obtain ⟨rfl, rfl⟩ := Prod.mk.inj (Option.some.inj e)
          omega
theorem pickD (t : TP Z T p h) : fX6_pick 2 h = match dig Z T p with
    | none => some (-1, h)
    | some k => some (nI k, hu h 21 2 (nI (p + 1))) := pickE st_2 (by decide) t
theorem TP.up (t : TP Z T p h) (hp : p < T) : TP Z T (p + 1) (hu h 21 2 (nI (p + 1))) := ⟨t.1, by omega, by rw [hu_ne (by omega)]; exact t.2.2.1, hu_eq, fun i hi => by rw [hu_ne (by omega)]; exact t.2.2.2.2 i hi⟩
theorem hu_two {h : HT} {k j : Nat} {u v : Int32} : hu (hu h k j u) k j v = hu h k j v := by
  funext a c
  unfold hu
  by_cases z : a = k ∧ c = j
  · rw [if_pos z, if_pos z]
  · rw [if_neg z, if_neg z, if_neg z]
theorem nm15 {n : Nat} {l1 l2 : Int32} : fX6_numeral_15 (n + 1) l1 l2 h = if 3 ≤ l2 then some (l1, h) else Option.bind (fX6_pick 2 h) fun z4 => if 0 ≤ z4.1 then fX6_numeral_15 n ((l1 * (10 : Int32)) + z4.1) (l2 + 1) z4.2 else some (l1, z4.2) := by rw [fX6_numeral_15]
theorem numE (t : TP Z T p h) : fX6_numeral h = match numS Z T p with
    | none => some (-1, h)
    | some (v, q) => some (nI v, hu h 21 2 (nI q)) := by
  have m10 : ∀ a c : Nat, nI a * (10 : Int32) + nI c = nI (10 * a + c) := fun a c => by
    have e : nI a * (10 : Int32) = nI (a * 10) := nI_mul a 10
    rw [e, nI_add, Nat.mul_comm]
  unfold fX6_numeral numS
  rw [pickD t]
  cases d0 : dig Z T p with
  | none => rfl
  | some a =>
    obtain ⟨a1, a2, _⟩ := dig_some d0
    cases a with
    | zero =>
      simp only [ob_s]
      rw [if_neg (by decide)]
    | succ a =>
      simp only [ob_s]
      rw [if_pos (show (0 : Int32) < nI (a + 1) from nI_lt (a := 0) (by omega) (by omega))]
      have t1 := t.up a1
      rw [show (1000 : Nat) = 998 + 1 + 1 from rfl, nm15, if_neg (by decide), pickD t1]
      cases d1 : dig Z T (p + 1) with
      | none =>
        simp only [ob_s]
        rw [if_neg (by decide)]
      | some c =>
        obtain ⟨b1, b2, _⟩ := dig_some d1
        simp only [ob_s]
        rw [if_pos (nI_pos' (show c < 2 ^ 31 by omega)), m10, hu_two, nm15, if_neg (by decide)]
        have t2 : TP Z T (p + 2) (hu h 21 2 (nI (p + 1 + 1))) := by
          have := t1.up b1
          rw [hu_two] at this
          exact this
        rw [pickD t2]
        cases d2 : dig Z T (p + 2) with
        | none =>
          simp only [ob_s]
          rw [if_neg (by decide)]
        | some d =>
          obtain ⟨c1, c2, _⟩ := dig_some d2
          simp only [ob_s]
          rw [if_pos (nI_pos' (show d < 2 ^ 31 by omega)), m10, hu_two]
          rw [show (998 : Nat) = 997 + 1 from rfl, nm15, if_pos (by decide)]
theorem in48 {x : Int32} : fX12_in x 48 57 h = some (if 48 ≤ x ∧ x ≤ 57 then 1 else 0, h) := by
  simp only [fX12_in, fX12_in_14, fX12_in_15, cb_0, cb_1, ob_s]
  by_cases c : x < 48
  · rw [if_pos c, if_neg (fun q => Int32.not_le.mpr c q.1)]
  · rw [if_neg c]
    by_cases d : (57 : Int32) < x
    · rw [if_pos d, if_neg (fun q => Int32.not_le.mpr d q.2)]
    · rw [if_neg d, if_pos ⟨Int32.not_lt.mp c, Int32.not_lt.mp d⟩]
theorem dig48 : (48 ≤ hrS Z T p ∧ hrS Z T p ≤ 57) ↔ ∃ k, dig Z T p = some k := by
  have e48 : (48 : Int32).toInt = 48 := by decide
  have e57 : (57 : Int32).toInt = 57 := by decide
  constructor
  · rintro ⟨h1, h2⟩
    cases d : dig Z T p with
    | some k => exact ⟨k, rfl⟩
    | none =>
      exfalso
      have no := dig_none d
      unfold hrS at h1 h2
      by_cases z : p < T
      · rw [if_pos z] at h1 h2
        rw [fa_le, e48] at h1
        rw [fa_le, e57] at h2
        obtain ⟨j, hj, e⟩ := nI_of (x := Z p) (by rw [fa_lt, show (0 : Int32).toInt = 0 by decide]; omega)
        rw [e, nI_toInt hj] at h1 h2
        exact no (j - 48) (by omega) ⟨z, by rw [e, show 48 + (j - 48) = j by omega]⟩
      · rw [if_neg z] at h1
        exact absurd h1 (by decide)
  · rintro ⟨k, e⟩
    obtain ⟨a1, a2, a3⟩ := dig_some e
    unfold hrS
    rw [if_pos a1, a3]
    exact ⟨nI_le (a := 48) (by omega) (by omega), nI_le (b := 57) (by omega) (by omega)⟩
theorem RF.up {m : HT} {er : Bool} {q : Nat} (r : RF m p er h) : RF m q er (hu h 93 4 (nI q)) := ⟨fun k j n => by rw [hu_ne (by omega)]; exact r.1 k j n, hu_eq, by rw [hu_ne (by omega)]; exact r.2.2⟩
theorem fig34 {n : Nat} {l1 l2 : Int32} : fX12_figures_34 (n + 1) l1 l2 h = if 3 ≤ l2 then fX12_figures_97 l1 h else (if (h 93 6) = 0 then (Option.bind (fX12_here h) fun z5 => Option.bind (fX12_in z5.1 48 57 z5.2) fun z6 => if z6.1 = 0 then (fX12_figures_97 l1 z6.2) else (if l2 = 0 then (fX12_figures_68 (fX12_figures_34 n) l1 l2 z6.2) else (if l1 ≤ 0 then (fX12_figures_97 l1 z6.2) else (fX12_figures_68 (fX12_figures_34 n) l1 l2 z6.2)))) else (fX12_figures_97 l1 h)) := by rw [fX12_figures_34]
theorem fig_n (b : rb Z T m) (hp : p ≤ T) (r : RF m p false h) {a i n : Nat} (hi : i < 3) (ha : a ≤ 99) : fX12_figures_34 (n + 1) (nI a) (nI i) h = match dig Z T p with
    | none => some (nI a, h)
    | some k => if i = 0 ∨ 0 < a then fX12_figures_34 n (nI (10 * a + k)) (nI (i + 1)) (hu h 93 4 (nI (p + 1))) else some (nI a, h) := by
  have rp := r.rp b hp
  have n3 : ¬ (3 : Int32) ≤ nI i := nI_ge (b := 3) hi (by omega)
  rw [fig34, if_neg n3, r.2.2, if_pos bI_f, hereE rp]
  simp only [ob_s, in48, fX12_figures_97]
  cases d : dig Z T p with
  | none =>
    have : ¬ (48 ≤ hrS Z T p ∧ hrS Z T p ≤ 57) := fun q => by
      obtain ⟨k, e⟩ := dig48.mp q
      rw [d] at e; cases e
    rw [if_neg this]
    simp only [if_true]
  | some k =>
    obtain ⟨a1, a2, a3⟩ := dig_some d
    rw [if_pos (dig48.mpr ⟨k, d⟩)]
    have ehr : hrS Z T p = nI (48 + k) := by unfold hrS; rw [if_pos a1, a3]
    have val : ((10 : Int32) * nI a + nI (48 + k)) - (48 : Int32) = nI (10 * a + k) := by
      have e1 : (10 : Int32) * nI a = nI (10 * a) := nI_mul 10 a
      have e2 := nI_sub (a := 10 * a + (48 + k)) (b := 48) (by omega)
      rw [e1, nI_add]
      show nI (10 * a + (48 + k)) - nI 48 = _
      rw [e2, show 10 * a + (48 + k) - 48 = 10 * a + k by omega]
    have e68 : fX12_figures_68 (fX12_figures_34 n) (nI a) (nI i) h = fX12_figures_34 n (nI (10 * a + k)) (nI (i + 1)) (hu h 93 4 (nI (p + 1))) := by
      simp only [fX12_figures_68, hereE rp, ob_s, ehr, val, nI_1, r.2.1]
    simp only [if10, e68]
    by_cases z : i = 0
    · rw [if_pos (show nI i = 0 by rw [z]; rfl), if_pos (Or.inl z)]
    · rw [if_neg (nI_ne0 (by omega) (by omega))]
      by_cases y : 0 < a
      · rw [if_neg (nI_nle y (by omega)), if_pos (Or.inr y)]
      · rw [if_pos (by rw [show a = 0 by omega]; decide), if_neg (by omega)]
theorem figE (b : rb Z T m) (hp : p ≤ T) (r : RF m p false h) : (∃ v q h', numS Z T p = some (v, q) ∧ fX12_figures h = some (nI v, h') ∧ RF m q false h') ∨ (numS Z T p = none ∧ ∃ h', fX12_figures h = some (0, h') ∧ RF m p true h') := by
  have rp := r.rp b hp
  unfold fX12_figures
  rw [r.2.2, if_pos bI_f, hereE rp]
  simp only [ob_s, in48]
  unfold numS
  cases d0 : dig Z T p with
  | none =>
    right
    have : ¬ (48 ≤ hrS Z T p ∧ hrS Z T p ≤ 57) := fun q => by
      obtain ⟨k, e⟩ := dig48.mp q
      rw [d0] at e; cases e
    refine ⟨rfl, hu h 93 6 1, ?_, fun k j n => by rw [hu_ne (by omega)]; exact r.1 k j n, by rw [hu_ne (by omega)]; exact r.2.1, hu_eq⟩
    rw [if_neg this]
    simp only [if_true, fX12_figures_22, fX12_figures_27, cb_1, ob_s]
    rw [show (1000 : Nat) = 999 + 1 from rfl, fig34, if_neg (by decide), hu_eq, if_neg (by decide)]
    rfl
  | some a =>
    left
    obtain ⟨a1, a2, _⟩ := dig_some d0
    rw [if_pos (dig48.mpr ⟨a, d0⟩)]
    simp only [if10, fX12_figures_27, cb_0, ob_s]
    have same : hu h 93 6 0 = h := by
      funext k j
      unfold hu
      by_cases z : k = 93 ∧ j = 6
      · rw [if_pos z, z.1, z.2, r.2.2]; rfl
      · rw [if_neg z]
    rw [same]
    have f0 := fig_n b hp r (a := 0) (i := 0) (n := 999) (by omega) (by omega)
    rw [d0] at f0
    simp only [true_or, if_true] at f0
    have f0' : fX12_figures_34 1000 0 0 h = _ := f0
    rw [f0', show 10 * 0 + a = a by omega]
    have r1 : RF m (p + 1) false (hu h 93 4 (nI (p + 1))) := r.up
    have f1 := fig_n b (show p + 1 ≤ T by omega) r1 (a := a) (i := 1) (n := 998) (by omega) (by omega)
    rw [show (999 : Nat) = 998 + 1 from rfl]
    rw [show nI (0 + 1) = nI 1 from rfl, f1]
    cases a with
    | zero =>
      simp only
      refine ⟨0, p + 1, hu h 93 4 (nI (p + 1)), rfl, ?_, r1⟩
      cases dig Z T (p + 1) with
      | none => rfl
      | some k => simp only; rw [if_neg (by omega)]
    | succ a =>
      simp only
      cases d1 : dig Z T (p + 1) with
      | none => exact ⟨a + 1, p + 1, _, rfl, rfl, r1⟩
      | some c =>
        obtain ⟨b1, b2, _⟩ := dig_some d1
        simp only
        rw [if_pos (by omega), hu_two]
        have r2 : RF m (p + 2) false (hu h 93 4 (nI (p + 1 + 1))) := r.up
        have f2 := fig_n b (show p + 2 ≤ T by omega) r2 (a := 10 * (a + 1) + c) (i := 2) (n := 997) (by omega) (by omega)
        rw [show (998 : Nat) = 997 + 1 from rfl, show nI (1 + 1) = nI 2 from rfl, f2]
        cases d2 : dig Z T (p + 2) with
        | none => exact ⟨10 * (a + 1) + c, p + 2, _, rfl, rfl, r2⟩
        | some d =>
          obtain ⟨c1, c2, _⟩ := dig_some d2
          simp only
          rw [if_pos (by omega), hu_two]
          refine ⟨10 * (10 * (a + 1) + c) + d, p + 3, hu h 93 4 (nI (p + 2 + 1)), rfl, ?_, r.up⟩
          rw [show (997 : Nat) = 996 + 1 from rfl, fig34, if_pos (by decide)]
          rfl
theorem figX (r : RF m p true h) : Rs (RF m p true) (fX12_figures h) 0 := by
  unfold fX12_figures
  rw [r.2.2, if_neg (by decide)]
  simp only [fX12_figures_22, fX12_figures_27, cb_1, ob_s]
  rw [show (1000 : Nat) = 999 + 1 from rfl, fig34, if_neg (by decide), hu_eq, if_neg (by decide)]
  unfold fX12_figures_97
  refine Rs.ok ⟨fun k j n => by rw [hu_ne (by omega)]; exact r.1 k j n, by rw [hu_ne (by omega)]; exact r.2.1, hu_eq⟩
theorem spellsE {si : Nat} {cs : List Int32} (st : ST si cs) (hl : cs.length ≤ 20) (hc : ∀ c, c ∈ cs → ∃ k, k < 200 ∧ c = nI k) (b : rb Z T m) (hp : p ≤ T) (r : RF m p false h) : Rs (RF m (goS Z T cs p).2 (!(goS Z T cs p).1)) (fX12_spells si h) 0 := by
  unfold fX12_spells
  have goX : ∀ (k : Nat) {f i p : Nat} {h : HT}, i + k = cs.length → k < f → RF m p true h → Rs (RF m p true) (fX12_spells_2 si f (nI i) h) 0 := by
    intro k
    induction k with
    | zero =>
      intro f i p h hi hf r
      obtain ⟨f, rfl⟩ : ∃ n', f = n' + 1 := ⟨f - 1, by omega⟩
      obtain rfl : i = cs.length := by omega
      simp only [fX12_spells_2, st.1, ob_s, if_pos (Int32.le_refl _)]
      exact Rs.ok r
    | succ k ih =>
      intro f i p h hi hf r
      obtain ⟨f, rfl⟩ : ∃ n', f = n' + 1 := ⟨f - 1, by omega⟩
      obtain ⟨h1, e1, r1⟩ := mustX r (cs.getD i 0)
      simp only [fX12_spells_2, st.1, ob_s, if_neg (nI_ge (show i < cs.length by omega) (by omega)), st.2 i h (by omega), e1, nI_1]
      exact ih (by omega) (by omega) r1
  have go : ∀ (suf pre : List Int32) {f p : Nat} {h : HT}, cs = pre ++ suf → suf.length < f → p ≤ T → RF m p false h → Rs (RF m (goS Z T suf p).2 (!(goS Z T suf p).1)) (fX12_spells_2 si f (nI pre.length) h) 0 := by
    intro suf
    induction suf with
    | nil =>
      intro pre f p h he hf hp r
      obtain ⟨f, rfl⟩ : ∃ n', f = n' + 1 := ⟨f - 1, by omega⟩
      have e : cs.length = pre.length := by rw [he, List.append_nil]
      simp only [fX12_spells_2, st.1, e, ob_s, if_pos (Int32.le_refl _)]
      exact Rs.ok r
    | cons c suf ih =>
      intro pre f p h he hf hp r
      obtain ⟨f, rfl⟩ : ∃ n', f = n' + 1 := ⟨f - 1, by omega⟩
      rw [List.length_cons] at hf
      have e : cs.length = pre.length + (suf.length + 1) := by rw [he, List.length_append, List.length_cons]
      have n1 : ¬ nI cs.length ≤ nI pre.length := nI_ge (by omega) (by omega)
      have gd : cs.getD pre.length 0 = c := by
        rw [he, List.getD_eq_getElem?_getD, List.getElem?_append_right (Nat.le_refl _), Nat.sub_self]; rfl
      have ch := st.2 pre.length h (by omega)
      rw [gd] at ch
      obtain ⟨k, hk, ek⟩ := hc c (by rw [he]; simp)
      obtain ⟨h1, e1, r1⟩ := mustE b hp r hk
      rw [← ek] at e1 r1
      rw [goS]
      simp only [fX12_spells_2, st.1, ob_s, if_neg n1, ch, e1, nI_1]
      by_cases z : p < T ∧ Z p = c
      · rw [if_pos z, decide_eq_true z] at r1
        rw [if_pos z]
        have := ih (pre ++ [c]) (f := f) (by rw [he, List.append_assoc]; rfl) (by omega) (by omega) r1
        rw [List.length_append, List.length_singleton] at this
        exact this
      · rw [if_neg z, decide_eq_false z] at r1
        rw [if_neg z]
        exact goX suf.length (by omega) (by omega) r1
  exact go cs [] (f := 1000) rfl (by omega) hp r
end nu
