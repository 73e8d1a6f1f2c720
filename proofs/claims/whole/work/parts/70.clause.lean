/-! clauses -/
abbrev Ac : Type := Nat × Nat × Nat × Wld
def amS (Z : Nat → Int32) (T : Nat) (cs : List Int32) (p : Nat) : Bool × Nat × Nat := if (goS Z T cs p).1 = true then (match numS Z T (goS Z T cs p).2 with
  | none => (false, 0, (goS Z T cs p).2)
  | some (v, q) => (true, v, q)) else (false, 0, (goS Z T cs p).2)
def prS (Z : Nat → Int32) (T : Nat) (A : Ac) (p : Nat) : Bool × Nat × Ac :=
  if (amS Z T [111, 115, 116, 32] p).1 = true then (if (amS Z T [111, 115, 116, 32] p).2.2 < T ∧ Z (amS Z T [111, 115, 116, 32] p).2.2 = 32 then (if (eiS Z T (sglS Z T 5) ((amS Z T [111, 115, 116, 32] p).2.2 + 1)).1 = true then (true, (eiS Z T (sglS Z T 5) ((amS Z T [111, 115, 116, 32] p).2.2 + 1)).2.1, (A.1, A.2.1, A.2.2.1, A.2.2.2 ++ [((amS Z T [111, 115, 116, 32] p).2.1, (eiS Z T (sglS Z T 5) ((amS Z T [111, 115, 116, 32] p).2.2 + 1)).2.2)])) else (false, (eiS Z T (sglS Z T 5) ((amS Z T [111, 115, 116, 32] p).2.2 + 1)).2.1, A)) else (false, (amS Z T [111, 115, 116, 32] p).2.2, A)) else (false, (amS Z T [111, 115, 116, 32] p).2.2, A)
def clS (Z : Nat → Int32) (T : Nat) (A : Ac) (p : Nat) : Bool × Nat × Ac := match pkS Z T [99, 119, 108, 116] p with
  | none => (false, p, A)
  | some 0 => prS Z T A (p + 1)
  | some 1 => ((amS Z T [111, 114, 100, 32] (p + 1)).1, (amS Z T [111, 114, 100, 32] (p + 1)).2.2, ((amS Z T [111, 114, 100, 32] (p + 1)).2.1, A.2.1, A.2.2.1, A.2.2.2))
  | some 2 => ((amS Z T [101, 115, 115, 32] (p + 1)).1, (amS Z T [101, 115, 115, 32] (p + 1)).2.2, (A.1, (amS Z T [101, 115, 115, 32] (p + 1)).2.1, A.2.2.1, A.2.2.2))
  | some (_ + 3) => ((amS Z T [97, 107, 101, 32] (p + 1)).1, (amS Z T [97, 107, 101, 32] (p + 1)).2.2, (A.1, A.2.1, (amS Z T [97, 107, 101, 32] (p + 1)).2.1, A.2.2.2))
def AOK (A : Ac) (p : Nat) : Prop := A.1 ≤ 999 ∧ A.2.1 ≤ 999 ∧ A.2.2.1 ≤ 999 ∧ WRd A.2.2.2 ∧ (flC A.2.2.2).length ≤ p ∧ (flR A.2.2.2).length ≤ p ∧ ∀ c, c < A.2.2.2.length → (cl A.2.2.2 c).1 ≤ 999 ∧ WFl (cl A.2.2.2 c).2
section cs
variable {Z : Nat → Int32} {T p : Nat} {h m b : HT} {A : Ac}
theorem amS_ok {cs : List Int32} (hp : p ≤ T) : (amS Z T cs p).2.2 ≤ T ∧ p ≤ (amS Z T cs p).2.2 ∧ (amS Z T cs p).2.1 ≤ 999 ∧ ((amS Z T cs p).1 = true → p < (amS Z T cs p).2.2) := by
  have g := goS_le (Z := Z) cs p hp
  unfold amS
  by_cases z : (goS Z T cs p).1 = true
  · rw [if_pos z]
    cases d : numS Z T (goS Z T cs p).2 with
    | none => exact ⟨g.2, g.1, Nat.zero_le _, fun e => by cases e⟩
    | some x =>
      obtain ⟨v, q⟩ := x
      have := numS_le d
      exact ⟨this.2.2, by show p ≤ q; omega, this.1, fun _ => by show p < q; omega⟩
  · rw [if_neg z]; exact ⟨g.2, g.1, Nat.zero_le _, fun e => by cases e⟩
theorem AOK.up {q : Nat} (a : AOK A p) (h : p ≤ q) : AOK A q := ⟨a.1, a.2.1, a.2.2.1, a.2.2.2.1, Nat.le_trans a.2.2.2.2.1 h, Nat.le_trans a.2.2.2.2.2.1 h, a.2.2.2.2.2.2⟩
theorem prS_ok (a : AOK A p) (hp : p + 1 ≤ T) (e : (prS Z T A (p + 1)).1 = true) : AOK (prS Z T A (p + 1)).2.2 (prS Z T A (p + 1)).2.1 ∧ p < (prS Z T A (p + 1)).2.1 ∧ (prS Z T A (p + 1)).2.1 ≤ T ∧ (prS Z T A (p + 1)).2.2.2.2.2.length ≤ A.2.2.2.length + 1 := by
  obtain ⟨m1, m2, m3, m4⟩ := amS_ok (Z := Z) (cs := [111, 115, 116, 32]) hp
  unfold prS at e ⊢
  by_cases z1 : (amS Z T [111, 115, 116, 32] (p + 1)).1 = true
  · rw [if_pos z1] at e ⊢
    generalize amS Z T [111, 115, 116, 32] (p + 1) = am at *
    by_cases z2 : am.2.2 < T ∧ Z am.2.2 = 32
    · rw [if_pos z2] at e ⊢
      by_cases z3 : (eiS Z T (sglS Z T 5) (am.2.2 + 1)).1 = true
      · rw [if_pos z3]
        have hL : LPz T (eiS Z T (sglS Z T 5)) := jn_LP (jn_LP (sgl_LP Z T 5))
        obtain ⟨l1, l2, l3⟩ := hL (am.2.2 + 1) (by omega) z3
        have wf := top_WF z3
        generalize eiS Z T (sglS Z T 5) (am.2.2 + 1) = r at *
        obtain ⟨a1, a2, a3, a4, a5, a6, a7⟩ := a
        refine ⟨⟨a1, a2, a3, a4.add _, ?_, ?_, fun c hc => ?_⟩, by show p < r.2.1; omega, l3, ?_⟩
        · show (flC (A.2.2.2 ++ [(am.2.1, r.2.2)])).length ≤ r.2.1
          rw [flC_s, List.length_append]
          show (flC A.2.2.2).length + r.2.2.length ≤ r.2.1
          omega
        · show (flR (A.2.2.2 ++ [(am.2.1, r.2.2)])).length ≤ r.2.1
          rw [flR_s, List.length_append, List.length_append, List.length_map, List.length_singleton]
          show (flR A.2.2.2).length + r.2.2.length + 1 ≤ r.2.1
          omega
        · have hc : c < (A.2.2.2 ++ [(am.2.1, r.2.2)]).length := hc
          rw [List.length_append, List.length_singleton] at hc
          show (cl (A.2.2.2 ++ [(am.2.1, r.2.2)]) c).1 ≤ 999 ∧ WFl (cl (A.2.2.2 ++ [(am.2.1, r.2.2)]) c).2
          by_cases z : c = A.2.2.2.length
          · subst z; rw [cl_last]; exact ⟨m3, wf⟩
          · rw [cl_app (by omega)]; exact a7 c (by omega)
        · show (A.2.2.2 ++ [(am.2.1, r.2.2)]).length ≤ _
          rw [List.length_append, List.length_singleton]
          exact Nat.le_refl _
      · rw [if_neg z3] at e; cases e
    · rw [if_neg z2] at e; cases e
  · rw [if_neg z1] at e; cases e
theorem clS_ok (a : AOK A p) (hp : p ≤ T) (e : (clS Z T A p).1 = true) : AOK (clS Z T A p).2.2 (clS Z T A p).2.1 ∧ p < (clS Z T A p).2.1 ∧ (clS Z T A p).2.1 ≤ T ∧ (clS Z T A p).2.2.2.2.2.length ≤ A.2.2.2.length + 1 := by
  unfold clS at e ⊢
  cases k : pkS Z T [99, 119, 108, 116] p with
  | none => rw [k] at e; cases e
  | some i =>
    have hpT := (pkz_lt k).1
    rw [k] at e
    match i, e with
    | 0, e => exact prS_ok a (by omega) e
    | 1, e =>
      obtain ⟨m1, m2, m3, m4⟩ := amS_ok (Z := Z) (cs := [111, 114, 100, 32]) (show p + 1 ≤ T by omega)
      obtain ⟨b1, b2, b3, b4⟩ := a.up (show p ≤ (amS Z T [111, 114, 100, 32] (p + 1)).2.2 by omega)
      exact ⟨⟨m3, b2, b3, b4⟩, by show p < (amS Z T [111, 114, 100, 32] (p + 1)).2.2; omega, m1, Nat.le_succ _⟩
    | 2, e =>
      obtain ⟨m1, m2, m3, m4⟩ := amS_ok (Z := Z) (cs := [101, 115, 115, 32]) (show p + 1 ≤ T by omega)
      obtain ⟨b1, b2, b3, b4⟩ := a.up (show p ≤ (amS Z T [101, 115, 115, 32] (p + 1)).2.2 by omega)
      exact ⟨⟨b1, m3, b3, b4⟩, by show p < (amS Z T [101, 115, 115, 32] (p + 1)).2.2; omega, m1, Nat.le_succ _⟩
    | i + 3, e =>
      obtain ⟨m1, m2, m3, m4⟩ := amS_ok (Z := Z) (cs := [97, 107, 101, 32]) (show p + 1 ≤ T by omega)
      obtain ⟨b1, b2, b3, b4⟩ := a.up (show p ≤ (amS Z T [97, 107, 101, 32] (p + 1)).2.2 by omega)
      exact ⟨⟨b1, b2, m3, b4⟩, by show p < (amS Z T [97, 107, 101, 32] (p + 1)).2.2; omega, m1, Nat.le_succ _⟩
def WsF (b : HT) (p : Nat) (h : HT) : Prop := (∀ k j, ¬ (81 ≤ k ∧ k ≤ 86) → ¬ (k = 21 ∧ j = 2) → h k j = b k j) ∧ h 21 2 = nI p
def Wst (b : HT) (A : Ac) (p : Nat) (h : HT) : Prop := WsF b p h ∧ h 81 0 = nI A.1 ∧ h 81 1 = nI A.2.1 ∧ h 81 2 = nI A.2.2.1 ∧ h 81 3 = nI A.2.2.2.length ∧ h 81 4 = nI (flC A.2.2.2).length ∧ (∀ i, i < (flC A.2.2.2).length → h 84 i = nI (sp (flC A.2.2.2) i).1 ∧ h 85 i = nI (sp (flC A.2.2.2) i).2.1 ∧ h 86 i = nI (sp (flC A.2.2.2) i).2.2) ∧ ∀ c, c < A.2.2.2.length → h 82 c = nI (cl A.2.2.2 c).1 ∧ h 83 c = nI (ln A.2.2.2 (c + 1))
def CLz (b : HT) (r : Bool × Nat × Ac) (h : HT) : Prop := (r.1 = true → Wst b r.2.2 r.2.1 h) ∧ (r.1 = false → WsF b r.2.1 h)
theorem CLz.t {q : Nat} {B : Ac} (w : Wst b B q h) : CLz b (true, q, B) h := ⟨fun _ => w, fun e => by cases e⟩
theorem CLz.f {q : Nat} {B : Ac} (w : WsF b q h) : CLz b (false, q, B) h := ⟨fun e => (by cases e), fun _ => w⟩
theorem WsF.tbw (w : WsF b p h) (t : tb Z T b) : tb Z T h := ⟨t.1, by rw [w.1 21 1 (by omega) (by omega)]; exact t.2.1, fun i hi => by rw [w.1 22 i (by omega) (by omega)]; exact t.2.2 i hi⟩
theorem WsF.tp (w : WsF b p h) (t : tb Z T b) (hp : p ≤ T) : TP Z T p h := ⟨t.1, hp, (w.tbw t).2.1, w.2, (w.tbw t).2.2⟩
theorem WsF.to {q : Nat} {h' : HT} (w : WsF b p h) (f : ∀ k j, ¬ (k = 21 ∧ j = 2) → h' k j = h k j) (e : h' 21 2 = nI q) : WsF b q h' := ⟨fun k j n1 n2 => by rw [f k j n2]; exact w.1 k j n1 n2, e⟩
theorem Wst.to {q : Nat} {h' : HT} (w : Wst b A p h) (f : ∀ k j, ¬ (k = 21 ∧ j = 2) → h' k j = h k j) (e : h' 21 2 = nI q) : Wst b A q h' := ⟨w.1.to f e, by rw [f 81 0 (by omega)]; exact w.2.1, by rw [f 81 1 (by omega)]; exact w.2.2.1, by rw [f 81 2 (by omega)]; exact w.2.2.2.1, by rw [f 81 3 (by omega)]; exact w.2.2.2.2.1, by rw [f 81 4 (by omega)]; exact w.2.2.2.2.2.1, fun i hi => by rw [f 84 i (by omega), f 85 i (by omega), f 86 i (by omega)]; exact w.2.2.2.2.2.2.1 i hi, fun c hc => by rw [f 82 c (by omega), f 83 c (by omega)]; exact w.2.2.2.2.2.2.2 c hc⟩
theorem amountE {si : Nat} {cs : List Int32} (st : ST si cs) (hl : cs.length ≤ 20) (t : TP Z T p h) : ∃ h', (∀ k j, ¬ (k = 21 ∧ j = 2) → h' k j = h k j) ∧ h' 21 2 = nI (amS Z T cs p).2.2 ∧ fX10_amount si h = some (if (amS Z T cs p).1 = true then nI (amS Z T cs p).2.1 else -1, h') := by
  obtain ⟨h1, f1, f2, e1⟩ := goesE st hl t
  have g := goS_le (Z := Z) cs p t.2.1
  have t1 : TP Z T (goS Z T cs p).2 h1 := ⟨t.1, g.2, by rw [f1 21 1 (by omega)]; exact t.2.2.1, f2, fun i hi => by rw [f1 22 i (by omega)]; exact t.2.2.2.2 i hi⟩
  unfold amS
  simp only [fX10_amount, e1, ob_s, fX10_amount_16]
  cases y : (goS Z T cs p).1
  · simp only [if_pos bI_f, Bool.false_eq_true, if_false]
    exact ⟨h1, f1, f2, rfl⟩
  · simp only [ifbt, if_true, numE t1]
    cases d : numS Z T (goS Z T cs p).2 with
    | none => simp only [ob_s, Bool.false_eq_true, if_false]; exact ⟨h1, f1, f2, rfl⟩
    | some x =>
      obtain ⟨v, q⟩ := x
      simp only [ob_s, if_true]
      exact ⟨hu h1 21 2 (nI q), fun k j n => by rw [hu_ne n]; exact f1 k j n, hu_eq, rfl⟩
theorem pricedC (t : tb Z T b) (w : Wst b A p h) (hp : p ≤ T) (a : AOK A p) (hL : A.2.2.2.length < 10) : Rs (CLz b (prS Z T A p)) (fX10_priced h) (bI (prS Z T A p).1) := by
  have hT := t.1
  obtain ⟨m1, m2, m3, m4⟩ := amS_ok (Z := Z) (cs := [111, 115, 116, 32]) hp
  obtain ⟨h1, f1, f2, e1⟩ := amountE st_1 (by decide) (w.1.tp t hp)
  have bad : ∀ {q : Nat} {g : HT}, WsF b q g → Rs (CLz b (false, q, A)) (some (0, g)) (bI false) := fun hq => Rs.ok (CLz.f hq)
  unfold prS
  simp only [fX10_priced, e1, ob_s, fX10_priced_39]
  generalize hA : amS Z T [111, 115, 116, 32] p = am at *
  cases y : am.1
  · simp only [Bool.false_eq_true, if_false, if_pos (show (-1 : Int32) < 0 by decide)]
    exact bad (w.1.to f1 f2)
  · simp only [if_true, if_neg (nI_pos (show am.2.1 < 2 ^ 31 by omega))]
    have w1 : Wst b A am.2.2 h1 := w.to f1 f2
    have e2 : fX6_pick 3 h1 = _ := pickE st_3 (by decide) (w1.1.tp t m1)
    rw [e2]
    cases k : pkS Z T [32] am.2.2 with
    | none =>
      have no : ¬ (am.2.2 < T ∧ Z am.2.2 = 32) := pkz_no (k := 0) k (by decide)
      simp only [ob_s, if_pos (show (-1 : Int32) < 0 by decide), if_neg no]
      exact bad w1.1
    | some i =>
      obtain ⟨k1, k2, k3⟩ := pkz_lt k
      have k2 : i < 1 := k2
      obtain rfl : i = 0 := by omega
      have k3 : (32 : Int32) = Z am.2.2 := k3
      simp only [ob_s, if_neg (show ¬ nI 0 < 0 by decide), if_pos (show am.2.2 < T ∧ Z am.2.2 = 32 from ⟨k1, k3.symm⟩)]
      have w2 : Wst b A (am.2.2 + 1) (hu h1 21 2 (nI (am.2.2 + 1))) := w1.to (fun k j n => hu_ne n) hu_eq
      generalize hu h1 21 2 (nI (am.2.2 + 1)) = g at *
      have cp : CPz g (am.2.2 + 1) (flC A.2.2.2) g := ⟨⟨fun _ _ _ => rfl, w2.1.2⟩, w2.2.2.2.2.2.1, w2.2.2.2.2.2.2.1⟩
      have sc := eithC (w2.1.tbw t) (sgl_LP Z T 5) (singleC (w2.1.tbw t) 5 8 0 rfl (by omega))
      obtain ⟨h3, e3, r3⟩ := sc (flC A.2.2.2) (am.2.2 + 1) g cp (by omega) (by have := a.2.2.2.2.1; omega)
      have e3' : fX10_either (fX10_single 8) 0 g = _ := e3
      simp only [e3', ob_s]
      have fr : ∀ {q : Nat}, CFz g q h3 → WsF b q h3 := fun c => ⟨fun k j n1 n2 => by rw [c.1 k j (by omega)]; exact w2.1.1 k j n1 n2, c.2⟩
      generalize hR : eiS Z T (sglS Z T 5) (am.2.2 + 1) = r at *
      cases y2 : r.1
      · simp only [if_pos bI_f, Bool.false_eq_true, if_false]
        exact bad (fr (r3.2 y2))
      · simp only [ifbt, if_true]
        obtain ⟨c1, c2, c3⟩ := r3.1 y2
        have v3 : h3 81 3 = nI A.2.2.2.length := by rw [c1.1 81 3 (by omega)]; exact w2.2.2.2.2.1
        have l10 : nI A.2.2.2.length < 10 := nI_lt (b := 10) hL (by omega)
        have k10 : ck 10 (nI A.2.2.2.length) = some A.2.2.2.length := ckI rfl hL
        have f3 : ∀ u : Int32, hu h3 82 A.2.2.2.length u 81 3 = nI A.2.2.2.length := fun u => by rw [hu_ne (by omega)]; exact v3
        have f4 : ∀ u : Int32, hu h3 82 A.2.2.2.length u 81 4 = nI (flC A.2.2.2 ++ r.2.2).length := fun u => by rw [hu_ne (by omega)]; exact c2
        have f5 : ∀ u v : Int32, hu (hu h3 82 A.2.2.2.length u) 83 A.2.2.2.length v 81 3 = nI A.2.2.2.length := fun u v => by rw [hu_ne (by omega)]; exact f3 u
        simp only [v3, if_pos l10, k10, ob_s, f3, f4, f5, nI_1]
        refine Rs.ok (CLz.t ?_)
        generalize hG : hu (hu (hu h3 82 A.2.2.2.length (nI am.2.1)) 83 A.2.2.2.length (nI (flC A.2.2.2 ++ r.2.2).length)) 81 3 (nI (A.2.2.2.length + 1)) = G
        have Gn : ∀ k j, ¬ (k = 82 ∨ k = 83 ∨ (k = 81 ∧ j = 3)) → G k j = h3 k j := fun k j n => by rw [← hG, hu_ne (by omega), hu_ne (by omega), hu_ne (by omega)]
        have eF : flC (A.2.2.2 ++ [(am.2.1, r.2.2)]) = flC A.2.2.2 ++ r.2.2 := flC_s _ _
        have eL : (A.2.2.2 ++ [(am.2.1, r.2.2)]).length = A.2.2.2.length + 1 := by rw [List.length_append, List.length_singleton]
        refine ⟨⟨fun k j n1 n2 => by rw [Gn k j (by omega)]; exact (fr c1).1 k j n1 n2, by rw [Gn 21 2 (by omega)]; exact c1.2⟩, ?_, ?_, ?_, ?_, ?_, ?_, ?_⟩
        · rw [Gn 81 0 (by omega), c1.1 81 0 (by omega)]; exact w2.2.1
        · rw [Gn 81 1 (by omega), c1.1 81 1 (by omega)]; exact w2.2.2.1
        · rw [Gn 81 2 (by omega), c1.1 81 2 (by omega)]; exact w2.2.2.2.1
        · show G 81 3 = nI (A.2.2.2 ++ [(am.2.1, r.2.2)]).length
          rw [eL, ← hG, hu_eq]
        · show G 81 4 = nI (flC (A.2.2.2 ++ [(am.2.1, r.2.2)])).length
          rw [eF, Gn 81 4 (by omega)]; exact c2
        · show ∀ i, i < (flC (A.2.2.2 ++ [(am.2.1, r.2.2)])).length → _
          rw [eF]
          intro i hi
          rw [Gn 84 i (by omega), Gn 85 i (by omega), Gn 86 i (by omega)]
          exact c3 i hi
        · intro c hc
          have hc : c < (A.2.2.2 ++ [(am.2.1, r.2.2)]).length := hc
          rw [eL] at hc
          show G 82 c = nI (cl (A.2.2.2 ++ [(am.2.1, r.2.2)]) c).1 ∧ G 83 c = nI (ln (A.2.2.2 ++ [(am.2.1, r.2.2)]) (c + 1))
          by_cases z : c = A.2.2.2.length
          · subst z
            have e1 : (flC A.2.2.2 ++ r.2.2).length = ln A.2.2.2 A.2.2.2.length + r.2.2.length := by rw [List.length_append, a.2.2.2.1.1]
            rw [cl_last, ln_last, ← hG, hu_ne (by omega), hu_ne (by omega), hu_eq, hu_ne (by omega), hu_eq, e1]
            exact ⟨rfl, rfl⟩
          · have o1 := w2.2.2.2.2.2.2.2 c (by omega)
            rw [cl_app (by omega), ln_app (by omega), ← hG, hu_ne (by omega), hu_ne (by omega), hu_ne (by omega), hu_ne (by omega), hu_ne (by omega), hu_ne (by omega), c1.1 82 c (by omega), c1.1 83 c (by omega)]
            exact o1
theorem clauseC (t : tb Z T b) (w : Wst b A p h) (hp : p ≤ T) (a : AOK A p) (hL : A.2.2.2.length < 10) : Rs (CLz b (clS Z T A p)) (fX10_clause h) (bI (clS Z T A p).1) := by
  have e1 : fX6_pick 0 h = _ := pickE st_0 (by decide) (w.1.tp t hp)
  unfold clS
  simp only [fX10_clause, e1]
  cases k : pkS Z T [99, 119, 108, 116] p with
  | none =>
    simp only [ob_s]
    rw [if_neg (by decide), if_neg (by decide), if_neg (by decide), if_neg (by decide)]
    exact Rs.ok (CLz.f w.1)
  | some i =>
    obtain ⟨k1, k2, k3⟩ := pkz_lt k
    have k2 : i < 4 := k2
    have w1 : Wst b A (p + 1) (hu h 21 2 (nI (p + 1))) := w.to (fun k j n => hu_ne n) hu_eq
    have tp1 := w1.1.tp t (show p + 1 ≤ T by omega)
    generalize hu h 21 2 (nI (p + 1)) = g at *
    have i4 : i = 0 ∨ i = 1 ∨ i = 2 ∨ i = 3 := by omega
    rcases i4 with rfl | rfl | rfl | rfl
    · obtain ⟨h2, e2, r2⟩ := pricedC t w1 (show p + 1 ≤ T by omega) (a.up (by omega)) hL
      simp only [ob_s]
      rw [if_pos (show nI 0 = 0 from rfl), e2]
      simp only [ob_s, bI_cb]
      exact Rs.ok r2
    · obtain ⟨m1, m2, m3, m4⟩ := amS_ok (Z := Z) (cs := [111, 114, 100, 32]) (show p + 1 ≤ T by omega)
      obtain ⟨h2, f1, f2, e2⟩ := amountE st_10 (by decide) tp1
      have w2 : Wst b A (amS Z T [111, 114, 100, 32] (p + 1)).2.2 h2 := w1.to f1 f2
      simp only [ob_s]
      rw [if_neg (show ¬ nI 1 = 0 by decide), if_pos (show nI 1 = 1 from rfl), e2]
      simp only [ob_s, fX10_clause_64, cb_0, cb_1]
      generalize amS Z T [111, 114, 100, 32] (p + 1) = am at *
      obtain ⟨u1, u2, u3, u4, u5, u6, u7, u8⟩ := w2
      cases y : am.1
      · simp only [Bool.false_eq_true, if_false, if_pos (show (-1 : Int32) < 0 by decide)]
        exact Rs.ok (CLz.f ⟨fun k j n1 n2 => by rw [hu_ne (by omega)]; exact u1.1 k j n1 n2, by rw [hu_ne (by omega)]; exact u1.2⟩)
      · simp only [if_true, if_neg (nI_pos (show am.2.1 < 2 ^ 31 by omega))]
        exact Rs.ok (CLz.t ⟨⟨fun k j n1 n2 => by rw [hu_ne (by omega)]; exact u1.1 k j n1 n2, by rw [hu_ne (by omega)]; exact u1.2⟩, hu_eq, by rw [hu_ne (by omega)]; exact u3, by rw [hu_ne (by omega)]; exact u4, by rw [hu_ne (by omega)]; exact u5, by rw [hu_ne (by omega)]; exact u6, fun i hi => by rw [hu_ne (by omega), hu_ne (by omega), hu_ne (by omega)]; exact u7 i hi, fun c hc => by rw [hu_ne (by omega), hu_ne (by omega)]; exact u8 c hc⟩)
    · obtain ⟨m1, m2, m3, m4⟩ := amS_ok (Z := Z) (cs := [101, 115, 115, 32]) (show p + 1 ≤ T by omega)
      obtain ⟨h2, f1, f2, e2⟩ := amountE st_11 (by decide) tp1
      have w2 : Wst b A (amS Z T [101, 115, 115, 32] (p + 1)).2.2 h2 := w1.to f1 f2
      simp only [ob_s]
      rw [if_neg (show ¬ nI 2 = 0 by decide), if_neg (show ¬ nI 2 = 1 by decide), if_pos (show nI 2 = 2 from rfl), e2]
      simp only [ob_s, fX10_clause_87, cb_0, cb_1]
      generalize amS Z T [101, 115, 115, 32] (p + 1) = am at *
      obtain ⟨u1, u2, u3, u4, u5, u6, u7, u8⟩ := w2
      cases y : am.1
      · simp only [Bool.false_eq_true, if_false, if_pos (show (-1 : Int32) < 0 by decide)]
        exact Rs.ok (CLz.f ⟨fun k j n1 n2 => by rw [hu_ne (by omega)]; exact u1.1 k j n1 n2, by rw [hu_ne (by omega)]; exact u1.2⟩)
      · simp only [if_true, if_neg (nI_pos (show am.2.1 < 2 ^ 31 by omega))]
        exact Rs.ok (CLz.t ⟨⟨fun k j n1 n2 => by rw [hu_ne (by omega)]; exact u1.1 k j n1 n2, by rw [hu_ne (by omega)]; exact u1.2⟩, by rw [hu_ne (by omega)]; exact u2, hu_eq, by rw [hu_ne (by omega)]; exact u4, by rw [hu_ne (by omega)]; exact u5, by rw [hu_ne (by omega)]; exact u6, fun i hi => by rw [hu_ne (by omega), hu_ne (by omega), hu_ne (by omega)]; exact u7 i hi, fun c hc => by rw [hu_ne (by omega), hu_ne (by omega)]; exact u8 c hc⟩)
    · obtain ⟨m1, m2, m3, m4⟩ := amS_ok (Z := Z) (cs := [97, 107, 101, 32]) (show p + 1 ≤ T by omega)
      obtain ⟨h2, f1, f2, e2⟩ := amountE st_12 (by decide) tp1
      have w2 : Wst b A (amS Z T [97, 107, 101, 32] (p + 1)).2.2 h2 := w1.to f1 f2
      simp only [ob_s]
      rw [if_neg (show ¬ nI 3 = 0 by decide), if_neg (show ¬ nI 3 = 1 by decide), if_neg (show ¬ nI 3 = 2 by decide), if_pos (show nI 3 = 3 from rfl), e2]
      simp only [ob_s, fX10_clause_110, cb_0, cb_1]
      generalize amS Z T [97, 107, 101, 32] (p + 1) = am at *
      obtain ⟨u1, u2, u3, u4, u5, u6, u7, u8⟩ := w2
      cases y : am.1
      · simp only [Bool.false_eq_true, if_false, if_pos (show (-1 : Int32) < 0 by decide)]
        exact Rs.ok (CLz.f ⟨fun k j n1 n2 => by rw [hu_ne (by omega)]; exact u1.1 k j n1 n2, by rw [hu_ne (by omega)]; exact u1.2⟩)
      · simp only [if_true, if_neg (nI_pos (show am.2.1 < 2 ^ 31 by omega))]
        exact Rs.ok (CLz.t ⟨⟨fun k j n1 n2 => by rw [hu_ne (by omega)]; exact u1.1 k j n1 n2, by rw [hu_ne (by omega)]; exact u1.2⟩, by rw [hu_ne (by omega)]; exact u2, by rw [hu_ne (by omega)]; exact u3, hu_eq, by rw [hu_ne (by omega)]; exact u5, by rw [hu_ne (by omega)]; exact u6, fun i hi => by rw [hu_ne (by omega), hu_ne (by omega), hu_ne (by omega)]; exact u7 i hi, fun c hc => by rw [hu_ne (by omega), hu_ne (by omega)]; exact u8 c hc⟩)
end cs
