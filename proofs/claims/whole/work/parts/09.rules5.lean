/-! a private method of the class that is written, called on an object of a subclass; what else the walks want -/
def SCX0 (c : Nat) : Prop := c = 0
def SCX1 (c : Nat) : Prop := c = 1
def SCX2 (c : Nat) : Prop := c = 2
def SCX7 (c : Nat) : Prop := c = 7
def SCX4 (c : Nat) : Prop := c = 4 ∨ c = 2
def SCX9 (c : Nat) : Prop := c = 9 ∨ c = 1 ∨ c = 7
def SCX5 (c : Nat) : Prop := SC c
theorem SCX0_X5 {c : Nat} (h : SCX0 c) : SCX5 c := by
  have h : c = 0 := h
  subst h
  exact Or.inl rfl
theorem SCX1_X5 {c : Nat} (h : SCX1 c) : SCX5 c := by
  have h : c = 1 := h
  subst h
  exact Or.inr (Or.inl rfl)
theorem SCX2_X5 {c : Nat} (h : SCX2 c) : SCX5 c := by
  have h : c = 2 := h
  subst h
  exact Or.inr (Or.inr (Or.inl rfl))
theorem SCX7_X5 {c : Nat} (h : SCX7 c) : SCX5 c := by
  have h : c = 7 := h
  subst h
  exact Or.inr (Or.inr (Or.inr (Or.inr (Or.inr (Or.inl rfl)))))
theorem SCX1_X9 {c : Nat} (h : SCX1 c) : SCX9 c := Or.inr (Or.inl h)
theorem SCX7_X9 {c : Nat} (h : SCX7 c) : SCX9 c := Or.inr (Or.inr h)
theorem SCX2_X4 {c : Nat} (h : SCX2 c) : SCX4 c := Or.inr h
theorem SCX4_X5 {c : Nat} (h : SCX4 c) : SCX5 c := by
  rcases h with rfl | rfl
  · exact Or.inr (Or.inr (Or.inr (Or.inl rfl)))
  · exact Or.inr (Or.inr (Or.inl rfl))
theorem SCX9_X5 {c : Nat} (h : SCX9 c) : SCX5 c := by
  rcases h with rfl | rfl | rfl
  · exact Or.inr (Or.inr (Or.inr (Or.inr (Or.inr (Or.inr rfl)))))
  · exact Or.inr (Or.inl rfl)
  · exact Or.inr (Or.inr (Or.inr (Or.inr (Or.inr (Or.inl rfl)))))
def onq {α : Type} (o : Option Nat) (A : α) (B : Nat → α) : α := match o with
  | none => A
  | some t => B t
theorem onq_none {α : Type} {A : α} {B : Nat → α} {x : α} (h : onq none A B = x) : A = x := h
theorem onq_some {α : Type} {A : α} {B : Nat → α} {t : Nat} {x : α} (h : onq (some t) A B = x) : B t = x := h
/-- the first N places of a row from another -/
def hcp (h : HT) (k1 k0 N : Nat) : HT := hr h k1 (fun j => if j < N then h k0 j else h k1 j)
theorem WD_setC {g : GP} {a : Nat → Nat} {h : HT} {P : PT} {k k0 N : Nat} {e : va_E} (hk : k < 102) (he : xE g a k (fun j => if j < N then h k0 j else h k j) = e) : (WD g a h P).set k (a k, e) = WD g a (hcp h k k0 N) P := WD_setR hk he
theorem hcp_w {g : GP} {a : Nat → Nat} {h : HT} {P : PT} {k k0 N : Nat} {e : Nat × va_E} (he : (WD g a h P).set k e = WD g a (hr h k (fun j => if j < N then h k0 j else h k j)) P) : (WD g a h P).set k e = WD g a (hcp h k k0 N) P := he
def CX (own : String) (idx : Nat) (M' : MI) (nn n9 : Nat) : Prop := CallF M' M'.1 nn ∧ Cond.methodLink own idx M'.1 ∈ TT ∧ Cond.instanceMethod M'.1 ∈ TT ∧ Cond.instantiable M'.1.cls n9 ∈ TT ∧ M'.1 = ⟨"KingsBalance$Standing", "gains", "(LKingsBalance$Realm;II)Z"⟩
theorem sel_priv {C : String} {y : MethodName} {s : State} {args : Array Value} {n : Nat} {c0 : ClassId} (hC : s.vm.findClass C = some c0) (hy : y.cls ≠ "java/lang/invoke/MethodHandle" ∧ y.cls ≠ "java/lang/invoke/VarHandle")
    (hins : (Cond.instantiable y.cls n).before args s = true) (hpriv : PvF y s) (hinst : (Cond.instanceMethod y).before args s = true) : (Cond.selects C y y).before args s = true := by
  obtain ⟨c, k, hc, hk, -, hniab, -, -⟩ := Cond.instantiable_spec hins
  have hni : k.isInterface = false := (Bool.or_eq_false_iff.mp hniab).1
  obtain ⟨mk, methM, hnamed, hmethM, -, -⟩ := Cond.instanceMethod_spec hinst
  have hfound : s.methodFound? y.cls y.name y.desc = some mk := State.methodFound?_of_named hnamed hy
  have hcls : mk.cls = c := Option.some.inj ((findClass_of_methodNamed hnamed).symm.trans hc)
  have hsel : selectMethod {} s.vm c0 mk = .method mk := selectMethod_private hmethM (hpriv mk methM hnamed hmethM)
  simp only [Cond.before, Cond.holds, Cond.value, hC, hfound, hnamed, hsel, hcls, hk]
  simp; exact hni
section ZX
variable {g : GP} {M M' : MI} {J : JT} {cl sl cl' sl' pc n d0 d' mcT msT mc' ms' nn idx n9 : Nat} {ll : List (Option Value)} {st st0 : List Value} {ws : va_W} {Post' : Option Value → va_W → Prop}
theorem Z.callX {b q0 ci : Nat} {fs : List Value} {q : vw_C} {As : List Value} (hv : CX M.1.cls idx M' nn n9) (hC : Ct g d' mc' ms' M' (.ref b :: As) ws Post') (hR : RM d0 mcT msT J) (hd : d' + 1 ≤ d0) (hcl : cl + mc' = cl') (hsl : sl + ms' = sl') (h1 : cl' ≤ mcT) (h2 : sl' ≤ msT) (hn : As.length = nn)
    (he : ws[q0]? = some (b, .inr (ci, fs))) (hc : vwCl[ci]? = some q) (hcat : (st.map fun v => v.category).sum ≤ 8) (hs : st0 = As.reverse ++ .ref b :: st) (d : decode M.2.1 pc = .ok (.invokevirtual idx, 3)) (hp : pc + 3 = n)
    (kk : ∀ (r : Option Value) (ws' : va_W), Post' r ws' → Z g M J cl' sl' n ll (r.toList ++ st) ws') : Z g M J cl sl pc ll st0 ws := by
  subst hp; subst hs; subst hcl; subst hsl
  obtain ⟨hF, w1, w2, w3, w4⟩ := hv
  refine Z.run (as := (Value.ref b :: As).toArray) (fun p l e R s m args below meth c Q H locs ls hJ C hP hD hS hls hpre => ?_) kk
  subst hJ
  have hK : KF g s s.heap := C.2.2.2.2.2.2.2.2.1
  have hpr := hpre (.ref b :: As)
  have hts := C.2.2.2.2.1
  exact va_runV (own := M.1.cls) (C := q.1) ⟨C.1, C.2.1, C.2.2.1, C.2.2.2.1, C.2.2.2.2.1⟩ (hC l) ⟨cB C hF w1 hR.1 hR.2.1 hd, hts _ w2, sel_priv (hK.1.1 ci q hc).2.1 hF.2.2.1 (hts _ w3) (by rw [w4]; exact hK.2.2.2.2.2.2.2.2.2.2) (hts _ w2)⟩ ⟨hpr.1, va_recv hK.1 hP hc he, hpr.2⟩ rfl hn hls rfl (cat_ok hcat) d ⟨Nat.le_trans h1 hR.2.2.1, Nat.le_trans h2 hR.2.2.2⟩
end ZX
theorem vX5_gains : CX RX5 66 mX5_gains 3 2 := ⟨⟨TT_of 6 (by decide +kernel) (by decide +kernel), TT_of 605 (by decide +kernel) (by decide +kernel), ⟨by decide +kernel, by decide +kernel⟩, by decide +kernel, by decide +kernel⟩, TT_of 602 (by decide +kernel) (by decide +kernel), TT_of 604 (by decide +kernel) (by decide +kernel), TT_of 489 (by decide +kernel) (by decide +kernel), rfl⟩
