/-! calls -/
def CallF (M' : MI) (x : MethodName) (nn : Nat) : Prop := Cond.initialized M'.1.cls ∈ TT ∧ Cond.code M'.1 M'.2.1 M'.2.2.1 M'.2.2.2 ∈ TT ∧ (M'.1.cls ≠ "java/lang/invoke/MethodHandle" ∧ M'.1.cls ≠ "java/lang/invoke/VarHandle") ∧ (parseMethodDescriptor x.desc).map (fun d => d.parameters.length) = some nn ∧ M'.2.2.1 ≤ 21
def CV (own : String) (idx : Nat) (M' : MI) (nn : Nat) : Prop := CallF M' M'.1 nn ∧ Cond.methodLink own idx M'.1 ∈ TT ∧ Cond.instanceMethod M'.1 ∈ TT ∧ Cond.selects M'.1.cls M'.1 M'.1 ∈ TT
def CS (own : String) (idx : Nat) (M' : MI) (nn : Nat) : Prop := CallF M' M'.1 nn ∧ Cond.methodLink own idx M'.1 ∈ TT ∧ Cond.static M'.1 ∈ TT
def CI (own : String) (idx : Nat) (M' : MI) (nn : Nat) : Prop := CallF M' M'.1 nn ∧ Cond.methodLink own idx M'.1 ∈ TT ∧ Cond.instanceMethod M'.1 ∈ TT ∧ M'.1.name = "<init>" ∧ M'.2.2.2 = none
def CN (own : String) (idx : Nat) (M' : MI) (nn : Nat) : Prop := CallF M' M'.1 nn ∧ (own, idx, M'.1) ∈ nestTab ∧ Cond.instanceMethod M'.1 ∈ TT ∧ M'.1.name = "<init>" ∧ M'.2.2.2 = none
def CU (own : String) (idx : Nat) (C : String) (M' : MI) (nn : Nat) : Prop := ∃ (owner : String) (x : MethodName) (b0 : ByteArray) (m0 : Nat) (r0 : Option FieldType), CallF M' x nn ∧ Cond.methodLink own idx x ∈ TT ∧ Cond.sameMethod x.cls owner x.name x.desc ∈ TT ∧ Cond.instanceMethod ⟨owner, x.name, x.desc⟩ ∈ TT ∧ Cond.code ⟨owner, x.name, x.desc⟩ b0 m0 r0 ∈ TT ∧ Cond.selects C x M'.1 ∈ TT ∧ Cond.instanceMethod M'.1 ∈ TT ∧ (owner ≠ "java/lang/invoke/MethodHandle" ∧ owner ≠ "java/lang/invoke/VarHandle")
def CP (own : String) (idx : Nat) (M' : MI) (nn : Nat) : Prop := CallF M' M'.1 nn ∧ Cond.methodLink own idx M'.1 ∈ TT ∧ Cond.sameMethod M'.1.cls M'.1.cls M'.1.name M'.1.desc ∈ TT ∧ Cond.superclass own M'.1.cls ∈ TT ∧ Cond.instanceMethod M'.1 ∈ TT ∧ M'.1.name ≠ "<init>"
theorem Wds_good {M' : MI} (h : Cond.code M'.1 M'.2.1 M'.2.2.1 M'.2.2.2 ∈ TT) : GoodIn TT (Wds M') := fun w hw => by
  rcases List.mem_cons.mp hw with rfl | hw
  · exact TT_good _ h
  · exact TT_good _ hw
section ZC
variable {g : GP} {M M' : MI} {J : JT} {cl sl cl' sl' pc n d0 d' mcT msT mc' ms' nn idx : Nat} {ll : List (Option Value)} {st st0 : List Value} {ws : va_W} {Post' : Option Value → va_W → Prop}
theorem rm_ok {R : Room} {nL : Nat} (h1 : d0 ≤ R.frames) (h2 : 40 * d0 ≤ R.locals) (hd : d' + 1 ≤ d0) (hn : nL ≤ 21) : (rmD d' mc' ms').frames + 1 ≤ R.frames ∧ 8 + (nL + 11) + (rmD d' mc' ms').locals ≤ R.locals := by
  show d' + 1 ≤ R.frames ∧ 8 + (nL + 11) + 40 * d' ≤ R.locals
  omega
theorem cat_ok {m : MethodId} {pc : Nat} {ls : Array Slot} {st0 st : List Value} (h : (st.map fun v => v.category).sum ≤ 8) : 2 * (F0 m pc ls st0).monitorRoom + (st.map fun v => v.category).sum ≤ 8 := lv_room h
theorem cB {p : Program} {s : State} {m : MethodId} {args : Array Value} {meth : Method} {c : Code} {R : Room} (C : Cx g M p s m args meth c) (hF : CallF M' M'.1 nn) (hl : Cond.methodLink M.1.cls idx M'.1 ∈ TT) (h1 : d0 ≤ R.frames) (h2 : 40 * d0 ≤ R.locals) (hd : d' + 1 ≤ d0) :
    CallB R s args M.1.cls idx M'.1 M'.2.1 M'.2.2.1 M'.2.2.2 (Wds M') (rmD d' mc' ms') mc' ms' nn :=
  callB_of nn C.2.2.2.2.1 (Wds_good hF.2.1) rfl rfl rfl (C.2.2.2.2.1 _ hF.1) (C.2.2.2.2.1 _ hl) ⟨hF.2.2.1.1, hF.2.2.1.2, hF.2.2.2.1⟩ (rm_ok h1 h2 hd hF.2.2.2.2)
theorem Z.callV {b q0 ci : Nat} {fs : List Value} {q : vw_C} {As : List Value} (hv : CV M.1.cls idx M' nn) (hC : Ct g d' mc' ms' M' (.ref b :: As) ws Post') (hR : RM d0 mcT msT J) (hd : d' + 1 ≤ d0) (hcl : cl + mc' = cl') (hsl : sl + ms' = sl') (h1 : cl' ≤ mcT) (h2 : sl' ≤ msT) (hn : As.length = nn)
    (he : ws[q0]? = some (b, .inr (ci, fs))) (hc : vwCl[ci]? = some q) (hq : q.1 = M'.1.cls) (hcat : (st.map fun v => v.category).sum ≤ 8) (hs : st0 = As.reverse ++ .ref b :: st) (d : decode M.2.1 pc = .ok (.invokevirtual idx, 3)) (hp : pc + 3 = n)
    (kk : ∀ (r : Option Value) (ws' : va_W), Post' r ws' → Z g M J cl' sl' n ll (r.toList ++ st) ws') : Z g M J cl sl pc ll st0 ws := by
  subst hp; subst hs; subst hcl; subst hsl
  obtain ⟨hF, w1, w2, w3⟩ := hv
  refine Z.run (as := (Value.ref b :: As).toArray) (fun p l e R s m args below meth c Q H locs ls hJ C hP hD hS hls hpre => ?_) kk
  subst hJ
  have hK : KF g s s.heap := C.2.2.2.2.2.2.2.2.1
  have hpr := hpre (.ref b :: As)
  refine va_runV (own := M.1.cls) (C := M'.1.cls) ⟨C.1, C.2.1, C.2.2.1, C.2.2.2.1, C.2.2.2.2.1⟩ (hC l) ⟨cB C hF w1 hR.1 hR.2.1 hd, C.2.2.2.2.1 _ w2, C.2.2.2.2.1 _ w3⟩ ⟨hpr.1, ?_, hpr.2⟩ rfl hn hls rfl (cat_ok hcat) d ⟨Nat.le_trans h1 hR.2.2.1, Nat.le_trans h2 hR.2.2.2⟩
  rw [← hq]
  exact va_recv hK.1 hP hc he
/-- on a receiver that is no cell of ours: a String -/
theorem Z.callK {b i : Nat} {As : List Value} (hv : CV M.1.cls idx M' nn) (hC : Ct g d' mc' ms' M' (.ref b :: As) ws Post') (hR : RM d0 mcT msT J) (hd : d' + 1 ≤ d0) (hcl : cl + mc' = cl') (hsl : sl + ms' = sl') (h1 : cl' ≤ mcT) (h2 : sl' ≤ msT) (hn : As.length = nn)
    (hi : i < 18) (hb : b = gK g i) (hq : M'.1.cls = "java/lang/String") (hcat : (st.map fun v => v.category).sum ≤ 8) (hs : st0 = As.reverse ++ .ref b :: st) (d : decode M.2.1 pc = .ok (.invokevirtual idx, 3)) (hp : pc + 3 = n)
    (kk : ∀ (r : Option Value) (ws' : va_W), Post' r ws' → Z g M J cl' sl' n ll (r.toList ++ st) ws') : Z g M J cl sl pc ll st0 ws := by
  subst hp; subst hs; subst hcl; subst hsl; subst hb
  obtain ⟨hF, w1, w2, w3⟩ := hv
  refine Z.run (as := (Value.ref (gK g i) :: As).toArray) (fun p l e R s m args below meth c Q H locs ls hJ C hP hD hS hls hpre => ?_) kk
  subst hJ
  have hK : KF g s s.heap := C.2.2.2.2.2.2.2.2.1
  have hpr := hpre (.ref (gK g i) :: As)
  refine va_runV (own := M.1.cls) (C := M'.1.cls) ⟨C.1, C.2.1, C.2.2.1, C.2.2.2.1, C.2.2.2.2.1⟩ (hC l) ⟨cB C hF w1 hR.1 hR.2.1 hd, C.2.2.2.2.1 _ w2, C.2.2.2.2.1 _ w3⟩ ⟨hpr.1, ?_, hpr.2⟩ rfl hn hls rfl (cat_ok hcat) d ⟨Nat.le_trans h1 hR.2.2.1, Nat.le_trans h2 hR.2.2.2⟩
  rw [hq]
  exact vk_recv hK.2.1 hi hS
theorem Z.callS {As : List Value} (hv : CS M.1.cls idx M' nn) (hC : Ct g d' mc' ms' M' As ws Post') (hR : RM d0 mcT msT J) (hd : d' + 1 ≤ d0) (hcl : cl + mc' = cl') (hsl : sl + ms' = sl') (h1 : cl' ≤ mcT) (h2 : sl' ≤ msT) (hn : As.length = nn)
    (hcat : (st.map fun v => v.category).sum ≤ 8) (hs : st0 = As.reverse ++ st) (d : decode M.2.1 pc = .ok (.invokestatic idx, 3)) (hp : pc + 3 = n)
    (kk : ∀ (r : Option Value) (ws' : va_W), Post' r ws' → Z g M J cl' sl' n ll (r.toList ++ st) ws') : Z g M J cl sl pc ll st0 ws := by
  subst hp; subst hs; subst hcl; subst hsl
  obtain ⟨hF, w1, w2⟩ := hv
  refine Z.run (as := As.toArray) (fun p l e R s m args below meth c Q H locs ls hJ C hP hD hS hls hpre => ?_) kk
  subst hJ
  exact va_runS (own := M.1.cls) ⟨C.1, C.2.1, C.2.2.1, C.2.2.2.1, C.2.2.2.2.1⟩ (hC l) ⟨cB C hF w1 hR.1 hR.2.1 hd, C.2.2.2.2.1 _ w2⟩ (hpre As) rfl hn hls rfl (cat_ok hcat) d ⟨Nat.le_trans h1 hR.2.2.1, Nat.le_trans h2 hR.2.2.2⟩
theorem Z.callI {b : Nat} {As : List Value} (hv : CI M.1.cls idx M' nn) (hC : Ct g d' mc' ms' M' (.ref b :: As) ws Post') (hR : RM d0 mcT msT J) (hd : d' + 1 ≤ d0) (hcl : cl + mc' = cl') (hsl : sl + ms' = sl') (h1 : cl' ≤ mcT) (h2 : sl' ≤ msT) (hn : As.length = nn)
    (hcat : (st.map fun v => v.category).sum ≤ 8) (hs : st0 = As.reverse ++ .ref b :: st) (d : decode M.2.1 pc = .ok (.invokespecial idx, 3)) (hp : pc + 3 = n)
    (kk : ∀ (r : Option Value) (ws' : va_W), Post' r ws' → Z g M J cl' sl' n ll (r.toList ++ st) ws') : Z g M J cl sl pc ll st0 ws := by
  subst hp; subst hs; subst hcl; subst hsl
  obtain ⟨hF, w1, w2, w3, w4⟩ := hv
  refine Z.run (as := (Value.ref b :: As).toArray) (fun p l e R s m args below meth c Q H locs ls hJ C hP hD hS hls hpre => ?_) kk
  subst hJ
  have hcb := cB (mc' := mc') (ms' := ms') C hF w1 hR.1 hR.2.1 hd
  rw [w4] at hcb
  exact va_runI (own := M.1.cls) ⟨C.1, C.2.1, C.2.2.1, C.2.2.2.1, C.2.2.2.2.1⟩ (hC l) ⟨hcb, w3, C.2.2.2.2.1 _ w2⟩ (hpre (.ref b :: As)) rfl hn hls rfl (cat_ok hcat) d ⟨Nat.le_trans h1 hR.2.2.1, Nat.le_trans h2 hR.2.2.2⟩
theorem Z.callN {b : Nat} {As : List Value} (hv : CN M.1.cls idx M' nn) (hC : Ct g d' mc' ms' M' (.ref b :: As) ws Post') (hR : RM d0 mcT msT J) (hd : d' + 1 ≤ d0) (hcl : cl + mc' = cl') (hsl : sl + ms' = sl') (h1 : cl' ≤ mcT) (h2 : sl' ≤ msT) (hn : As.length = nn)
    (hcat : (st.map fun v => v.category).sum ≤ 8) (hs : st0 = As.reverse ++ .ref b :: st) (d : decode M.2.1 pc = .ok (.invokespecial idx, 3)) (hp : pc + 3 = n)
    (kk : ∀ (r : Option Value) (ws' : va_W), Post' r ws' → Z g M J cl' sl' n ll (r.toList ++ st) ws') : Z g M J cl sl pc ll st0 ws := by
  subst hp; subst hs; subst hcl; subst hsl
  obtain ⟨hF, w1, w2, w3, w4⟩ := hv
  refine Z.run (as := (Value.ref b :: As).toArray) (fun p l e R s m args below meth c Q H locs ls hJ C hP hD hS hls hpre => ?_) kk
  subst hJ
  have hK : KF g s s.heap := C.2.2.2.2.2.2.2.2.1
  have hcn := va_cnB (R := R) (s := s) (args := args) (own := M.1.cls) (host := "KingsBalance") (index := idx) (rm := rmD d' mc' ms') (mc := mc') (ms := ms') nn C.2.2.2.2.1 (Wds_good hF.2.1) rfl rfl rfl (hK.2.2.2.2.2.2.2.1 _ w1) (C.2.2.2.2.1 _ hF.1) ⟨hF.2.2.1.1, hF.2.2.1.2, hF.2.2.2.1⟩ (rm_ok hR.1 hR.2.1 hd hF.2.2.2.2)
  rw [w4] at hcn
  exact va_runIN (own := M.1.cls) (host := "KingsBalance") ⟨C.1, C.2.1, C.2.2.1, C.2.2.2.1, C.2.2.2.2.1⟩ (hC l) ⟨hcn, w3, C.2.2.2.2.1 _ w2⟩ (hpre (.ref b :: As)) rfl hn hls rfl (cat_ok hcat) d ⟨Nat.le_trans h1 hR.2.2.1, Nat.le_trans h2 hR.2.2.2⟩
theorem Z.callU {b q0 ci : Nat} {fs : List Value} {q : vw_C} {As : List Value} (hv : CU M.1.cls idx q.1 M' nn) (hC : Ct g d' mc' ms' M' (.ref b :: As) ws Post') (hR : RM d0 mcT msT J) (hd : d' + 1 ≤ d0) (hcl : cl + mc' = cl') (hsl : sl + ms' = sl') (h1 : cl' ≤ mcT) (h2 : sl' ≤ msT) (hn : As.length = nn)
    (he : ws[q0]? = some (b, .inr (ci, fs))) (hc : vwCl[ci]? = some q) (hcat : (st.map fun v => v.category).sum ≤ 8) (hs : st0 = As.reverse ++ .ref b :: st) (d : decode M.2.1 pc = .ok (.invokevirtual idx, 3)) (hp : pc + 3 = n)
    (kk : ∀ (r : Option Value) (ws' : va_W), Post' r ws' → Z g M J cl' sl' n ll (r.toList ++ st) ws') : Z g M J cl sl pc ll st0 ws := by
  subst hp; subst hs; subst hcl; subst hsl
  obtain ⟨owner, x, b0, m0, r0, hF, w1, w2, w3, w4, w5, w6, w7⟩ := hv
  refine Z.run (as := (Value.ref b :: As).toArray) (fun p l e R s m args below meth c Q H locs ls hJ C hP hD hS hls hpre => ?_) kk
  subst hJ
  have hK : KF g s s.heap := C.2.2.2.2.2.2.2.2.1
  have hpr := hpre (.ref b :: As)
  have hts := C.2.2.2.2.1
  have hro := rm_ok (mc' := mc') (ms' := ms') hR.1 hR.2.1 hd hF.2.2.2.2
  refine va_runU (own := M.1.cls) (C := q.1) (owner := owner) (x := x) ⟨C.1, C.2.1, C.2.2.1, C.2.2.2.1, hts⟩ (hC l) ⟨⟨rfl, rfl, hro.1, hro.2, pay_in hts (Wds_good hF.2.1), List.mem_cons_self⟩, hts _ hF.2.1, hts _ hF.1, w7, fun sig h => ?_, hts _ w1, hts _ w2, va_Decl.of (hts _ w3) (hts _ w4), hts _ w5, hts _ w6⟩ ⟨hpr.1, va_recv hK.1 hP hc he, hpr.2⟩ rfl hn hls rfl (cat_ok hcat) d ⟨Nat.le_trans h1 hR.2.2.1, Nat.le_trans h2 hR.2.2.2⟩
  have h2 := hF.2.2.2.1
  rw [h] at h2
  exact (Option.some.inj h2).symm
theorem Z.callP {b q0 ci : Nat} {fs : List Value} {q : vw_C} {As : List Value} (hv : CP M.1.cls idx M' nn) (hC : Ct g d' mc' ms' M' (.ref b :: As) ws Post') (hR : RM d0 mcT msT J) (hd : d' + 1 ≤ d0) (hcl : cl + mc' = cl') (hsl : sl + ms' = sl') (h1 : cl' ≤ mcT) (h2 : sl' ≤ msT) (hn : As.length = nn)
    (he : ws[q0]? = some (b, .inr (ci, fs))) (hc : vwCl[ci]? = some q) (hcat : (st.map fun v => v.category).sum ≤ 8) (hs : st0 = As.reverse ++ .ref b :: st) (d : decode M.2.1 pc = .ok (.invokespecial idx, 3)) (hp : pc + 3 = n)
    (kk : ∀ (r : Option Value) (ws' : va_W), Post' r ws' → Z g M J cl' sl' n ll (r.toList ++ st) ws') : Z g M J cl sl pc ll st0 ws := by
  subst hp; subst hs; subst hcl; subst hsl
  obtain ⟨hF, w1, w2, w3, w4, w5⟩ := hv
  refine Z.run (as := (Value.ref b :: As).toArray) (fun p l e R s m args below meth c Q H locs ls hJ C hP hD hS hls hpre => ?_) kk
  subst hJ
  have hK : KF g s s.heap := C.2.2.2.2.2.2.2.2.1
  have hpr := hpre (.ref b :: As)
  have hts := C.2.2.2.2.1
  have hro := rm_ok (mc' := mc') (ms' := ms') hR.1 hR.2.1 hd hF.2.2.2.2
  refine va_runSU (own := M.1.cls) (C := q.1) (hK.1.1 ci q hc).2 ⟨C.1, C.2.1, C.2.2.1, C.2.2.2.1, hts⟩ (hC l) ⟨⟨rfl, rfl, hro.1, hro.2, pay_in hts (Wds_good hF.2.1), List.mem_cons_self⟩, hts _ w1, hts _ w2, hts _ w3, hts _ w4, hts _ hF.1, hts _ hF.2.1, w5, fun sig h => ?_⟩ ⟨hpr.1, va_recv hK.1 hP hc he, hpr.2⟩ rfl hn hls rfl (cat_ok hcat) d ⟨Nat.le_trans h1 hR.2.2.1, Nat.le_trans h2 hR.2.2.2⟩
  have h2 := hF.2.2.2.1
  rw [h] at h2
  exact (Option.some.inj h2).symm
/-- Object.<init> -/
theorem Z.objInit {a : Nat} (w1 : Cond.methodLink M.1.cls idx Lib.objectInit ∈ TT) (w2 : Cond.instanceMethod Lib.objectInit ∈ TT) (w3 : Cond.code Lib.objectInit ⟨#[0xb1]⟩ 1 none ∈ TT) (hR : RM d0 mcT msT J) (hd : 1 ≤ d0) (hcat : (st.map fun v => v.category).sum ≤ 8) (d : decode M.2.1 pc = .ok (.invokespecial idx, 3)) (hp : pc + 3 = n) (kk : Z g M J cl sl n ll st ws) : Z g M J cl sl pc ll (.ref a :: st) ws := by
  subst hp
  obtain ⟨p, l, e, R, s, m, args, below, meth, c, Q⟩ := J
  intro C H locs ls hP hD hS hL
  have hts := C.2.2.2.2.1
  obtain ⟨r1, r2, -⟩ := hR
  have r1 : d0 ≤ R.frames := r1
  have r2 : 40 * d0 ≤ R.locals := r2
  exact W.objInit C.1 C.2.1 C.2.2.2.1 (hts _ w1) (hts _ w2) (hts _ w3) rfl (by show ls.size = _; rw [hL.1, C.2.2.1]) rfl d (by omega) (by have := cat_ok (m := m) (pc := pc) (ls := ls) (st0 := .ref a :: st) hcat; omega) (kk C H locs ls hP hD hS hL)
theorem Z.mmax {x y v : Int32} (w1 : Cond.methodLink M.1.cls idx Lib.Math.max.name ∈ TT) (w2 : Cond.static Lib.Math.max.name ∈ TT) (w3 : Cond.initialized "java/lang/Math" ∈ TT) (w4 : Cond.code Lib.Math.max.name Lib.Math.max.code 2 (some .int) ∈ TT) (hR : RM d0 mcT msT J) (hd : 1 ≤ d0) (h1 : cl ≤ mcT) (h2 : sl ≤ msT) (hcat : (st.map fun v => v.category).sum ≤ 8) (d : decode M.2.1 pc = .ok (.invokestatic idx, 3)) (hp : pc + 3 = n) (hv : (if x < y then y else x) = v) (kk : Z g M J cl sl n ll (.int v :: st) ws) : Z g M J cl sl pc ll (.int y :: .int x :: st) ws := by
  subst hp; subst hv
  obtain ⟨p, l, e, R, s, m, args, below, meth, c, Q⟩ := J
  intro C H locs ls hP hD hS hL
  have hts := C.2.2.2.2.1
  obtain ⟨r1, r2, r3, r4⟩ := hR
  have r1 : d0 ≤ R.frames := r1
  have r2 : 40 * d0 ≤ R.locals := r2
  exact va_mmax C.1 C.2.1 (by rw [hL.1, C.2.2.1]) C.2.2.2.1 (hts _ w1) (hts _ w2) (hts _ w3) (hts _ w4) (by omega) (by omega) (Nat.le_trans h1 r3) (Nat.le_trans h2 r4) d (kk C H locs ls hP hD hS hL)
theorem Z.mmin {x y v : Int32} (w1 : Cond.methodLink M.1.cls idx Lib.Math.min.name ∈ TT) (w2 : Cond.static Lib.Math.min.name ∈ TT) (w3 : Cond.initialized "java/lang/Math" ∈ TT) (w4 : Cond.code Lib.Math.min.name Lib.Math.min.code 2 (some .int) ∈ TT) (hR : RM d0 mcT msT J) (hd : 1 ≤ d0) (h1 : cl ≤ mcT) (h2 : sl ≤ msT) (hcat : (st.map fun v => v.category).sum ≤ 8) (d : decode M.2.1 pc = .ok (.invokestatic idx, 3)) (hp : pc + 3 = n) (hv : (if y < x then y else x) = v) (kk : Z g M J cl sl n ll (.int v :: st) ws) : Z g M J cl sl pc ll (.int y :: .int x :: st) ws := by
  subst hp; subst hv
  obtain ⟨p, l, e, R, s, m, args, below, meth, c, Q⟩ := J
  intro C H locs ls hP hD hS hL
  have hts := C.2.2.2.2.1
  obtain ⟨r1, r2, r3, r4⟩ := hR
  have r1 : d0 ≤ R.frames := r1
  have r2 : 40 * d0 ≤ R.locals := r2
  exact va_mmin C.1 C.2.1 (by rw [hL.1, C.2.2.1]) C.2.2.2.1 (hts _ w1) (hts _ w2) (hts _ w3) (hts _ w4) (by omega) (by omega) (Nat.le_trans h1 r3) (Nat.le_trans h2 r4) d (kk C H locs ls hP hD hS hL)
theorem Z.mabs {x v : Int32} (w1 : Cond.methodLink M.1.cls idx Lib.Math.abs.name ∈ TT) (w2 : Cond.static Lib.Math.abs.name ∈ TT) (w3 : Cond.initialized "java/lang/Math" ∈ TT) (w4 : Cond.code Lib.Math.abs.name Lib.Math.abs.code 1 (some .int) ∈ TT) (hR : RM d0 mcT msT J) (hd : 1 ≤ d0) (h1 : cl ≤ mcT) (h2 : sl ≤ msT) (hcat : (st.map fun v => v.category).sum ≤ 8) (d : decode M.2.1 pc = .ok (.invokestatic idx, 3)) (hp : pc + 3 = n) (hv : (if 0 ≤ x then x else 0 - x) = v) (kk : Z g M J cl sl n ll (.int v :: st) ws) : Z g M J cl sl pc ll (.int x :: st) ws := by
  subst hp; subst hv
  obtain ⟨p, l, e, R, s, m, args, below, meth, c, Q⟩ := J
  intro C H locs ls hP hD hS hL
  have hts := C.2.2.2.2.1
  obtain ⟨r1, r2, r3, r4⟩ := hR
  have r1 : d0 ≤ R.frames := r1
  have r2 : 40 * d0 ≤ R.locals := r2
  exact va_mabs C.1 C.2.1 (by rw [hL.1, C.2.2.1]) C.2.2.2.1 (hts _ w1) (hts _ w2) (hts _ w3) (hts _ w4) (by omega) (by omega) (Nat.le_trans h1 r3) (Nat.le_trans h2 r4) d (kk C H locs ls hP hD hS hL)
/-- System.arraycopy from 0 to 0 between int arrays -/
theorem Z.copy {q0 q1 a a0 n0 n1 N : Nat} {f h : Nat → Int32} {z : Int32} {ws' : va_W} (w1 : Cond.methodLink M.1.cls idx arraycopyName ∈ TT) (w2 : Cond.native arraycopyName ∈ TT) (w3 : Cond.static arraycopyName ∈ TT) (w4 : Cond.initialized "java/lang/System" ∈ TT) (hR : RM d0 mcT msT J) (hd : 1 ≤ d0) (hcat : (st.map fun v => v.category).sum ≤ 8)
    (ha0 : ws[q0]? = some (a0, .inl (gI g, n0, .inl f))) (ha1 : ws[q1]? = some (a, .inl (gI g, n1, .inl h))) (hz : z = nI N) (hN : N < 2 ^ 31) (h0 : N ≤ n0) (h1 : N ≤ n1) (d : decode M.2.1 pc = .ok (.invokestatic idx, 3)) (hp : pc + 3 = n) (hw : ws.set q1 (a, .inl (gI g, n1, .inl (fun k => if k < N then f k else h k))) = ws') (kk : Z g M J cl sl n ll st ws') : Z g M J cl sl pc ll (.int z :: .int 0 :: .ref a :: .int 0 :: .ref a0 :: st) ws := by
  subst hp; subst hw; subst hz
  obtain ⟨p, l, e, R, s, m, args, below, meth, c, Q⟩ := J
  intro C H locs ls hP hD hS hL
  have hts := C.2.2.2.2.1
  have hK : KF g s s.heap := C.2.2.2.2.2.2.2.2.1
  obtain ⟨r1, r2, r3, r4⟩ := hR
  have r1 : d0 ≤ R.frames := r1
  have r2 : 40 * d0 ≤ R.locals := r2
  have hNN : (nI N).toNatClampNeg = N := nI_clamp hN
  have hfw : nativeFrameWords "java/lang/System" "arraycopy" 5 ≤ 21 := by decide +kernel
  have hcp : va_cpy f h (0 : Int32).toNatClampNeg (0 : Int32).toNatClampNeg (nI N).toNatClampNeg = (fun k => if k < N then f k else h k) := by
    funext k
    rw [hNN]
    show (if 0 ≤ k ∧ k < 0 + N then f (0 + (k - 0)) else h k) = _
    simp
  refine va_copyi C.1 C.2.1 (by rw [hL.1, C.2.2.1]) C.2.2.2.1 (hts _ w1) (hts _ w2) (hts _ w3) (hts _ w4) hK.1 hP hD hS q0 q1 0 0 ha0 ha1 rfl rfl rfl (by decide) (by decide) (nI_pos hN) (by rw [hNN]; show 0 + N ≤ n0; omega) (by rw [hNN]; show 0 + N ≤ n1; omega) (fun i _ => rfl) (by omega) (by omega) d fun H1 locs1 hP1 hD1 hS1 => ?_
  rw [hcp] at hP1 hD1
  exact kk C H1 locs1 ls hP1 hD1 hS1 hL
theorem gA_new {s : State} (h : gb g ≤ s.heap.size) : ∀ q, s.heap.size ≤ q → gA g q := fun q hq => Nat.le_trans h hq
/-- new C -/
theorem Z.new {ci : Nat} {q : vw_C} {fs : List Value} {ty : Nat → FieldType} (w1 : Cond.classLink M.1.cls idx q.1 ∈ TT) (w2 : Cond.instantiable q.1 q.2.2 ∈ TT) (w3 : Cond.initialized q.1 ∈ TT) (w4 : ∀ w ∈ u_ws q.1 q.2.1 q.2.2, w ∈ TT) (hty : ∀ k, k < q.2.2 → parseFieldDescriptor (q.2.1 k).2.2.1 = some (ty k)) (hc : vwCl[ci]? = some q) (hfs : ∀ j, j < q.2.2 → defaultValue (ty j) = vp_V fs j)
    (hR : RM d0 mcT msT J) (h1 : cl + 1 ≤ mcT) (h2 : sl + q.2.2 ≤ msT) (d : decode M.2.1 pc = .ok (.new idx, 3)) (hp : pc + 3 = n) (kk : ∀ a : Nat, Z g M J (cl + 1) (sl + q.2.2) n ll (.ref a :: st) (ws ++ [(a, .inr (ci, fs))])) : Z g M J cl sl pc ll st ws := by
  subst hp
  obtain ⟨p, l, e, R, s, m, args, below, meth, c, Q⟩ := J
  intro C H locs ls hP hD hS hL
  have hts := C.2.2.2.2.1
  have hK : KF g s s.heap := C.2.2.2.2.2.2.2.2.1
  exact va_new (C := q.1) (T := q.2.1) (N := q.2.2) C.1 C.2.1 hts w4 ty hty C.2.2.2.1 (hts _ w1) (hts _ w2) (hts _ w3) hK.1 hP hD hS (gA_new C.2.2.2.2.2.2.2.2.2) hc hfs (Nat.le_trans h1 hR.2.2.1) (Nat.le_trans h2 hR.2.2.2) d fun a H1 hP1 hD1 hS1 => kk a C H1 locs ls hP1 hD1 hS1 hL
/-- new int[N], new boolean[N] -/
theorem Z.newI {N : Nat} {z : Int32} (w1 : Cond.arrayClass .int ∈ TT) (hz : z = nI N) (hN : N ≤ 100000) (hR : RM d0 mcT msT J) (h1 : cl + 1 ≤ mcT) (h2 : sl + N ≤ msT) (d : decode M.2.1 pc = .ok (.newarray .int, 2)) (hp : pc + 2 = n) (kk : ∀ a : Nat, Z g M J (cl + 1) (sl + N) n ll (.ref a :: st) (ws ++ [(a, .inl (gI g, N, .inl (fun _ => 0)))])) : Z g M J cl sl pc ll (.int z :: st) ws := by
  subst hp; subst hz
  obtain ⟨p, l, e, R, s, m, args, below, meth, c, Q⟩ := J
  intro C H locs ls hP hD hS hL
  have hts := C.2.2.2.2.1
  have hK : KF g s s.heap := C.2.2.2.2.2.2.2.2.1
  have hN2 : N < 2 ^ 31 := by omega
  refine va_newa (atype := .int) (ty := .int) (N' := N) (a0 := (N, .inl (fun _ => 0))) C.1 C.2.1 (hts _ w1) rfl hK.1 hP hD hS (gA_new C.2.2.2.2.2.2.2.2.2) (fun cA => rfl) (nI_pos hN2) (nI_clamp hN2) (by show N * 4 ≤ _; omega) (Nat.le_trans h1 hR.2.2.1) (Nat.le_trans h2 hR.2.2.2) d fun a cA H1 hK1 hP1 hD1 hS1 => ?_
  have e1 : cA = gI g := by
    have f1 := (hK1.2 4 (cA, .int) rfl).2
    have f2 := (hK.1.2 0 (gI g, .int) rfl).2
    exact Option.some.inj (Eq.trans (Eq.symm f1) f2)
  subst e1
  exact kk a C H1 locs ls hP1 hD1 hS1 hL
theorem Z.newZ {N : Nat} {z : Int32} (w1 : Cond.arrayClass .boolean ∈ TT) (hz : z = nI N) (hN : N ≤ 100000) (hR : RM d0 mcT msT J) (h1 : cl + 1 ≤ mcT) (h2 : sl + N ≤ msT) (d : decode M.2.1 pc = .ok (.newarray .boolean, 2)) (hp : pc + 2 = n) (kk : ∀ a : Nat, Z g M J (cl + 1) (sl + N) n ll (.ref a :: st) (ws ++ [(a, .inl (gZ g, N, .inl (fun _ => 0)))])) : Z g M J cl sl pc ll (.int z :: st) ws := by
  subst hp; subst hz
  obtain ⟨p, l, e, R, s, m, args, below, meth, c, Q⟩ := J
  intro C H locs ls hP hD hS hL
  have hts := C.2.2.2.2.1
  have hK : KF g s s.heap := C.2.2.2.2.2.2.2.2.1
  have hN2 : N < 2 ^ 31 := by omega
  refine va_newa (atype := .boolean) (ty := .boolean) (N' := N) (a0 := (N, .inl (fun _ => 0))) C.1 C.2.1 (hts _ w1) rfl hK.1 hP hD hS (gA_new C.2.2.2.2.2.2.2.2.2) (fun cA => rfl) (nI_pos hN2) (nI_clamp hN2) (by show N * 1 ≤ _; omega) (Nat.le_trans h1 hR.2.2.1) (Nat.le_trans h2 hR.2.2.2) d fun a cA H1 hK1 hP1 hD1 hS1 => ?_
  have e1 : cA = gZ g := by
    have f1 := (hK1.2 4 (cA, .boolean) rfl).2
    have f2 := (hK.1.2 1 (gZ g, .boolean) rfl).2
    exact Option.some.inj (Eq.trans (Eq.symm f1) f2)
  subst e1
  exact kk a C H1 locs ls hP1 hD1 hS1 hL
/-- new Standing[N] -/
theorem Z.newS {N : Nat} {z : Int32} (w1 : Cond.classLink M.1.cls idx RX5 ∈ TT) (hz : z = nI N) (hN : N ≤ 100000) (hR : RM d0 mcT msT J) (h1 : cl + 1 ≤ mcT) (h2 : sl + N ≤ msT) (d : decode M.2.1 pc = .ok (.anewarray idx, 3)) (hp : pc + 3 = n) (kk : ∀ a : Nat, Z g M J (cl + 1) (sl + N) n ll (.ref a :: st) (ws ++ [(a, .inl (gS g, N, .inr (.inr (.inr (.inr (fun _ => none))))))])) : Z g M J cl sl pc ll (.int z :: st) ws := by
  subst hp; subst hz
  obtain ⟨p, l, e, R, s, m, args, below, meth, c, Q⟩ := J
  intro C H locs ls hP hD hS hL
  have hts := C.2.2.2.2.1
  have hK : KF g s s.heap := C.2.2.2.2.2.2.2.2.1
  have hN2 : N < 2 ^ 31 := by omega
  refine va_newq (N' := N) C.1 C.2.1 C.2.2.2.1 (hts _ w1) hK.2.2.2.2.2.2.2.2.1 hK.1 hP hD hS (gA_new C.2.2.2.2.2.2.2.2.2) (nI_pos hN2) (nI_clamp hN2) (by show N * 4 ≤ _; omega) (Nat.le_trans h1 hR.2.2.1) (Nat.le_trans h2 hR.2.2.2) d fun a cA H1 hK1 hP1 hD1 hS1 => ?_
  have e1 : cA = gS g := by
    obtain ⟨_, _, -, -, -, f1⟩ := (hK1.2 4 (cA, .object RX5) rfl).2
    obtain ⟨_, _, -, -, -, f2⟩ := (hK.1.2 2 (gS g, .object RX5) rfl).2
    exact Option.some.inj (Eq.trans (Eq.symm f1) f2)
  subst e1
  exact kk a C H1 locs ls hP1 hD1 hS1 hL
/-- new int[N][K] -/
theorem Z.newM {N K : Nat} {z y : Int32} (w1 : Cond.classLink M.1.cls idx "[[I" ∈ TT) (w2 : Cond.arrayClass .int ∈ TT) (hz : z = nI N) (hy : y = nI K) (hN : N ≤ 10000) (hK9 : K ≤ 10000) (hR : RM d0 mcT msT J) (h1 : cl + (1 + N) ≤ mcT) (h2 : sl + (N + N * K) ≤ msT) (d : decode M.2.1 pc = .ok (.multianewarray idx 2, 4)) (hp : pc + 4 = n)
    (kk : ∀ (a : Nat) (r : Nat → Nat), Z g M J (cl + 1 + N) (sl + N + N * K) n ll (.ref a :: st) ((ws ++ [(a, .inl (gII g, N, .inr (.inr (.inr (.inr (fun i => if i < N then some (r i) else none))))))]) ++ (List.range N).map (fun i => (r i, .inl (gI g, K, .inl (fun _ => 0)))))) : Z g M J cl sl pc ll (.int y :: .int z :: st) ws := by
  subst hp; subst hz; subst hy
  obtain ⟨p, l, e, R, s, m, args, below, meth, c, Q⟩ := J
  intro C H locs ls hP hD hS hL
  have hts := C.2.2.2.2.1
  have hK : KF g s s.heap := C.2.2.2.2.2.2.2.2.1
  have hN2 : N < 2 ^ 31 := by omega
  have hK2 : K < 2 ^ 31 := by omega
  have hcy : s.vm.findClass (FieldType.array .int).toString = some (gI g) := (hK.1.2 0 (gI g, .int) rfl).2
  have hP' : va_P (gD g) vwCl (ws ++ va_pl [] (fun _ => .inr (0, []))) H := by show va_P _ _ (ws ++ []) H; rw [List.append_nil]; exact hP
  have hD' : va_D (gA g) (ws ++ va_pl [] (fun _ => .inr (0, []))) := by show va_D _ (ws ++ []); rw [List.append_nil]; exact hD
  refine va_mna (ty := .int) (N' := N) (K' := K) (z := (K, .inl (fun _ => 0))) C.1 C.2.1 C.2.2.2.1 (hts _ w1) hK.2.2.2.2.2.2.2.2.2.1 (hts _ w2) hcy hK.1 hP' hD' hS (gA_new C.2.2.2.2.2.2.2.2.2) (nI_pos hN2) (nI_pos hK2) (nI_clamp hN2) (nI_clamp hK2) (by omega) (by show K * 4 ≤ _; omega) (by omega) rfl rfl (Nat.le_trans h1 hR.2.2.1) (Nat.le_trans h2 hR.2.2.2) (fun c => arrV_new c K (.int 0)) d fun a r cA H1 hr1 hr2 hK1 hP1 hD1 hS1 => ?_
  have e1 : cA = gII g := by
    have f1 := (hK1.2 4 (cA, .array .int) rfl).2
    have f2 := (hK.1.2 3 (gII g, .array .int) rfl).2
    exact Option.some.inj (Eq.trans (Eq.symm f1) f2)
  subst e1
  have hpl : va_pl ([] ++ (List.range N).map r) (vr_up (fun _ => .inr (0, [])) ((List.range N).map r) (.inl (gI g, K, .inl (fun _ => 0)))) = (List.range N).map (fun i => (r i, (.inl (gI g, K, .inl (fun _ => 0)) : va_E))) := by
    unfold va_pl
    rw [List.nil_append, List.map_map]
    refine List.map_congr_left fun i hi => ?_
    show (r i, vr_up _ _ _ (r i)) = _
    rw [vr_up_in (List.mem_map.mpr ⟨i, hi, rfl⟩)]
  rw [hpl] at hP1 hD1
  exact kk a r C H1 locs ls hP1 hD1 hS1 hL
/-- instanceof, on an object of class ci -/
theorem Z.instY {q0 a ci : Nat} {fs : List Value} {q : vw_C} {nm : String} (w1 : Cond.classLink M.1.cls idx nm ∈ TT) (he : ws[q0]? = some (a, .inr (ci, fs))) (hc : vwCl[ci]? = some q) (hca : (q.1, nm) ∈ caTab) (d : decode M.2.1 pc = .ok (.instanceof idx, 3)) (hp : pc + 3 = n) (kk : Z g M J cl sl n ll (.int 1 :: st) ws) : Z g M J cl sl pc ll (.ref a :: st) ws := by
  subst hp
  obtain ⟨p, l, e, R, s, m, args, below, meth, c, Q⟩ := J
  intro C H locs ls hP hD hS hL
  have hK : KF g s s.heap := C.2.2.2.2.2.2.2.2.1
  exact va_instY C.1 C.2.1 C.2.2.2.1 (C.2.2.2.2.1 _ w1) (hK.2.2.2.2.2.2.1 _ hca) (va_recv hK.1 hP hc he) d (kk C H locs ls hP hD hS hL)
theorem Z.instS {q0 a ci : Nat} {fs : List Value} {q : vw_C} {nm : String} (w1 : Cond.classLink M.1.cls idx nm ∈ TT) (he : ws[q0]? = some (a, .inr (ci, fs))) (hc : vwCl[ci]? = some q) (hca : q.1 = nm) (d : decode M.2.1 pc = .ok (.instanceof idx, 3)) (hp : pc + 3 = n) (kk : Z g M J cl sl n ll (.int 1 :: st) ws) : Z g M J cl sl pc ll (.ref a :: st) ws := by
  subst hp; subst hca
  obtain ⟨p, l, e, R, s, m, args, below, meth, c, Q⟩ := J
  intro C H locs ls hP hD hS hL
  have hK : KF g s s.heap := C.2.2.2.2.2.2.2.2.1
  exact va_instS C.1 C.2.1 C.2.2.2.1 (C.2.2.2.2.1 _ w1) (hK.1.1 ci q hc).2 (va_recv hK.1 hP hc he) d (kk C H locs ls hP hD hS hL)
theorem Z.instN {q0 a ci : Nat} {fs : List Value} {q : vw_C} {nm : String} (w1 : Cond.classLink M.1.cls idx nm ∈ TT) (he : ws[q0]? = some (a, .inr (ci, fs))) (hc : vwCl[ci]? = some q) (hca : (q.1, nm) ∈ ncTab) (d : decode M.2.1 pc = .ok (.instanceof idx, 3)) (hp : pc + 3 = n) (kk : Z g M J cl sl n ll (.int 0 :: st) ws) : Z g M J cl sl pc ll (.ref a :: st) ws := by
  subst hp
  obtain ⟨p, l, e, R, s, m, args, below, meth, c, Q⟩ := J
  intro C H locs ls hP hD hS hL
  have hK : KF g s s.heap := C.2.2.2.2.2.2.2.2.1
  exact va_instNo C.1 C.2.1 C.2.2.2.1 (C.2.2.2.2.1 _ w1) (hK.2.2.2.2.2.1 _ hca) (va_recv hK.1 hP hc he) d (kk C H locs ls hP hD hS hL)
/-- a String constant's fields, its bytes; the statics that String reads -/
theorem Z.strV {i : Nat} (w1 : Cond.fieldLink M.1.cls idx "java/lang/String" "value" "[B" ∈ TT) (hi : i < 18) (d : decode M.2.1 pc = .ok (.getfield idx, 3)) (hp : pc + 3 = n) (kk : Z g M J cl sl n ll (.ref (gV g i) :: st) ws) : Z g M J cl sl pc ll (.ref (gK g i) :: st) ws := by
  subst hp
  obtain ⟨p, l, e, R, s, m, args, below, meth, c, Q⟩ := J
  intro C H locs ls hP hD hS hL
  have hK : KF g s s.heap := C.2.2.2.2.2.2.2.2.1
  exact vk_getf C.1 C.2.1 (hK.2.1.1 i hi).2.2.1 hS C.2.2.2.1 (C.2.2.2.2.1 _ w1) (fun x hx => hx) d (kk C H locs ls hP hD hS hL)
theorem Z.strC {i : Nat} (w1 : Cond.fieldLink M.1.cls idx "java/lang/String" "coder" "B" ∈ TT) (hi : i < 18) (d : decode M.2.1 pc = .ok (.getfield idx, 3)) (hp : pc + 3 = n) (kk : Z g M J cl sl n ll (.int 0 :: st) ws) : Z g M J cl sl pc ll (.ref (gK g i) :: st) ws := by
  subst hp
  obtain ⟨p, l, e, R, s, m, args, below, meth, c, Q⟩ := J
  intro C H locs ls hP hD hS hL
  have hK : KF g s s.heap := C.2.2.2.2.2.2.2.2.1
  exact vk_getf C.1 C.2.1 (hK.2.1.1 i hi).2.1 hS C.2.2.2.1 (C.2.2.2.2.1 _ w1) (fun x hx => hx) d (kk C H locs ls hP hD hS hL)
theorem Z.strL {i : Nat} {v : Int32} (hi : i < 18) (hv : nI (strLen.getD i 0) = v) (d : decode M.2.1 pc = .ok (.arraylength, 1)) (hp : pc + 1 = n) (kk : Z g M J cl sl n ll (.int v :: st) ws) : Z g M J cl sl pc ll (.ref (gV g i) :: st) ws := by
  subst hp; subst hv
  obtain ⟨p, l, e, R, s, m, args, below, meth, c, Q⟩ := J
  intro C H locs ls hP hD hS hL
  have hK : KF g s s.heap := C.2.2.2.2.2.2.2.2.1
  obtain ⟨cell, x1, x2, x3, x4, x5, x6, x7⟩ := (hK.2.1.1 i hi).2.2.2
  exact W.alen (n := nI (strLen.getD i 0)) C.1 C.2.1 (by rw [hS.2.1 _ (Array.getElem?_eq_some_iff.mp x1).1 x7]; exact x1) x2 x5 rfl rfl d (kk C H locs ls hP hD hS hL)
theorem Z.strB {i j : Nat} {z v : Int32} (hi : i < 18) (hz : z = nI j) (hj : j < strLen.getD i 0) (hl : strLen.getD i 0 < 2 ^ 31) (hv : (strByt.getD i []).getD j 0 = v) (d : decode M.2.1 pc = .ok (.baload, 1)) (hp : pc + 1 = n) (kk : Z g M J cl sl n ll (.int v :: st) ws) : Z g M J cl sl pc ll (.int z :: .ref (gV g i) :: st) ws := by
  subst hp; subst hv
  obtain ⟨h1, h2⟩ := ix_of hz hj hl
  obtain ⟨p, l, e, R, s, m, args, below, meth, c, Q⟩ := J
  intro C H locs ls hP hD hS hL
  have hK : KF g s s.heap := C.2.2.2.2.2.2.2.2.1
  refine va_tb C.1 C.2.1 (hK.2.1.1 i hi).2.2.2 hS h1 (v := .int ((strByt.getD i []).getD j 0)) ?_ d (kk C H locs ls hP hD hS hL)
  rw [h2]
theorem Z.strCS (w1 : Cond.fieldLink M.1.cls idx "java/lang/String" "COMPACT_STRINGS" "Z" ∈ TT) (d : decode M.2.1 pc = .ok (.getstatic idx, 3)) (hp : pc + 3 = n) (kk : Z g M J cl sl n ll (.int 1 :: st) ws) : Z g M J cl sl pc ll st ws := by
  subst hp
  obtain ⟨p, l, e, R, s, m, args, below, meth, c, Q⟩ := J
  intro C H locs ls hP hD hS hL
  have hK : KF g s s.heap := C.2.2.2.2.2.2.2.2.1
  exact va_gets C.1 C.2.1 hK.2.2.2.1 hS C.2.2.2.1 (C.2.2.2.2.1 _ w1) (fun x hx => hx) d (kk C H locs ls hP hD hS hL)
theorem Z.strSF (w1 : Cond.fieldLink M.1.cls idx "jdk/internal/util/Preconditions" "SIOOBE_FORMATTER" "Ljava/util/function/BiFunction;" ∈ TT) (d : decode M.2.1 pc = .ok (.getstatic idx, 3)) (hp : pc + 3 = n) (kk : ∀ v : Value, (v = .null ∨ ∃ t, v = .ref t) → Z g M J cl sl n ll (v :: st) ws) : Z g M J cl sl pc ll st ws := by
  subst hp
  obtain ⟨p, l, e, R, s, m, args, below, meth, c, Q⟩ := J
  intro C H locs ls hP hD hS hL
  have hK : KF g s s.heap := C.2.2.2.2.2.2.2.2.1
  rcases hK.2.2.2.2.1 with h | ⟨t, h⟩
  · exact va_gets C.1 C.2.1 h hS C.2.2.2.1 (C.2.2.2.2.1 _ w1) (fun x hx => hx) d (kk .null (Or.inl rfl) C H locs ls hP hD hS hL)
  · exact va_gets C.1 C.2.1 h hS C.2.2.2.1 (C.2.2.2.2.1 _ w1) (fun x hx => hx) d (kk (.ref t) (Or.inr ⟨t, rfl⟩) C H locs ls hP hD hS hL)
end ZC
