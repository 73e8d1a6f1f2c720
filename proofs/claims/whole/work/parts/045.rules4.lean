/-! calls of inherited static methods, and of a superclass's inherited method -/
def CT (own : String) (idx : Nat) (M' : MI) (nn : Nat) : Prop := ∃ x : MethodName, CallF M' x nn ∧ Cond.methodLink own idx x ∈ TT ∧ Cond.sameMethod x.cls M'.1.cls x.name x.desc ∈ TT ∧ Cond.static M'.1 ∈ TT ∧ M'.1 = ⟨M'.1.cls, x.name, x.desc⟩
def CQ (own : String) (idx : Nat) (M' : MI) (nn : Nat) : Prop := ∃ x : MethodName, CallF M' x nn ∧ Cond.methodLink own idx x ∈ TT ∧ Cond.sameMethod x.cls M'.1.cls x.name x.desc ∈ TT ∧ Cond.superclass own x.cls ∈ TT ∧ Cond.superclass x.cls M'.1.cls ∈ TT ∧ Cond.instanceMethod M'.1 ∈ TT ∧ M'.1 = ⟨M'.1.cls, x.name, x.desc⟩ ∧ x.name ≠ "<init>"
section ZT
variable {g : GP} {M M' : MI} {J : JT} {cl sl cl' sl' pc n d0 d' mcT msT mc' ms' nn idx : Nat} {ll : List (Option Value)} {st st0 : List Value} {ws : va_W} {Post' : Option Value → va_W → Prop}
theorem Z.callT {As : List Value} (hv : CT M.1.cls idx M' nn) (hC : Ct g d' mc' ms' M' As ws Post') (hR : RM d0 mcT msT J) (hd : d' + 1 ≤ d0) (hcl : cl + mc' = cl') (hsl : sl + ms' = sl') (h1 : cl' ≤ mcT) (h2 : sl' ≤ msT) (hn : As.length = nn)
    (hcat : (st.map fun v => v.category).sum ≤ 8) (hs : st0 = As.reverse ++ st) (d : decode M.2.1 pc = .ok (.invokestatic idx, 3)) (hp : pc + 3 = n)
    (kk : ∀ (r : Option Value) (ws' : va_W), Post' r ws' → Z g M J cl' sl' n ll (r.toList ++ st) ws') : Z g M J cl sl pc ll st0 ws := by
  subst hp; subst hs; subst hcl; subst hsl
  obtain ⟨x, hF, w1, w2, w3, w4⟩ := hv
  refine Z.run (as := As.toArray) (fun p l e R s m args below meth c Q H locs ls hJ C hP hD hS hls hpre => ?_) kk
  subst hJ
  have hts := C.2.2.2.2.1
  have hro := rm_ok (mc' := mc') (ms' := ms') hR.1 hR.2.1 hd hF.2.2.2.2
  have hws := pay_in hts (Wds_good hF.2.1)
  have hini := hts _ hF.1
  have hcode := hts _ hF.2.1
  have hK : Back l R p e below s args M'.1 3 8 (PreOf R mc' ms' (CPc g As ws)) (PostOf (CQc g Post') mc' ms' (gA g)) := back_of (rm := rmD d' mc' ms') (bytes := M'.2.1) (maxL := M'.2.2.1) (ret := M'.2.2.2) (hC l) (CPc.blind g As ws) rfl rfl hro.1 hro.2 hws List.mem_cons_self (fun a' U hW => word_at hW (Or.inl (by first | rfl | simp [Cond.onTables, Cond.keeps, Cond.steady])) hini)
  obtain ⟨mk, hnamed⟩ := Cond.code_named hcode
  obtain ⟨methM, cM, hmethM, -, -, -, -, -, -, hsigM⟩ := Cond.code_spec hnamed hcode
  have hstatic : methM.isStatic = true := Cond.static_spec hnamed hmethM (hts _ w3)
  obtain ⟨kP, hkP, -⟩ := className_of_methodNamed hnamed
  have hinitP : kP.init = .initialized := Cond.initialized_spec (findClass_of_methodNamed hnamed) hkP hini
  have hdx : M'.1.desc = x.desc := by rw [w4]
  have hlen : As.length = methM.sig.parameters.length := by
    have h2 := hF.2.2.2.1
    rw [← hdx, hsigM] at h2
    rw [hn]
    exact (Option.some.inj h2).symm
  intro T hT X
  obtain ⟨vm₁, X₁, hstep₁⟩ := X.invokestaticUp C.1 C.2.2.2.1 (hts _ w1) (hts _ w2) hF.2.2.1 (x := x) (by rw [← w4]; exact hnamed) hmethM hstatic hkP hinitP (g := F0 m pc ls (As.reverse ++ st)) rfl (argsL := As) (rest := st) hlen rfl (by rw [C.2.1]; exact d)
  obtain ⟨v, ⟨U', l2, c2', s2⟩, X', ⟨g', mk', t, L, e1, e2, hq, h1', hL, h2', h3⟩, hsteps⟩ := hK m meth c ⟨T.setVm vm₁, locs, cl, sl⟩ { (F0 m pc ls (As.reverse ++ st)) with stack := st } (.invokestatic idx) mk As.toArray X₁ rfl (hls.trans C.2.2.1.symm) (by rw [C.2.1]; exact d) (cat_ok hcat) (X₁.named hnamed)
    ⟨Nat.le_trans h1 hR.2.2.1, Nat.le_trans h2 hR.2.2.2, (hpre As).2 (T.setVm vm₁) hT X₁.warmed⟩
  dsimp only [Pt.U, Pt.locs, Pt.cells, Pt.slots] at X' e1 e2 h1' h2' h3 hsteps
  subst h1'; subst h2'; subst h3
  exact ⟨v, (T.setVm vm₁).calling g' mk' As.toArray, t, U', L, hT, X', hL, e1, e2, hq, fun target h => hstep₁ _ fun acts => by rw [doInvoke_state]; exact hsteps.trans h⟩
theorem Z.callQ {b q0 ci : Nat} {fs : List Value} {q : vw_C} {As : List Value} (hv : CQ M.1.cls idx M' nn) (hC : Ct g d' mc' ms' M' (.ref b :: As) ws Post') (hR : RM d0 mcT msT J) (hd : d' + 1 ≤ d0) (hcl : cl + mc' = cl') (hsl : sl + ms' = sl') (h1 : cl' ≤ mcT) (h2 : sl' ≤ msT) (hn : As.length = nn)
    (he : ws[q0]? = some (b, .inr (ci, fs))) (hc : vwCl[ci]? = some q) (hcat : (st.map fun v => v.category).sum ≤ 8) (hs : st0 = As.reverse ++ .ref b :: st) (d : decode M.2.1 pc = .ok (.invokespecial idx, 3)) (hp : pc + 3 = n)
    (kk : ∀ (r : Option Value) (ws' : va_W), Post' r ws' → Z g M J cl' sl' n ll (r.toList ++ st) ws') : Z g M J cl sl pc ll st0 ws := by
  subst hp; subst hs; subst hcl; subst hsl
  obtain ⟨x, hF, w1, w2, w3, w4, w5, w6, w7⟩ := hv
  refine Z.run (as := (Value.ref b :: As).toArray) (fun p l e R s m args below meth c Q H locs ls hJ C hP hD hS hls hpre => ?_) kk
  subst hJ
  have hKF : KF g s s.heap := C.2.2.2.2.2.2.2.2.1
  have hts := C.2.2.2.2.1
  have hro := rm_ok (mc' := mc') (ms' := ms') hR.1 hR.2.1 hd hF.2.2.2.2
  have hws := pay_in hts (Wds_good hF.2.1)
  have hini := hts _ hF.1
  have hcode := hts _ hF.2.1
  have hpr := hpre (.ref b :: As)
  have hK : Back l R p e below s args M'.1 3 8 (PreOf R mc' ms' (CPc g (.ref b :: As) ws)) (PostOf (CQc g Post') mc' ms' (gA g)) := back_of (rm := rmD d' mc' ms') (bytes := M'.2.1) (maxL := M'.2.2.1) (ret := M'.2.2.2) (hC l) (CPc.blind g _ ws) rfl rfl hro.1 hro.2 hws List.mem_cons_self (fun a' U hW => word_at hW (Or.inl (by first | rfl | simp [Cond.onTables, Cond.keeps, Cond.steady])) hini)
  obtain ⟨mk, methM, hnamed, hmethM, hstM, habM⟩ := Cond.instanceMethod_spec (hts _ w5)
  obtain ⟨methM', cM, hmethM', -, -, -, -, -, -, hsigM⟩ := Cond.code_spec hnamed hcode
  cases hmethM.symm.trans hmethM'
  obtain ⟨ps, dk, kp, hps, hdk, hkp, hsuper, -, -, hnid⟩ := Cond.superclass_spec C.2.2.2.1 (hts _ w3)
  obtain ⟨ps2, dk2, kp2, hps2, hdk2, hkp2, hsuper2, -, -, hnid2⟩ := Cond.superclass_spec hps (hts _ w4)
  have hpm : ps2 = mk.cls := Option.some.inj (hps2.symm.trans (findClass_of_methodNamed hnamed))
  have hsub : s.vm.isSubclass ps mk.cls = true := by
    obtain ⟨k, hk⟩ : ∃ k, s.vm.classes.size = k + 1 := by
      have := (Array.getElem?_eq_some_iff.mp hdk2).1
      exact ⟨s.vm.classes.size - 1, by omega⟩
    rw [← hpm]
    unfold Vm.isSubclass
    rw [hk]
    simp [Vm.isSubclassAux, hdk2, hsuper2]
  have hdx : M'.1.desc = x.desc := by rw [w6]
  have hlen : As.length = methM.sig.parameters.length := by
    have h2 := hF.2.2.2.1
    rw [← hdx, hsigM] at h2
    rw [hn]
    exact (Option.some.inj h2).symm
  obtain ⟨cellB, hcB, hoB, hclB⟩ := va_recv hKF.1 hP hc he
  obtain ⟨hfc, kB, hkB, -⟩ := (hKF.1.1 ci q hc).2
  have e9 : (gD g).1 ci = cellB.cls := Option.some.inj (hfc.symm.trans hclB)
  rw [e9] at hkB
  intro T hT X
  obtain ⟨vm₁, X₁, hstep₁⟩ := X.invokespecialUp C.1 C.2.2.2.1 (hts _ w1) (hts _ w2) (x := x) (by rw [← w6]; exact hnamed) hmethM hstM habM w7 hdk hnid hps hsuper hsub (a := b) (cell := cellB) (by rw [hT]; exact hcB)
    (fun z h => by rw [h] at hoB; cases hoB) hkB (g := F0 m pc ls (As.reverse ++ .ref b :: st)) rfl (argsL := As) (rest := st) hlen rfl (by rw [C.2.1]; exact d)
  obtain ⟨v, ⟨U', l2, c2', s2⟩, X', ⟨g', mk', t, L, e1, e2, hq, h1', hL, h2', h3⟩, hsteps⟩ := hK m meth c ⟨T.setVm vm₁, locs, cl, sl⟩ { (F0 m pc ls (As.reverse ++ .ref b :: st)) with stack := st } (.invokespecial idx) mk (Value.ref b :: As).toArray X₁ rfl (hls.trans C.2.2.1.symm) (by rw [C.2.1]; exact d) (cat_ok hcat) (X₁.named hnamed)
    ⟨Nat.le_trans h1 hR.2.2.1, Nat.le_trans h2 hR.2.2.2, hpr.2 (T.setVm vm₁) hT X₁.warmed⟩
  dsimp only [Pt.U, Pt.locs, Pt.cells, Pt.slots] at X' e1 e2 h1' h2' h3 hsteps
  subst h1'; subst h2'; subst h3
  exact ⟨v, (T.setVm vm₁).calling g' mk' (Value.ref b :: As).toArray, t, U', L, hT, X', hL, e1, e2, hq, fun target h => hstep₁ _ (by rw [doInvoke_state]; exact hsteps.trans h)⟩
end ZT
