/-! fields, arrays, makings, calls, ends -/
/-- a field's entry in the tables: class ci, place k -/
def FdOK (own : String) (idx ci k : Nat) : Prop := ∃ (q : vw_C) (ref : String), vwCl[ci]? = some q ∧ k < q.2.2 ∧ Cond.fieldLink own idx ref (q.2.1 k).2.1 (q.2.1 k).2.2.1 ∈ TT ∧ (∀ w ∈ u_ws q.1 q.2.1 q.2.2, w ∈ TT) ∧ (ref = (q.2.1 k).1 ∨ Cond.sameField ref (q.2.1 k).1 (q.2.1 k).2.1 (q.2.1 k).2.2.1 ∈ TT)
/-- and one that may be written -/
def FpOK (own : String) (idx ci k : Nat) (fin : Bool) (ty : FieldType) : Prop := ∃ (q : vw_C) (ref : String) (ty0 : Nat → FieldType), vwCl[ci]? = some q ∧ k < q.2.2 ∧ Cond.fieldLink own idx ref (q.2.1 k).2.1 (q.2.1 k).2.2.1 ∈ TT ∧ (∀ w ∈ u_ws q.1 q.2.1 q.2.2, w ∈ TT) ∧ ref = (q.2.1 k).1 ∧
  (∀ j, j < q.2.2 → parseFieldDescriptor (q.2.1 j).2.2.1 = some (ty0 j)) ∧ (∀ a, a < q.2.2 → ∀ b, b < q.2.2 → a ≠ b → (q.2.1 a).2.1 ≠ (q.2.1 b).2.1) ∧ (q.2.1 k).2.2.2 = fin ∧ parseFieldDescriptor (q.2.1 k).2.2.1 = some ty ∧ (fin = true → (q.2.1 k).1 = own)
section ZH
variable {g : GP} {M : MI} {J : JT} {cl sl pc n : Nat} {ll : List (Option Value)} {st : List Value} {ws : va_W}
theorem Z.getf {idx ci k q0 a : Nat} {fs : List Value} {v : Value} (h : FdOK M.1.cls idx ci k) (d : decode M.2.1 pc = .ok (.getfield idx, 3)) (hp : pc + 3 = n) (he : ws[q0]? = some (a, .inr (ci, fs))) (hv : fs[k]? = some v) (kk : Z g M J cl sl n ll (v :: st) ws) : Z g M J cl sl pc ll (.ref a :: st) ws := by
  subst hp
  obtain ⟨q, ref, h1, h2, h3, h4, h5⟩ := h
  obtain ⟨p, l, e, R, s, m, args, below, meth, c, Q⟩ := J
  intro C H locs ls hP hD hS hL
  have hts := C.2.2.2.2.1
  have hK : KF g s s.heap := C.2.2.2.2.2.2.2.2.1
  refine va_get (C := q.1) (T := q.2.1) (N := q.2.2) (ref := ref) C.1 C.2.1 hts h4 C.2.2.2.1 hK.1 hP q0 he h1 k h2 (hts _ h3) ?_ hv d (kk C H locs ls hP hD hS hL)
  rcases h5 with h5 | h5
  · rw [h5]; exact fun x hx => hx
  · exact u_same (hts _ h5)
theorem Z.putf {idx ci k q0 a : Nat} {fs : List Value} {v : Value} {ty : FieldType} {ws' : va_W} (h : FpOK M.1.cls idx ci k false ty) (d : decode M.2.1 pc = .ok (.putfield idx, 3)) (hp : pc + 3 = n) (he : ws[q0]? = some (a, .inr (ci, fs))) (hl : k < fs.length) (hn : narrow ty v = v) (hf : fits ty v = true) (hw : ws.set q0 (a, .inr (ci, fs.set k v)) = ws') (kk : Z g M J cl sl n ll st ws') : Z g M J cl sl pc ll (v :: .ref a :: st) ws := by
  subst hp; subst hw
  obtain ⟨q, ref, ty0, h1, h2, h3, h4, h5, h6, h7, h8, h9, -⟩ := h
  obtain ⟨p, l, e, R, s, m, args, below, meth, c, Q⟩ := J
  intro C H locs ls hP hD hS hL
  have hts := C.2.2.2.2.1
  have hK : KF g s s.heap := C.2.2.2.2.2.2.2.2.1
  exact va_put (C := q.1) (T := q.2.1) (N := q.2.2) (ref := ref) C.1 C.2.1 hts h4 ty0 h6 h7 C.2.2.2.1 hK.1 hP hD hS q0 he h1 k h2 (hts _ h3) (by rw [h5]; exact fun x hx => hx) h8 h9 hn hf hl d (fun H1 locs1 hP1 hD1 hS1 => kk C H1 locs1 ls hP1 hD1 hS1 hL)
theorem Z.putF {idx ci k q0 a : Nat} {fs : List Value} {v : Value} {ty : FieldType} {ws' : va_W} (h : FpOK M.1.cls idx ci k true ty) (hi : M.1.name = "<init>") (d : decode M.2.1 pc = .ok (.putfield idx, 3)) (hp : pc + 3 = n) (he : ws[q0]? = some (a, .inr (ci, fs))) (hl : k < fs.length) (hn : narrow ty v = v) (hf : fits ty v = true) (hw : ws.set q0 (a, .inr (ci, fs.set k v)) = ws') (kk : Z g M J cl sl n ll st ws') : Z g M J cl sl pc ll (v :: .ref a :: st) ws := by
  subst hp; subst hw
  obtain ⟨q, ref, ty0, h1, h2, h3, h4, h5, h6, h7, h8, h9, h10⟩ := h
  obtain ⟨p, l, e, R, s, m, args, below, meth, c, Q⟩ := J
  intro C H locs ls hP hD hS hL
  have hts := C.2.2.2.2.1
  have hK : KF g s s.heap := C.2.2.2.2.2.2.2.2.1
  have hnm : meth.name = "<init>" := by rw [← hi]; exact C.2.2.2.2.2.2.2.1
  exact va_putF (C := q.1) (T := q.2.1) (N := q.2.2) (ref := ref) C.1 C.2.1 hts h4 ty0 h6 h7 C.2.2.2.1 hK.1 hP hD hS q0 he h1 k h2 (hts _ h3) (by rw [h5]; exact fun x hx => hx) h8 hnm (h10 rfl) h9 hn hf hl d (fun H1 locs1 hP1 hD1 hS1 => kk C H1 locs1 ls hP1 hD1 hS1 hL)
/-- an index: the Int32 i is the number j, below N -/
theorem ix_of {i : Int32} {j N : Nat} (hi : i = nI j) (hj : j < N) (hN : N < 2 ^ 31) : vp_in i N ∧ i.toNatClampNeg = j := by
  subst hi
  exact ⟨nI_in hj hN, nI_clamp (Nat.lt_trans hj hN)⟩
theorem Z.iald {q0 a N j : Nat} {f : Nat → Int32} {i : Int32} (d : decode M.2.1 pc = .ok (.iaload, 1)) (hp : pc + 1 = n) (he : ws[q0]? = some (a, .inl (gI g, N, .inl f))) (hi : i = nI j) (hj : j < N) (hN : N < 2 ^ 31) (kk : Z g M J cl sl n ll (.int (f j) :: st) ws) : Z g M J cl sl pc ll (.int i :: .ref a :: st) ws := by
  subst hp
  obtain ⟨h1, h2⟩ := ix_of hi hj hN
  obtain ⟨p, l, e, R, s, m, args, below, meth, c, Q⟩ := J
  intro C H locs ls hP hD hS hL
  have hK : KF g s s.heap := C.2.2.2.2.2.2.2.2.1
  refine va_iald C.1 C.2.1 hK.1 hP q0 0 he rfl h1 d ?_
  rw [h2]
  exact kk C H locs ls hP hD hS hL
theorem Z.zald {q0 a N j : Nat} {f : Nat → Int32} {i : Int32} (d : decode M.2.1 pc = .ok (.baload, 1)) (hp : pc + 1 = n) (he : ws[q0]? = some (a, .inl (gZ g, N, .inl f))) (hi : i = nI j) (hj : j < N) (hN : N < 2 ^ 31) (kk : Z g M J cl sl n ll (.int (f j) :: st) ws) : Z g M J cl sl pc ll (.int i :: .ref a :: st) ws := by
  subst hp
  obtain ⟨h1, h2⟩ := ix_of hi hj hN
  obtain ⟨p, l, e, R, s, m, args, below, meth, c, Q⟩ := J
  intro C H locs ls hP hD hS hL
  have hK : KF g s s.heap := C.2.2.2.2.2.2.2.2.1
  refine va_zald C.1 C.2.1 hK.1 hP q0 1 he rfl h1 d ?_
  rw [h2]
  exact kk C H locs ls hP hD hS hL
theorem Z.iast {q0 a N j : Nat} {f : Nat → Int32} {i x : Int32} {ws' : va_W} (d : decode M.2.1 pc = .ok (.iastore, 1)) (hp : pc + 1 = n) (he : ws[q0]? = some (a, .inl (gI g, N, .inl f))) (hi : i = nI j) (hj : j < N) (hN : N < 2 ^ 31) (hw : ws.set q0 (a, .inl (gI g, N, .inl (upd f j x))) = ws') (kk : Z g M J cl sl n ll st ws') : Z g M J cl sl pc ll (.int x :: .int i :: .ref a :: st) ws := by
  subst hp; subst hw
  obtain ⟨h1, h2⟩ := ix_of hi hj hN
  obtain ⟨p, l, e, R, s, m, args, below, meth, c, Q⟩ := J
  intro C H locs ls hP hD hS hL
  have hK : KF g s s.heap := C.2.2.2.2.2.2.2.2.1
  refine va_iast C.1 C.2.1 hK.1 hP hD hS q0 0 he rfl h1 d fun H1 locs1 hP1 hD1 hS1 => ?_
  rw [h2] at hP1 hD1
  exact kk C H1 locs1 ls hP1 hD1 hS1 hL
theorem Z.zast {q0 a N j : Nat} {f : Nat → Int32} {i x : Int32} {ws' : va_W} (d : decode M.2.1 pc = .ok (.bastore, 1)) (hp : pc + 1 = n) (he : ws[q0]? = some (a, .inl (gZ g, N, .inl f))) (hi : i = nI j) (hj : j < N) (hN : N < 2 ^ 31) (hx : vp_nar .boolean x = x) (hw : ws.set q0 (a, .inl (gZ g, N, .inl (upd f j x))) = ws') (kk : Z g M J cl sl n ll st ws') : Z g M J cl sl pc ll (.int x :: .int i :: .ref a :: st) ws := by
  subst hp; subst hw
  obtain ⟨h1, h2⟩ := ix_of hi hj hN
  obtain ⟨p, l, e, R, s, m, args, below, meth, c, Q⟩ := J
  intro C H locs ls hP hD hS hL
  have hK : KF g s s.heap := C.2.2.2.2.2.2.2.2.1
  refine va_zast C.1 C.2.1 hK.1 hP hD hS q0 1 he rfl h1 d fun H1 locs1 hP1 hD1 hS1 => ?_
  rw [h2, hx] at hP1 hD1
  exact kk C H1 locs1 ls hP1 hD1 hS1 hL
theorem Z.alen {q0 a ty : Nat} {x : vp_A} {v : Int32} {t : FieldType} (d : decode M.2.1 pc = .ok (.arraylength, 1)) (hp : pc + 1 = n) {cA : Nat} (he : ws[q0]? = some (a, .inl (cA, x))) (ht : (gT g)[ty]? = some (cA, t)) (hv : Int32.ofNat x.1 = v) (kk : Z g M J cl sl n ll (.int v :: st) ws) : Z g M J cl sl pc ll (.ref a :: st) ws := by
  subst hp
  obtain ⟨p, l, e, R, s, m, args, below, meth, c, Q⟩ := J
  intro C H locs ls hP hD hS hL
  have hK : KF g s s.heap := C.2.2.2.2.2.2.2.2.1
  exact va_alen C.1 C.2.1 hK.1 hP q0 ty he ht hv d (kk C H locs ls hP hD hS hL)
/-- an array of references, of Standings or of rows -/
theorem Z.aald {q0 a N j ty : Nat} {f : Nat → Option Nat} {i : Int32} {cA : Nat} {t : FieldType} (d : decode M.2.1 pc = .ok (.aaload, 1)) (hp : pc + 1 = n) (he : ws[q0]? = some (a, .inl (cA, N, .inr (.inr (.inr (.inr f)))))) (ht : (gT g)[ty]? = some (cA, t)) (htr : t.isReference = true) (hi : i = nI j) (hj : j < N) (hN : N < 2 ^ 31) (kk : Z g M J cl sl n ll (va_rf (f j) :: st) ws) : Z g M J cl sl pc ll (.int i :: .ref a :: st) ws := by
  subst hp
  obtain ⟨h1, h2⟩ := ix_of hi hj hN
  obtain ⟨p, l, e, R, s, m, args, below, meth, c, Q⟩ := J
  intro C H locs ls hP hD hS hL
  have hK : KF g s s.heap := C.2.2.2.2.2.2.2.2.1
  have hc : H[a]? = some (vp_cell cA (N, .inr (.inr (.inr (.inr f))))) := hP q0 _ he
  rw [vp_cell_q] at hc
  refine W.aald (v := va_rf (f j)) (ty := t) C.1 C.2.1 hc ((hK.1.2 ty _ ht).1 N (fun j => va_rf (f j))) htr (fun q => by cases q) (by rw [arrV_size]; exact h1) (by rw [h2, arrV_read _ _ hj]) rfl rfl d (kk C H locs ls hP hD hS hL)
theorem Z.aast {q0 a N j qk v ci : Nat} {f : Nat → Option Nat} {i : Int32} {vs : List Value} {r : vw_C} {ws' : va_W} (d : decode M.2.1 pc = .ok (.aastore, 1)) (hp : pc + 1 = n) (he : ws[q0]? = some (a, .inl (gS g, N, .inr (.inr (.inr (.inr f)))))) (hv : ws[qk]? = some (v, .inr (ci, vs))) (hc : vwCl[ci]? = some r) (hca : r.1 = RX5 ∨ (r.1, RX5) ∈ caTab) (hi : i = nI j) (hj : j < N) (hN : N < 2 ^ 31) (hw : ws.set q0 (a, .inl (gS g, N, .inr (.inr (.inr (.inr (va_up f j (some v))))))) = ws') (kk : Z g M J cl sl n ll st ws') : Z g M J cl sl pc ll (.ref v :: .int i :: .ref a :: st) ws := by
  subst hp; subst hw
  obtain ⟨h1, h2⟩ := ix_of hi hj hN
  obtain ⟨p, l, e, R, s, m, args, below, meth, c, Q⟩ := J
  intro C H locs ls hP hD hS hL
  have hK : KF g s s.heap := C.2.2.2.2.2.2.2.2.1
  have h0 : ¬ i < 0 := fun q => h1 (Or.inl q)
  obtain ⟨r', hr', cellV, g1, g2, g3, -⟩ := hP qk _ hv
  have hcls := (hK.1.1 ci r hc).2
  obtain ⟨kA, comp, k1, k2, k3, -⟩ := (hK.1.2 2 (gS g, .object RX5) rfl).2
  have hasg : s.vm.assignable ((gD g).1 ci) comp = true := by
    rcases hca with h | h
    · have hcomp : comp = (gD g).1 ci := Option.some.inj (k3.symm.trans (by rw [← h]; exact hcls.1))
      rw [hcomp]
      exact va_assign hcls
    · obtain ⟨c0, t0, f1, f2, f3⟩ := Cond.castable_spec (va_Nw.use (A := args) rfl (hK.2.2.2.2.2.2.1 _ h))
      have e1 : c0 = (gD g).1 ci := Option.some.inj (f1.symm.trans hcls.1)
      have e2 : t0 = comp := Option.some.inj (f2.symm.trans k3)
      rw [← e1, ← e2]
      exact f3
  obtain ⟨kC, hkC, -⟩ := hcls.2
  obtain ⟨kcomp, hkcomp, -⟩ := Vm.findClass_spec k3
  refine W.aast C.1 C.2.1 (hP q0 _ he) (fun q h => by cases h) (fun h => by cases h) k1 k2 rfl hkcomp ⟨h0, by show _ < (arrV _ _ _).slots.size; rw [arrV_size, h2]; exact hj⟩ g1 (fun q h => by rw [g3] at h; cases h) (by rw [g2]; exact hkC) (by rw [g2]; exact hasg) rfl rfl d fun H1 e1 z oq => ?_
  refine kk C H1 _ ls (hP.set hD he ?_ oq) (hD.set he) (hS.put z oq (hD.2 q0 _ he)) hL
  show H1[a]? = some (vp_cell _ _)
  rw [e1, h2]
  rw [vp_cell_q, vp_cell_q, arrV_store]
  congr 2
  funext q
  by_cases hq : q = j
  · subst hq
    simp [updV, va_up, va_rf]
  · simp [updV, va_up, hq]
theorem Z.aastN {q0 a N j : Nat} {f : Nat → Option Nat} {i : Int32} {ws' : va_W} (d : decode M.2.1 pc = .ok (.aastore, 1)) (hp : pc + 1 = n) (he : ws[q0]? = some (a, .inl (gS g, N, .inr (.inr (.inr (.inr f)))))) (hi : i = nI j) (hj : j < N) (hN : N < 2 ^ 31) (hw : ws.set q0 (a, .inl (gS g, N, .inr (.inr (.inr (.inr (va_up f j none)))))) = ws') (kk : Z g M J cl sl n ll st ws') : Z g M J cl sl pc ll (.null :: .int i :: .ref a :: st) ws := by
  subst hp; subst hw
  obtain ⟨h1, h2⟩ := ix_of hi hj hN
  obtain ⟨p, l, e, R, s, m, args, below, meth, c, Q⟩ := J
  intro C H locs ls hP hD hS hL
  have hK : KF g s s.heap := C.2.2.2.2.2.2.2.2.1
  refine va_astqN C.1 C.2.1 hK.1 hP hD hS q0 2 he rfl h1 d fun H1 locs1 hP1 hD1 hS1 => ?_
  rw [h2] at hP1 hD1
  exact kk C H1 locs1 ls hP1 hD1 hS1 hL
end ZH
section ZE
variable {g : GP} {M : MI} {J : JT} {cl sl pc n d0 mc ms : Nat} {ll : List (Option Value)} {st : List Value} {ws : va_W} {Post : Option Value → va_W → Prop}
theorem Z.iret {v : Int32} (hJ : JX g d0 mc ms Post J) (d : decode M.2.1 pc = .ok (.ireturn, 1)) (hr : M.2.2.2 = some .int) (h1 : cl ≤ mc) (h2 : sl ≤ ms) (hp : Post (some (.int v)) ws) : Z g M J cl sl pc ll [.int v] ws := by
  obtain ⟨p, l, e, R, s, m, args, below, meth, c, Q⟩ := J
  intro C H locs ls hP hD hS hL
  obtain ⟨-, rfl⟩ := hJ
  refine W.widen h1 h2 ?_
  exact W.iret C.1 C.2.1 (by rw [C.2.2.2.2.2.1, hr]) (fun t ht hW => ⟨_, ws, rfl, hp, by rw [ht]; exact hP, hD, hS.F ht⟩) hS.2.2 d C.2.2.2.2.2.2.1
theorem Z.zret {v : Int32} {ty : FieldType} (hJ : JX g d0 mc ms Post J) (d : decode M.2.1 pc = .ok (.ireturn, 1)) (hr : M.2.2.2 = some ty) (hn : narrow ty (.int v) = .int v) (h1 : cl ≤ mc) (h2 : sl ≤ ms) (hp : Post (some (.int v)) ws) : Z g M J cl sl pc ll [.int v] ws := by
  obtain ⟨p, l, e, R, s, m, args, below, meth, c, Q⟩ := J
  intro C H locs ls hP hD hS hL
  obtain ⟨-, rfl⟩ := hJ
  refine W.widen h1 h2 ?_
  exact W.zret C.1 C.2.1 (by rw [C.2.2.2.2.2.1, hr]) hn (fun t ht hW => ⟨_, ws, rfl, hp, by rw [ht]; exact hP, hD, hS.F ht⟩) hS.2.2 d C.2.2.2.2.2.2.1
theorem Z.lret {v : Int64} (hJ : JX g d0 mc ms Post J) (d : decode M.2.1 pc = .ok (.lreturn, 1)) (hr : M.2.2.2 = some .long) (h1 : cl ≤ mc) (h2 : sl ≤ ms) (hp : Post (some (.long v)) ws) : Z g M J cl sl pc ll [.long v] ws := by
  obtain ⟨p, l, e, R, s, m, args, below, meth, c, Q⟩ := J
  intro C H locs ls hP hD hS hL
  obtain ⟨-, rfl⟩ := hJ
  refine W.widen h1 h2 ?_
  exact W.lret C.1 C.2.1 (by rw [C.2.2.2.2.2.1, hr]) (fun t ht hW => ⟨_, ws, rfl, hp, by rw [ht]; exact hP, hD, hS.F ht⟩) hS.2.2 d C.2.2.2.2.2.2.1
theorem Z.aret {v : Value} {rt : FieldType} (hJ : JX g d0 mc ms Post J) (d : decode M.2.1 pc = .ok (.areturn, 1)) (hr : M.2.2.2 = some rt) (hrt : (∃ n, rt = .object n) ∨ ∃ t, rt = .array t) (hv : v = .null ∨ ∃ a, v = .ref a) (h1 : cl ≤ mc) (h2 : sl ≤ ms) (hp : Post (some v) ws) : Z g M J cl sl pc ll [v] ws := by
  obtain ⟨p, l, e, R, s, m, args, below, meth, c, Q⟩ := J
  intro C H locs ls hP hD hS hL
  obtain ⟨-, rfl⟩ := hJ
  refine W.widen h1 h2 ?_
  exact W.aret C.1 C.2.1 (by rw [C.2.2.2.2.2.1, hr]) hrt hv (fun t ht hW => ⟨_, ws, rfl, hp, by rw [ht]; exact hP, hD, hS.F ht⟩) hS.2.2 d C.2.2.2.2.2.2.1
theorem Z.vret (hJ : JX g d0 mc ms Post J) (d : decode M.2.1 pc = .ok (.return_, 1)) (hr : M.2.2.2 = none) (h1 : cl ≤ mc) (h2 : sl ≤ ms) (hp : Post none ws) : Z g M J cl sl pc ll [] ws := by
  obtain ⟨p, l, e, R, s, m, args, below, meth, c, Q⟩ := J
  intro C H locs ls hP hD hS hL
  obtain ⟨-, rfl⟩ := hJ
  refine W.widen h1 h2 ?_
  exact W.vret C.1 C.2.1 (by rw [C.2.2.2.2.2.1, hr]) (fun t ht hW => ⟨none, ws, rfl, hp, by rw [ht]; exact hP, hD, hS.F ht⟩) hS.2.2 d C.2.2.2.2.2.2.1
/-- the room of a frame: that of a method, or the law's -/
def RM (d0 mc ms : Nat) (J : JT) : Prop := d0 ≤ J.2.2.2.1.frames ∧ 40 * d0 ≤ J.2.2.2.1.locals ∧ mc ≤ J.2.2.2.1.cells ∧ ms ≤ J.2.2.2.1.slots
theorem JX.rm (hJ : JX g d0 mc ms Post J) : RM d0 mc ms J := by
  obtain ⟨p, l, e, R, s, m, args, below, meth, c, Q⟩ := J
  obtain ⟨rfl, -⟩ := hJ
  exact ⟨Nat.le_refl _, Nat.le_refl _, Nat.le_refl _, Nat.le_refl _⟩
/-- a call that runs: what comes back -/
theorem Z.run {Post' : Option Value → va_W → Prop} {mc' ms' : Nat} {as : Array Value} {st0 : List Value}
    (hr : ∀ (p : Program) (l : Launch) (e : Env) (R : Room) (s : State) (m : MethodId) (args : Array Value) (below : List Frame) (meth : Method) (c : Code) (Q : State → Prop) (H : Heap) (locs : List Loc) (ls : Array Slot), J = (p, l, e, R, s, m, args, below, meth, c, Q) → Cx g M p s m args meth c → va_P (gD g) vwCl ws H → va_D (gA g) ws → va_S (gA g) s.heap H locs → ls.size = M.2.2.1 → (∀ av : List Value, PreS s H (CPc g av ws) av) →
      va_Run p l e R s m args below meth c H locs cl sl mc' ms' (F0 m pc ls st0) st (CQc g Post' as) (gA g))
    (kk : ∀ (r : Option Value) (ws' : va_W), Post' r ws' → Z g M J (cl + mc') (sl + ms') (pc + 3) ll (r.toList ++ st) ws') : Z g M J cl sl pc ll st0 ws := by
  obtain ⟨p, l, e, R, s, m, args, below, meth, c, Q⟩ := J
  intro C H locs ls hP hD hS hL
  have hK : KF g s s.heap := C.2.2.2.2.2.2.2.2.1
  have hgb : gb g ≤ s.heap.size := C.2.2.2.2.2.2.2.2.2
  have hpre : ∀ av : List Value, PreS s H (CPc g av ws) av := fun av => ⟨CPc.blind g av ws, fun U hU hW => ⟨rfl, by rw [hU]; exact (KF.warm hW hK).kept (fun a h1 h2 => hS.2.1 a h1 h2), by rw [hU]; exact Nat.le_trans hgb hS.1, by rw [hU]; exact hP, hD⟩⟩
  have h := hr p l e R s m args below meth c Q H locs ls rfl C hP hD hS hL.1 hpre
  intro T hT X
  obtain ⟨v, st₀, t, T', L, h0, X', hLo, e1, e2, ⟨r, ws', hv, hpo, hP1, hD1, hz, hk⟩, stp⟩ := h T hT X
  cases hv
  rw [h0] at hz hk
  obtain ⟨t2, a1, b1⟩ := kk _ ws' hpo C T'.heap (locs ++ L) ls (by rw [e1]; exact hP1) hD1
    ⟨Nat.le_trans hS.1 (by rw [e1]; exact hz), fun q h1 h2 => by rw [e1, hk q (Nat.lt_of_lt_of_le h1 hS.1) h2]; exact hS.2.1 q h1 h2, fun q hq => by
      rcases List.mem_append.mp hq with h | h
      · exact hS.2.2 q h
      · exact hLo q h⟩ hL T' rfl X'
  exact ⟨t2, stp t2 a1, b1⟩
end ZE
