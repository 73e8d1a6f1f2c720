/-! the words of the pure functions that mirror the methods -/
abbrev HT : Type := Nat → Nat → Int32
/-- an index into a row of N -/
def ck (N : Nat) (i : Int32) : Option Nat := if i < 0 ∨ N ≤ i.toNatClampNeg then none else some i.toNatClampNeg
theorem ck_spec {N : Nat} {i : Int32} {j : Nat} (h : ck N i = some j) : i = nI j ∧ j < N := by
  unfold ck at h
  by_cases c : i < 0 ∨ N ≤ i.toNatClampNeg
  · rw [if_pos c] at h; cases h
  · rw [if_neg c] at h
    have hj := Option.some.inj h
    have h0 : ¬ i < 0 := fun q => c (Or.inl q)
    have h1 : ¬ N ≤ i.toNatClampNeg := fun q => c (Or.inr q)
    refine ⟨?_, by omega⟩
    rw [← hj]
    have h2 : (0 : Int) ≤ i.toInt := by
      have := Int32.not_lt.mp h0
      simpa using Int32.le_iff_toInt_le.mp this
    apply Int32.toInt_inj.mp
    have h3 : i.toNatClampNeg < 2 ^ 31 := by
      have : ((i.toInt.toNat : Nat) : Int) = i.toInt := by omega
      have h5 := Int32.toInt_lt i
      show i.toInt.toNat < 2 ^ 31
      omega
    rw [nI_toInt h3]
    show i.toInt = ((i.toInt.toNat : Nat) : Int)
    omega
theorem ck_nI {N j : Nat} (h : j < N) (hN : N ≤ 2 ^ 31) : ck N (nI j) = some j := by
  have h1 : (nI j).toNatClampNeg = j := nI_clamp (by omega)
  unfold ck
  rw [h1, if_neg]
  rintro (q | q)
  · exact nI_pos (by omega) q
  · omega
def nz (y : Int32) : Option Unit := if y = 0 then none else some ()
theorem nz_spec {y : Int32} {u : Unit} (h : nz y = some u) : ¬ y = 0 := fun e => by simp [nz, e] at h
def nzl (y : Int64) : Option Unit := if y = 0 then none else some ()
theorem nzl_spec {y : Int64} {u : Unit} (h : nzl y = some u) : ¬ y = 0 := fun e => by simp [nzl, e] at h
def cb (x : Int32) : Option Unit := if x = 0 ∨ x = 1 then some () else none
theorem cb_spec {x : Int32} {u : Unit} (h : cb x = some u) : x = 0 ∨ x = 1 := by
  unfold cb at h
  by_cases c : x = 0 ∨ x = 1
  · exact c
  · rw [if_neg c] at h; cases h
theorem cb_nar {x : Int32} {u : Unit} (h : cb x = some u) : narrow .boolean (.int x) = .int x := by
  rcases cb_spec h with rfl | rfl <;> rfl
theorem cb_vp {x : Int32} {u : Unit} (h : cb x = some u) : vp_nar .boolean x = x := by
  rcases cb_spec h with rfl | rfl <;> rfl
theorem cb_0 : cb 0 = some () := rfl
theorem cb_1 : cb 1 = some () := rfl
def PoI (g : GP) (a : Nat → Nat) (P : PT) (z : Int32 × HT) : Option Value → va_W → Prop := fun v w => v = some (.int z.1) ∧ w = WD g a z.2 P
def PoL (g : GP) (a : Nat → Nat) (P : PT) (z : Int64 × HT) : Option Value → va_W → Prop := fun v w => v = some (.long z.1) ∧ w = WD g a z.2 P
def PoV (g : GP) (a : Nat → Nat) (P : PT) (z : Int32 × HT) : Option Value → va_W → Prop := fun v w => v = none ∧ w = WD g a z.2 P
/-- a Standing's record: its class, its number, its v; SC: it is one of the seven classes -/
abbrev SR : Type := Nat × Int32 × Int32
def SC (c : Nat) : Prop := c = 0 ∨ c = 1 ∨ c = 2 ∨ c = 4 ∨ c = 5 ∨ c = 7 ∨ c = 9
def PoolOK (P : PT) : Prop := ∀ (t : Nat) (r : SR), P[t]? = some r → SC r.1
/-- where a record lies -/
def At (g : GP) (a : Nat → Nat) (P : PT) (k : Nat) (r : SR) : Prop := ∀ h : HT, (WD g a h P)[k]? = some (a k, .inr (r.1, [.int r.2.1, .int r.2.2]))
theorem At.pool {g : GP} {a : Nat → Nat} {P : PT} {t : Nat} {r : SR} (h : P[t]? = some r) : At g a P (102 + t) r := fun _ => WD_pool h
theorem At.spare {g : GP} {a : Nat → Nat} {P : PT} : At g a P 89 (4, 8, 0) := fun _ => W89
section TSW
variable {g : GP} {M : MI} {J : JT} {cl sl pc n : Nat} {ll : List (Option Value)} {st : List Value} {ws : va_W}
theorem Z.tswI {dflt lo hi : Int} {offs : Array Int} {len : Nat} {x c : Int32} {off : Int} {tgt : Nat} (d : decode M.2.1 pc = .ok (.tableswitch dflt lo hi offs, len)) (hx : x = c) (h1 : ¬ c.toInt < lo) (h2 : ¬ hi < c.toInt) (ho : offs[(c.toInt - lo).toNat]? = some off) (ht : (pc : Int) + off = (tgt : Int)) (k : Z g M J cl sl tgt ll st ws) : Z g M J cl sl pc ll (.int x :: st) ws := by
  subst hx
  exact Z.mk1 (fun p l e R s m args below meth c Q H locs ls hx hb hL kk => lv_tableIn hx hb d h1 h2 ho ht kk) k
theorem Z.tswO {dflt lo hi : Int} {offs : Array Int} {len : Nat} {x : Int32} {tgt : Nat} (d : decode M.2.1 pc = .ok (.tableswitch dflt lo hi offs, len)) (h : x.toInt < lo ∨ hi < x.toInt) (ht : (pc : Int) + dflt = (tgt : Int)) (k : Z g M J cl sl tgt ll st ws) : Z g M J cl sl pc ll (.int x :: st) ws :=
  Z.mk1 (fun p l e R s m args below meth c Q H locs ls hx hb hL kk => lv_tableOut hx hb d h ht kk) k
theorem Z.lsw {dflt : Int} {ps : Array (Int × Int)} {len : Nat} {x : Int32} {off : Int} {tgt : Nat} (d : decode M.2.1 pc = .ok (.lookupswitch dflt ps, len)) (hp : (ps.toList.zip (ps.toList.drop 1)).all (fun (a, next) => a.1 < next.1) = true) (ho : Op.lookupswitch.offset ps.toList dflt x.toInt = off) (ht : (pc : Int) + off = (tgt : Int)) (k : Z g M J cl sl tgt ll st ws) : Z g M J cl sl pc ll (.int x :: st) ws :=
  Z.mk1 (fun p l e R s m args below meth c Q H locs ls hx hb hL kk => lv_lookup hx hb d hp ho ht kk) k
end TSW
def PoR (g : GP) (a : Nat → Nat) (P : PT) (z : Int32 × HT) : Option Value → va_W → Prop := fun v w => v = some (va_rf ((dq z.1).map (fun t => a (102 + t)))) ∧ w = WD g a z.2 P
/-- a reference that may be stored: null, or one of the pool -/
def okq (P : PT) (v : Int32) : Option Unit := match dq v with
  | none => some ()
  | some t => if t < P.length then some () else none
def cch (x : Int32) : Option Unit := if vp_nar .char x = x then some () else none
theorem cch_nar {x : Int32} {u : Unit} (h : cch x = some u) : narrow .char (.int x) = .int x := by
  unfold cch at h
  by_cases c : vp_nar .char x = x
  · have e : narrow .char (.int x) = .int (vp_nar .char x) := rfl
    rw [e, c]
  · rw [if_neg c] at h; cases h
theorem cb_narB {x : Int32} {u : Unit} (h : cb x = some u) : narrow .byte (.int x) = .int x := by
  rcases cb_spec h with rfl | rfl <;> rfl
theorem strLen_lt (i : Nat) : strLen.getD i 0 < 2 ^ 31 := by
  by_cases h : i < 18
  · have : ∀ i, i < 18 → strLen.getD i 0 < 2 ^ 31 := by decide +kernel
    exact this i h
  · have e : strLen[i]? = none := List.getElem?_eq_none (by show 18 ≤ i; omega)
    rw [List.getD_eq_getElem?_getD, e]
    decide
theorem SC_cl {c : Nat} (h : SC c) : ∃ q : vw_C, vwCl[c]? = some q := by
  rcases h with rfl | rfl | rfl | rfl | rfl | rfl | rfl <;> exact ⟨_, rfl⟩
theorem SC_ca {c : Nat} (h : SC c) : ∃ q : vw_C, vwCl[c]? = some q ∧ (q.1 = RX5 ∨ (q.1, RX5) ∈ caTab) := by
  rcases h with rfl | rfl | rfl | rfl | rfl | rfl | rfl
  · exact ⟨_, rfl, Or.inr (by decide +kernel)⟩
  · exact ⟨_, rfl, Or.inr (by decide +kernel)⟩
  · exact ⟨_, rfl, Or.inr (by decide +kernel)⟩
  · exact ⟨_, rfl, Or.inr (by decide +kernel)⟩
  · exact ⟨_, rfl, Or.inl rfl⟩
  · exact ⟨_, rfl, Or.inr (by decide +kernel)⟩
  · exact ⟨_, rfl, Or.inr (by decide +kernel)⟩
section AST
variable {g : GP} {M : MI} {J : JT} {cl sl pc n : Nat} {ll : List (Option Value)} {st : List Value} {a : Nat → Nat} {h : HT} {P : PT}
/-- standing[j] = a reference, null or of the pool -/
theorem Z.aastP {k j : Nat} {i v : Int32} {F : Nat → Option Nat} {h' : HT} {u : Unit} (hPo : PoolOK P) (hv : okq P v = some u) (d : decode M.2.1 pc = .ok (.aastore, 1)) (hp : pc + 1 = n) (he : (WD g a h P)[k]? = some (a k, .inl (gS g, 8, .inr (.inr (.inr (.inr F)))))) (hi : i = nI j) (hj : j < 8)
    (hw : (WD g a h P).set k (a k, .inl (gS g, 8, .inr (.inr (.inr (.inr (va_up F j ((dq v).map (fun t => a (102 + t))))))))) = WD g a h' P) (kk : Z g M J cl sl n ll st (WD g a h' P)) : Z g M J cl sl pc ll (va_rf ((dq v).map (fun t => a (102 + t))) :: .int i :: .ref (a k) :: st) (WD g a h P) := by
  unfold okq at hv
  cases hd : dq v with
  | none =>
    rw [hd] at hw
    exact Z.aastN d hp he hi hj (by decide) hw kk
  | some t =>
    rw [hd] at hw hv
    have ht : t < P.length := by
      by_cases c : t < P.length
      · exact c
      · simp [c] at hv
    have hr : P[t]? = some P[t] := List.getElem?_eq_getElem ht
    obtain ⟨q9, hq9, hc9⟩ := SC_ca (hPo _ _ hr)
    exact Z.aast d hp he (WD_pool hr) hq9 hc9 hi hj (by decide) hw kk
end AST
theorem cb_fit {x : Int32} {u : Unit} (h : cb x = some u) : fits .boolean (.int x) = true := by
  rcases cb_spec h with rfl | rfl <;> rfl
