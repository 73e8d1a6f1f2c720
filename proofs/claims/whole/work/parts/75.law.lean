/-! THE CLAIM OUT OF ONE WALK OF THE LAW'S BODY. Your part is whole_start (and what it stands on); all else here is the same for every law, but numbers. -/
def R_law : String := "KingsBalanceLaw"
def lw_P (b : Addr) (xs : List Int32) (args : Array Value) (s : State) : Prop := args = #[.ref b] ∧ s.IntsAt b xs ∧ xs.length ≤ 320 ∧ (Jvm.Cond.and given_1 narrow_1).before args s = true
def lw_Q (_ : Array Value) (s : State) (o : Outcome) (t : State) : Prop := o = .returned (some (.int 1)) ∧ Framed s o t [] 600000 7302250
def lw_Z (below : List Frame) (a : Array Value) (s : State) : State → Prop := fun t => ∃ o, t.status = .running ∧ Ended t below o ∧ lw_Q a s o t
/-- the law's own end, with 1 on the stack, nothing written that was there before, its room as the claim has it -/
theorem lw_ret {p : Program} {l : Launch} {e : Env} {s : State} {m : MethodId} {below : List Frame} {meth : Method} {c : Code} {b : Nat} (hx : p.tables.exec = Jvm.exec) (hb : c.code = code) (hr : meth.sig.returnType = ret) (hlocks : meth.locks = false) {pc : Nat} {H : Heap} {ls : Array Slot} (hdg : decode code pc = .ok (.ireturn, 1)) : W p l e room_1 s m #[Value.ref b] below meth c H [] 600000 7302250 (lw_Z below #[Value.ref b] s) (F0 m pc ls [.int 1]) := by
  intro T hT X
  obtain ⟨fs, hret, hrun, hended, hW, hframe⟩ := X.leave (v := some (.int 1)) (hlocks := hlocks) (fun h => by rw [hr] at h; cases h)
  have hmeth' : T.vm.method? m = some meth := X.method'
  refine ⟨T.setFrames fs, ?_, .returned (some (.int 1)), hrun, hended, rfl, ⟨_, rfl⟩, hW, hframe⟩
  jvm_step X.here [X.here.top, hx, hb, hdg, hmeth', hr, ret, narrow_b1]
  (try refine ⟨rfl, ?_⟩); (try refine ⟨rfl, ?_⟩)
  first | (intro acts; rw [hret _ acts rfl rfl rfl]) | rw [hret _ _ rfl rfl rfl]
  exact Steps.refl _
/-- what holds at the law's entry: the machine, the code, the tables' words (any of lw_tbl by 'hts w (by decide +kernel)'), the script of L ints xs at the cell b, what the Statement gives of the start (any of its parts by flat_of_before) -/
def lw_At (p : Program) (s : State) (m : MethodId) (meth : Method) (c : Code) (b L : Nat) (xs : Nat → Int32) : Prop :=
  p.tables.exec = Jvm.exec ∧ c.code = code ∧ meth.sig.returnType = ret ∧ c.maxLocals = 4 ∧ s.vm.findClass R_law = some m.cls ∧ (∀ w ∈ lw_tbl, w.before #[Value.ref b] s = true) ∧ va_X b L xs s s.heap ∧ b < s.heap.size ∧ meth.locks = false ∧ (Jvm.Cond.and given_1 narrow_1).before #[Value.ref b] s = true ∧ meth.name = "law"
section LAWR
variable {g : GP} {J : JT} {cl sl pc n b L : Nat} {xs : Nat → Int32} {ll : List (Option Value)} {st : List Value} {ws : va_W}
/-- the frame is the law's: its room, its end, the script of L ints at the cell b -/
def JL (g : GP) (b L : Nat) (xs : Nat → Int32) (J : JT) : Prop := match J with
  | (_, _, _, R, s, _, args, below, _, _, Q) => R = room_1 ∧ args = #[Value.ref b] ∧ Q = lw_Z below #[Value.ref b] s ∧ va_X b L xs s s.heap ∧ b < s.heap.size ∧ gb g = s.heap.size
theorem JL.rm (hJ : JL g b L xs J) : RM 2000 600000 7302250 J := by
  obtain ⟨p, l, e, R, s, m, args, below, meth, c, Q⟩ := J
  obtain ⟨rfl, -⟩ := hJ
  exact ⟨Nat.le_of_ble_eq_true rfl, Nat.le_of_ble_eq_true rfl, Nat.le_of_ble_eq_true rfl, Nat.le_of_ble_eq_true rfl⟩
theorem JL.no {s : State} (hb : b < s.heap.size) (hg : gb g = s.heap.size) : ¬ gA g b := fun q => by
  have : gb g ≤ b := q
  omega
theorem Z.slen (hJ : JL g b L xs J) (d : decode mL_law.2.1 pc = .ok (.arraylength, 1)) (hp : pc + 1 = n) (k : Z g mL_law J cl sl n ll (.int (nI L) :: st) ws) : Z g mL_law J cl sl pc ll (.ref b :: st) ws := by
  subst hp
  obtain ⟨p, l, e, R, s, m, args, below, meth, c, Q⟩ := J
  obtain ⟨rfl, rfl, rfl, hX, hb, hg⟩ := hJ
  intro C H locs ls hP hD hS hL
  exact va_slen C.1 C.2.1 hX hb (JL.no hb hg) hS d (k C H locs ls hP hD hS hL)
theorem Z.sld {x : Int32} {j : Nat} (hJ : JL g b L xs J) (d : decode mL_law.2.1 pc = .ok (.iaload, 1)) (hp : pc + 1 = n) (hx : x = nI j) (hj : j < L) (hL : L ≤ 320) (k : Z g mL_law J cl sl n ll (.int (xs j) :: st) ws) : Z g mL_law J cl sl pc ll (.int x :: .ref b :: st) ws := by
  subst hp
  obtain ⟨p, l, e, R, s, m, args, below, meth, c, Q⟩ := J
  obtain ⟨rfl, rfl, rfl, hX, hb, hg⟩ := hJ
  intro C H locs ls hP hD hS hl
  obtain ⟨h1, h2⟩ := ix_of hx hj (by omega)
  refine va_sld C.1 C.2.1 hX hb (JL.no hb hg) hS h1 d ?_
  rw [h2]
  exact k C H locs ls hP hD hS hl
theorem Z.lend (hJ : JL g b L xs J) (d : decode mL_law.2.1 pc = .ok (.ireturn, 1)) (h1 : cl ≤ 600000) (h2 : sl ≤ 7302250) : Z g mL_law J cl sl pc ll [.int 1] ws := by
  obtain ⟨p, l, e, R, s, m, args, below, meth, c, Q⟩ := J
  obtain ⟨rfl, rfl, rfl, hX, hb, hg⟩ := hJ
  intro C H locs ls hP hD hS hL
  refine va_forget (fun q hq => ?_) (W.widen h1 h2 (lw_ret C.1 C.2.1 C.2.2.2.2.2.1 C.2.2.2.2.2.2.1 d))
  have : gb g ≤ q.base := hS.2.2 q hq
  rw [← hg]; exact this
theorem lgc (w : Int64) : 0 = lg_cmp w w := by
  unfold lg_cmp
  rw [if_neg (show ¬ w > w from Int64.lt_irrefl), if_pos rfl]
theorem okq_lt {P : PT} {v : Int32} {t : Nat} (h : okq P v = some ()) (e : dq v = some t) : t < P.length := by
  unfold okq at h
  rw [e] at h
  by_cases z : t < P.length
  · exact z
  · simp [z] at h
theorem sq0 {P : PT} {K : Nat} {Lw : Wld} {nn : Nat} {h : HT} (X : Ix P K Lw nn h) : ∀ i t, dq (h 30 i) = some t → t < P.length := fun i _ e => okq_lt (X.2.1.2 i).1 e
theorem sq1 {P : PT} {K : Nat} {Lw : Wld} {nn : Nat} {h : HT} (X : Ix P K Lw nn h) : ∀ i t, dq (h 70 i) = some t → t < P.length := fun i _ e => okq_lt (X.2.1.2 i).2 e
theorem BoL.mu {P : PT} {K : Nat} {Lw : Wld} {nn : Nat} {h : HT} {f1 f2 : HT → Option (Int64 × HT)} (x : Ix P K Lw nn h) (a : BoL h f1 f2) : ∃ w h1 h2, f1 h = some (w, h1) ∧ f2 h1 = some (w, h2) ∧ Inv P h2 := by
  obtain ⟨w, a1, a2⟩ := a
  obtain ⟨h1, e1, q1⟩ := a1 h Qw.rfl'
  obtain ⟨h2, e2, q2⟩ := a2 h1 q1
  exact ⟨w, h1, h2, e1, e2, K, Lw, nn, x.w q2⟩
/-- what comes behind an arm: the loop's step -/
def Nx (g : GP) (b : Nat) (J : JT) (t i : Nat) : Prop := ∀ (a : Nat → Nat) (h : HT) (P : PT), Inv P h → P.length ≤ t + 1 → Z g mL_law J (200 + (t + 1)) (4000 + 2 * (t + 1)) 1286 [some (.ref b), some (.ref (a 0)), some (.ref (a 93)), some (.int (nI i))] [] (WD g a h P)
end LAWR
