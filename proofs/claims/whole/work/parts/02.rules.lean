/-! OWN JUDGEMENT: a frame over a world of cells, one row an instruction; all the tables' words are at hand everywhere. -/
/-- the words that every method is given: those of lw_tbl that stay -/
def TT : List Cond := lw_tbl.filter goodWord
theorem TT_good : GoodIn TT TT := fun w hw => ⟨hw, good_of_word (List.mem_filter.mp hw).2⟩
theorem TT_of {w : Cond} (i : Nat) (h : tables_1[i]? = some w) (hg : goodWord w = true) : w ∈ TT := List.mem_filter.mpr ⟨List.mem_append_right _ (List.mem_of_getElem? h), hg⟩
theorem TT_o1 {w : Cond} (i : Nat) (h : tables_1_1[i]? = some w) (hg : goodWord w = true) : w ∈ TT := List.mem_filter.mpr ⟨List.mem_append_right _ (List.mem_append_left _ (List.mem_of_getElem? h)), hg⟩
theorem TT_o2 {w : Cond} (i : Nat) (h : tables_1_2[i]? = some w) (hg : goodWord w = true) : w ∈ TT := List.mem_filter.mpr ⟨List.mem_append_right _ (List.mem_append_right _ (List.mem_append_left _ (List.mem_of_getElem? h))), hg⟩
theorem TT_o3 {w : Cond} (i : Nat) (h : tables_1_3[i]? = some w) (hg : goodWord w = true) : w ∈ TT := List.mem_filter.mpr ⟨List.mem_append_right _ (List.mem_append_right _ (List.mem_append_right _ (List.mem_append_left _ (List.mem_of_getElem? h)))), hg⟩
theorem TT_o4 {w : Cond} (i : Nat) (h : tables_1_4[i]? = some w) (hg : goodWord w = true) : w ∈ TT := List.mem_filter.mpr ⟨List.mem_append_right _ (List.mem_append_right _ (List.mem_append_right _ (List.mem_append_right _ (List.mem_append_left _ (List.mem_of_getElem? h))))), hg⟩
theorem TT_o5 {w : Cond} (i : Nat) (h : tables_1_5[i]? = some w) (hg : goodWord w = true) : w ∈ TT := List.mem_filter.mpr ⟨List.mem_append_right _ (List.mem_append_right _ (List.mem_append_right _ (List.mem_append_right _ (List.mem_append_right _ (List.mem_append_left _ (List.mem_of_getElem? h)))))), hg⟩
theorem TT_o6 {w : Cond} (i : Nat) (h : tables_1_6[i]? = some w) (hg : goodWord w = true) : w ∈ TT := List.mem_filter.mpr ⟨List.mem_append_right _ (List.mem_append_right _ (List.mem_append_right _ (List.mem_append_right _ (List.mem_append_right _ (List.mem_append_right _ ((List.mem_of_getElem? h))))))), hg⟩
theorem TT_sel {w : Cond} (i : Nat) (h : (k2_sels lw_privs)[i]? = some w) (hg : goodWord w = true) : w ∈ TT := List.mem_filter.mpr ⟨List.mem_append_left _ (List.mem_of_getElem? h), hg⟩
/-- what stays the same over the whole run: class numbers, slots, array classes, the first new address, the String constants' addresses -/
abbrev GP : Type := (Nat → ClassId) × (Nat → Nat → Nat) × Nat × Nat × Nat × Nat × Nat × (Nat → Nat) × (Nat → Nat)
abbrev gD (g : GP) : va_G := (g.1, g.2.1)
abbrev gI (g : GP) : Nat := g.2.2.1
abbrev gZ (g : GP) : Nat := g.2.2.2.1
abbrev gS (g : GP) : Nat := g.2.2.2.2.1
abbrev gII (g : GP) : Nat := g.2.2.2.2.2.1
abbrev gb (g : GP) : Nat := g.2.2.2.2.2.2.1
abbrev gK (g : GP) : Nat → Nat := g.2.2.2.2.2.2.2.1
abbrev gV (g : GP) : Nat → Nat := g.2.2.2.2.2.2.2.2
abbrev gT (g : GP) : List (ClassId × FieldType) := [(gI g, .int), (gZ g, .boolean), (gS g, .object RX5), (gII g, .array .int)]
def gA (g : GP) : Nat → Prop := fun q => gb g ≤ q
/-- the String constants: owner, entry, text -/
def strTab : List (String × Nat × String) := [("KingsBalance$World", 84, "cwlt"), ("KingsBalance$World", 107, "ost "), ("KingsBalance$Tape", 38, "0123456789"), ("KingsBalance$World", 109, " "), ("KingsBalance$World", 129, "!("), ("KingsBalance$World", 136, "msok"), ("KingsBalance$World", 138, "<=>"), ("KingsBalance$World", 134, ")"), ("KingsBalance$World", 127, "&"), ("KingsBalance$World", 118, "|"), ("KingsBalance$World", 89, "ord "), ("KingsBalance$World", 95, "ess "), ("KingsBalance$World", 97, "ake "), ("KingsBalance$World", 78, ";"), ("KingsBalanceModel", 106, "cost "), ("KingsBalanceModel", 108, "word "), ("KingsBalanceModel", 114, "less "), ("KingsBalanceModel", 116, "take ")]
def strLen : List Nat := [4, 4, 10, 1, 2, 4, 3, 1, 1, 1, 4, 4, 4, 1, 5, 5, 5, 5]
def strByt : List (List Int32) := [[99, 119, 108, 116], [111, 115, 116, 32], [48, 49, 50, 51, 52, 53, 54, 55, 56, 57], [32], [33, 40], [109, 115, 111, 107], [60, 61, 62], [41], [38], [124], [111, 114, 100, 32], [101, 115, 115, 32], [97, 107, 101, 32], [59], [99, 111, 115, 116, 32], [119, 111, 114, 100, 32], [108, 101, 115, 115, 32], [116, 97, 107, 101, 32]]
/-- pairs of classes, the one not a kind of the other -/
def ncTab : List (String × String) := [("KingsBalance$Sides", "KingsBalance$Alone"), ("KingsBalance$Web", "KingsBalance$Alone"), ("KingsBalance$League", "KingsBalance$Alone"), ("KingsBalance$Guard", "KingsBalance$Alone"), ("KingsBalance$True", "KingsBalance$Alone"), ("KingsBalance$Standing", "KingsBalance$Alone"), ("KingsBalance$Alone", "KingsBalance$Sides"), ("KingsBalance$Web", "KingsBalance$Sides"), ("KingsBalance$Guard", "KingsBalance$Sides"), ("KingsBalance$True", "KingsBalance$Sides"), ("KingsBalance$Standing", "KingsBalance$Sides"), ("KingsBalance$Sides", "KingsBalance$Web"), ("KingsBalance$Alone", "KingsBalance$Web"), ("KingsBalance$League", "KingsBalance$Web"), ("KingsBalance$Standing", "KingsBalance$Web"), ("KingsBalance$Sides", "KingsBalance$League"), ("KingsBalance$Alone", "KingsBalance$League"), ("KingsBalance$Web", "KingsBalance$League"), ("KingsBalance$Guard", "KingsBalance$League"), ("KingsBalance$True", "KingsBalance$League"), ("KingsBalance$Standing", "KingsBalance$League"), ("KingsBalance$Sides", "KingsBalance$Guard"), ("KingsBalance$Alone", "KingsBalance$Guard"), ("KingsBalance$Web", "KingsBalance$Guard"), ("KingsBalance$League", "KingsBalance$Guard"), ("KingsBalance$True", "KingsBalance$Guard"), ("KingsBalance$Standing", "KingsBalance$Guard"), ("KingsBalance$Sides", "KingsBalance$True"), ("KingsBalance$Alone", "KingsBalance$True"), ("KingsBalance$Web", "KingsBalance$True"), ("KingsBalance$League", "KingsBalance$True"), ("KingsBalance$Guard", "KingsBalance$True"), ("KingsBalance$Standing", "KingsBalance$True")]
def caTab : List (String × String) := [("KingsBalance$League", "KingsBalance$Sides"), ("KingsBalance$Guard", "KingsBalance$Web"), ("KingsBalance$True", "KingsBalance$Web"), ("KingsBalance$Sides", "KingsBalance$Standing"), ("KingsBalance$Alone", "KingsBalance$Standing"), ("KingsBalance$Web", "KingsBalance$Standing"), ("KingsBalance$League", "KingsBalance$Standing"), ("KingsBalance$Guard", "KingsBalance$Standing"), ("KingsBalance$True", "KingsBalance$Standing")]
def nestTab : List (String × Nat × MethodName) := [("KingsBalance$Realm", 47, ⟨"KingsBalance$Tape", "<init>", "()V"⟩), ("KingsBalance$Realm", 54, ⟨"KingsBalance$World", "<init>", "()V"⟩), ("KingsBalance", 27, ⟨"KingsBalance$World", "<init>", "()V"⟩), ("KingsBalance", 34, ⟨"KingsBalance$Ways", "<init>", "()V"⟩)]
/-- T[] is there, by the tables -/
def aoX (t : FieldType) (U : State) : Prop := ∃ (comp c : ClassId) (k : Class), U.vm.findClass t.toString = some comp ∧ (U.vm.classes.findIdx? fun (x : Class) => match x.kind with | .array component _ => comp == component | _ => false) = some c ∧ U.vm.classes[c]? = some k ∧ k.kind = .array comp t ∧ U.vm.findClass ("[" ++ t.toString) = some c
/-- the method of that name is private -/
def PvF (y : MethodName) (U : State) : Prop := ∀ (mk : MethodId) (methM : Method), U.methodNamed? y = some mk → U.vm.method? mk = some methM → methM.isPrivate = true
theorem PvF.moved {y : MethodName} {u U : State} (hvm : u.vm.Alike U.vm) (h : PvF y u) : PvF y U := by
  intro mk methM h1 h2
  have e : U.methodNamed? y = u.methodNamed? y := (show U.methodNamed? y = (u.setVm U.vm).methodNamed? y from rfl).trans (State.methodNamed?_setVm hvm y)
  rw [e] at h1
  rw [hvm.method?] at h2
  exact h mk methM h1 h2
def KF (g : GP) (U : State) (H : Heap) : Prop :=
  va_K (gD g) vwCl (gT g) U ∧ vk_S 18 strLen strByt (gK g) (gV g) (gA g) U H ∧ (∀ (i : Nat) (q : String × Nat × String), strTab[i]? = some q → vk_R q.1 q.2.1 q.2.2 (gK g i) U) ∧
  va_Z "java/lang/String" "COMPACT_STRINGS" "Z" (.int 1) (gA g) U H ∧ va_Zq "jdk/internal/util/Preconditions" "SIOOBE_FORMATTER" "Ljava/util/function/BiFunction;" (gA g) U H ∧
  (∀ q ∈ ncTab, va_Nc q.1 q.2 U) ∧ (∀ q ∈ caTab, va_Nw (.castable q.1 q.2) U) ∧ (∀ q ∈ nestTab, va_Nw (.methodLinkNest q.1 q.2.1 q.2.2 "KingsBalance") U) ∧ va_AO RX5 U ∧ va_AOA .int U ∧ PvF ⟨"KingsBalance$Standing", "gains", "(LKingsBalance$Realm;II)Z"⟩ U
theorem KF.kept {g : GP} {U : State} {H H1 : Heap} (h : KF g U H) (hq : ∀ a : Nat, a < H.size → ¬ gA g a → H1[a]? = H[a]?) : KF g U H1 := by
  obtain ⟨h1, h2, h3, h4, h5, h6⟩ := h
  exact ⟨h1, h2.kept hq, h3, h4.kept hq, h5.kept hq, h6⟩
theorem aoa_idx (vm : Vm) (comp : ClassId) : (vm.bare.classes.findIdx? fun (x : Class) => match x.kind with | .array component _ => component == comp | _ => false) = (vm.classes.findIdx? fun (x : Class) => match x.kind with | .array component _ => component == comp | _ => false) := va_idx_bare vm comp
theorem aoa_moved {t : FieldType} {u U : State} (hvm : u.vm.Alike U.vm) (h : va_AOA t u) : va_AOA t U := by
  unfold va_AOA Cond.before Cond.holds at h ⊢
  simp only [Cond.value] at h ⊢
  have e1 : U.vm.findClass (FieldType.array t).toString = u.vm.findClass (FieldType.array t).toString := hvm.findClass _ _
  have e2 : U.vm.findClass ("[" ++ (FieldType.array t).toString) = u.vm.findClass ("[" ++ (FieldType.array t).toString) := hvm.findClass _ _
  rw [e1, e2]
  cases hc : u.vm.findClass (FieldType.array t).toString with
  | none => rw [hc] at h; exact h
  | some comp =>
    rw [hc] at h
    simp only [Option.bind_some] at h ⊢
    have hi : (U.vm.classes.findIdx? fun (x : Class) => match x.kind with | .array component _ => component == comp | _ => false) = (u.vm.classes.findIdx? fun (x : Class) => match x.kind with | .array component _ => component == comp | _ => false) := by
      refine (va_idx_bare U.vm comp).symm.trans (Eq.trans ?_ (va_idx_bare u.vm comp))
      first | rw [hvm.bare_eq] | rw [← hvm.bare_eq]
    refine (congrArg (fun o : Option Nat => (o.bind (fun c => (U.vm.classes[c]?).map fun (k : Class) => match k.kind with | .array _ ty => decide (ty = FieldType.array t) && decide (u.vm.findClass ("[" ++ (FieldType.array t).toString) = some c) | _ => false) == some true)) hi).trans ?_
    have h' : (((u.vm.classes.findIdx? fun (x : Class) => match x.kind with | .array component _ => component == comp | _ => false)).bind (fun c => (u.vm.classes[c]?).map fun (k : Class) => match k.kind with | .array _ ty => decide (ty = FieldType.array t) && decide (u.vm.findClass ("[" ++ (FieldType.array t).toString) = some c) | _ => false) == some true) = true := h
    generalize (u.vm.classes.findIdx? fun (x : Class) => match x.kind with | .array component _ => component == comp | _ => false) = o at h' ⊢
    cases o with
    | none => exact h'
    | some c =>
      simp only [Option.bind_some] at h' ⊢
      cases hk : u.vm.classes[c]? with
      | none => rw [hk] at h'; simp at h'
      | some k =>
        rw [hk] at h'
        obtain ⟨k', hk', he⟩ := hvm.2.2 _ _ hk
        rw [hk']
        rw [he]
        exact h'
theorem KF.warm {g : GP} {s U : State} {H : Heap} (hW : s.WarmedH U.vm) (h : KF g s H) : KF g U H := by
  obtain ⟨h1, h2, h3, h4, h5, h6, h7, h8, h9, h10, h11⟩ := h
  exact ⟨va_K.moved hW.alike h1, vk_S.moved hW.alike h2, fun i q hq => vk_R.warm hW (h3 i q hq), va_Z.moved hW.alike h4, va_Zq.moved hW.alike h5,
    fun q hq => va_Nc.moved hW.alike (h6 q hq), fun q hq => va_Nw.warmC hW (h7 q hq), fun q hq => va_Nw.warmM hW (h8 q hq), va_AO.moved hW.alike h9, aoa_moved hW.alike h10, PvF.moved hW.alike h11⟩
theorem KF.same {g : GP} {u U : State} {H : Heap} (hv : u.vm = U.vm) (h : KF g u H) : KF g U H := by
  obtain ⟨h1, h2, h3, h4, h5, h6, h7, h8, h9, h10, h11⟩ := h
  have ha : u.vm.Alike U.vm := by rw [hv]; exact Vm.Alike.refl _
  exact ⟨va_K.moved ha h1, vk_S.moved ha h2, fun i q hq => vk_R.same hv.symm (h3 i q hq), va_Z.moved ha h4, va_Zq.moved ha h5,
    fun q hq => va_Nc.moved ha (h6 q hq), fun q hq => va_tabs rfl hv (h7 q hq), fun q hq => va_tabs rfl hv (h8 q hq), va_AO.moved ha h9, aoa_moved ha h10, PvF.moved ha h11⟩
/-- a method: its name, its code, its locals, its answer's type -/
abbrev MI : Type := MethodName × ByteArray × Nat × Option FieldType
def Wds (M : MI) : List Cond := Cond.code M.1 M.2.1 M.2.2.1 M.2.2.2 :: TT
abbrev JT : Type := Program × Launch × Env × Room × State × MethodId × Array Value × List Frame × Method × Code × (State → Prop)
/-- the locals: what is known of them, by place -/
def LH (ls : Array Slot) (nL : Nat) (ll : List (Option Value)) : Prop := ls.size = nL ∧ lv_wf ls ∧ ∀ (i : Nat) (v : Value), ll[i]? = some (some v) → ls[i]? = some (.val v)
def lvl (ll : List (Option Value)) : List (Nat × Value) := (List.range ll.length).filterMap (fun i => (ll[i]?.join).map (fun v => (i, v)))
theorem lvl_mem {ll : List (Option Value)} {q : Nat × Value} : q ∈ lvl ll ↔ ll[q.1]? = some (some q.2) := by
  obtain ⟨j, v⟩ := q
  unfold lvl
  constructor
  · intro h
    obtain ⟨i, -, hi⟩ := List.mem_filterMap.mp h
    cases hx : ll[i]? with
    | none => simp [hx] at hi
    | some o =>
      cases o with
      | none => simp [hx] at hi
      | some w =>
        simp [hx] at hi
        obtain ⟨rfl, rfl⟩ := hi
        exact hx
  · intro h
    refine List.mem_filterMap.mpr ⟨j, List.mem_range.mpr (List.getElem?_eq_some_iff.mp h).1, ?_⟩
    have h : ll[j]? = some (some v) := h
    simp [h]
theorem LH.has {ls : Array Slot} {nL : Nat} {ll : List (Option Value)} (h : LH ls nL ll) : lv_has ls nL (lvl ll) := ⟨h.1, h.2.1, fun q hq => h.2.2 _ _ (lvl_mem.mp hq)⟩
theorem LH.of {ls : Array Slot} {nL : Nat} {l : List (Nat × Value)} {ll : List (Option Value)} (h : lv_has ls nL l) (hl : ∀ (i : Nat) (v : Value), ll[i]? = some (some v) → (i, v) ∈ l) : LH ls nL ll := ⟨h.1, h.2.1, fun i v hv => h.2.2 _ (hl i v hv)⟩
theorem LH.less {ls : Array Slot} {nL : Nat} {ll ll' : List (Option Value)} (h : LH ls nL ll) (hl : ∀ (i : Nat) (v : Value), ll'[i]? = some (some v) → ll[i]? = some (some v)) : LH ls nL ll' := ⟨h.1, h.2.1, fun i v hv => h.2.2 _ _ (hl i v hv)⟩
/-- no long stands right before the place -/
def c2 (ll : List (Option Value)) : Nat → Bool
  | 0 => true
  | j + 1 => match ll[j]? with
    | some (some v) => !(v.category == 2)
    | _ => true
theorem LH.st {ls' : Array Slot} {nL i : Nat} {ll : List (Option Value)} {x : Value} (hc : c2 ll i = true) (h : lv_has ls' nL ((i, x) :: (lvl ll).filter (fun q => !(q.1 == i) && !(q.1 + 1 == i && q.2.category == 2)))) : LH ls' nL (ll.set i (some x)) := by
  refine LH.of h fun j v hv => ?_
  by_cases hj : j = i
  · subst hj
    by_cases hl : j < ll.length
    · rw [List.getElem?_set_self hl] at hv
      cases hv
      exact List.mem_cons_self
    · rw [List.getElem?_eq_none (by rw [List.length_set]; omega)] at hv
      cases hv
  · rw [List.getElem?_set_ne (Ne.symm hj)] at hv
    refine List.mem_cons_of_mem _ (List.mem_filter.mpr ⟨lvl_mem.mpr hv, ?_⟩)
    have h1 : (j == i) = false := by simp [hj]
    simp only [h1, Bool.not_false, Bool.true_and]
    by_cases h2 : j + 1 = i
    · subst h2
      simp only [c2, hv] at hc
      simpa using hc
    · simp [h2]
theorem LH.st2 {ls' : Array Slot} {nL i : Nat} {ll : List (Option Value)} {x : Value} (hc : c2 ll i = true) (h : lv_has ls' nL ((i, x) :: (lvl ll).filter (fun q => !(q.1 == i) && (!(q.1 == i + 1) && !(q.1 + 1 == i && q.2.category == 2))))) : LH ls' nL ((ll.set i (some x)).set (i + 1) none) := by
  refine LH.of h fun j v hv => ?_
  by_cases hk : j = i + 1
  · subst hk
    by_cases hl : i + 1 < (ll.set i (some x)).length
    · rw [List.getElem?_set_self hl] at hv
      cases hv
    · rw [List.getElem?_eq_none (by rw [List.length_set]; omega)] at hv
      cases hv
  · rw [List.getElem?_set_ne (Ne.symm hk)] at hv
    by_cases hj : j = i
    · subst hj
      by_cases hl : j < ll.length
      · rw [List.getElem?_set_self hl] at hv
        cases hv
        exact List.mem_cons_self
      · rw [List.getElem?_eq_none (by rw [List.length_set]; omega)] at hv
        cases hv
    · rw [List.getElem?_set_ne (Ne.symm hj)] at hv
      refine List.mem_cons_of_mem _ (List.mem_filter.mpr ⟨lvl_mem.mpr hv, ?_⟩)
      have h1 : (j == i) = false := by simp [hj]
      have h3 : (j == i + 1) = false := by simp [hk]
      simp only [h1, h3, Bool.not_false, Bool.true_and]
      by_cases h2 : j + 1 = i
      · subst h2
        simp only [c2, hv] at hc
        simpa using hc
      · simp [h2]
/-- the locals at a method's entry -/
def enL (av : List Value) (n : Nat) : List (Option Value) := (List.range n).map (fun i => ((lv_args 0 av).find? (fun q => q.1 == i)).map (fun q => q.2))
theorem LH.entry (av : List Value) {n : Nat} (h : (lg_sl av).length ≤ n) : LH ((lg_sl av ++ List.replicate (n - (lg_sl av).length) Slot.unset).toArray) n (enL av n) := by
  refine LH.of (lv_entry av h) fun i v hv => ?_
  unfold enL at hv
  rw [List.getElem?_map] at hv
  cases hx : (List.range n)[i]? with
  | none => simp [hx] at hv
  | some k =>
    have hk : k = i := by
      have := List.getElem?_eq_some_iff.mp hx
      obtain ⟨h1, h2⟩ := this
      rw [List.getElem_range] at h2
      exact h2.symm
    subst hk
    rw [hx] at hv
    simp only [Option.map_some, Option.some.injEq] at hv
    cases hy : (lv_args 0 av).find? (fun q => q.1 == k) with
    | none => simp [hy] at hv
    | some q =>
      rw [hy] at hv
      simp only [Option.map_some, Option.some.injEq] at hv
      have h1 := List.mem_of_find?_eq_some hy
      have h2 := List.find?_some hy
      simp at h2
      rw [← hv, ← h2]
      exact h1
/-- what is known of the frame that runs -/
def Cx (g : GP) (M : MI) (p : Program) (s : State) (m : MethodId) (args : Array Value) (meth : Method) (c : Code) : Prop :=
  p.tables.exec = Jvm.exec ∧ c.code = M.2.1 ∧ c.maxLocals = M.2.2.1 ∧ s.vm.findClass M.1.cls = some m.cls ∧ (∀ w ∈ TT, w.before args s = true) ∧ meth.sig.returnType = M.2.2.2 ∧ meth.locks = false ∧ meth.name = M.1.name ∧ KF g s s.heap ∧ gb g ≤ s.heap.size
/-- THE JUDGEMENT: at pc, with locals ll, operands st, over the cells ws (cl cells of sl slots made so far), the frame J comes to its Q -/
def Z (g : GP) (M : MI) (J : JT) (cl sl pc : Nat) (ll : List (Option Value)) (st : List Value) (ws : va_W) : Prop :=
  match J with
  | (p, l, e, R, s, m, args, below, meth, c, Q) => Cx g M p s m args meth c → ∀ (H : Heap) (locs : List Loc) (ls : Array Slot), va_P (gD g) vwCl ws H → va_D (gA g) ws → va_S (gA g) s.heap H locs → LH ls M.2.2.1 ll → W p l e R s m args below meth c H locs cl sl Q (F0 m pc ls st)
abbrev rmD (d mc ms : Nat) : Room := { frames := d, cells := mc, slots := ms, locals := 40 * d }
def CPc (g : GP) (av : List Value) (ws : va_W) : Array Value → State → Prop := fun v U => v = av.toArray ∧ KF g U U.heap ∧ gb g ≤ U.heap.size ∧ va_P (gD g) vwCl ws U.heap ∧ va_D (gA g) ws
def CQc (g : GP) (Post : Option Value → va_W → Prop) : Array Value → State → Outcome → State → Prop := fun _ st oc t => ∃ (r : Option Value) (ws' : va_W), oc = .returned r ∧ Post r ws' ∧ va_P (gD g) vwCl ws' t.heap ∧ va_D (gA g) ws' ∧ va_F (gA g) st t
/-- A CONTRACT: from the cells ws with arguments av the method comes back, and Post holds of its answer and the cells then -/
def Ct (g : GP) (d mc ms : Nat) (M : MI) (av : List Value) (ws : va_W) (Post : Option Value → va_W → Prop) : Prop :=
  ∀ l : Launch, Met l M.1 (Wds M) (rmD d mc ms) (CPc g av ws) (CQc g Post) mc ms (gA g)
/-- the frame is a method's: its room, its end -/
def JX (g : GP) (d mc ms : Nat) (Post : Option Value → va_W → Prop) (J : JT) : Prop :=
  match J with
  | (_, _, _, R, s, _, args, below, _, _, Q) => R = rmD d mc ms ∧ Q = MQ below (CQc g Post) args s mc ms (gA g)
theorem CPc.blind (g : GP) (av : List Value) (ws : va_W) : FrameBlind (CPc g av ws) := fun a U gg mk h => ⟨h.1, KF.same (u := U) (U := U.calling gg mk a) rfl h.2.1, h.2.2.1, h.2.2.2.1, h.2.2.2.2⟩
theorem Ct.of {g : GP} {d mc ms : Nat} {M : MI} {av : List Value} {ws : va_W} {Post : Option Value → va_W → Prop} (hpl : plainName M.1.cls = true) (hav : (lg_sl av).length ≤ M.2.2.1)
    (body : ∀ J : JT, JX g d mc ms Post J → Z g M J 0 0 0 (enL av M.2.2.1) [] ws) : Ct g d mc ms M av ws Post := by
  intro l
  refine Met.ofW (cc := M.2.1) (maxL := M.2.2.1) (ret := M.2.2.2) hpl rfl ?_
  intro p e s m args below meth c s₁ B hml hv
  obtain ⟨rfl, hK, hgb, hP, hD⟩ := hv
  have hts := atoms_spec (ws := Wds M) B.pre
  have hown : s.vm.findClass M.1.cls = some m.cls := findClass_of_methodNamed B.named
  rw [lg_entry_eq]
  exact body (p, l, e, rmD d mc ms, s, m, av.toArray, below, meth, c, MQ below (CQc g Post) av.toArray s mc ms (gA g)) ⟨rfl, rfl⟩
    ⟨B.exec, B.bytes, hml, hown, fun w hw => hts w (List.mem_cons_of_mem _ hw), B.returns, B.notSynchronized, (name_of_methodNamed B.named B.method).1, hK, hgb⟩ s.heap [] _ hP hD va_S.rf (LH.entry av hav)
section ZR
variable {g : GP} {M : MI} {J : JT} {cl sl pc n : Nat} {ll : List (Option Value)} {st : List Value} {ws : va_W}
theorem Z.mk1 {st' : List Value} {pc' : Nat} (h : ∀ (p : Program) (l : Launch) (e : Env) (R : Room) (s : State) (m : MethodId) (args : Array Value) (below : List Frame) (meth : Method) (c : Code) (Q : State → Prop) (H : Heap) (locs : List Loc) (ls : Array Slot), p.tables.exec = Jvm.exec → c.code = M.2.1 → LH ls M.2.2.1 ll → W p l e R s m args below meth c H locs cl sl Q (F0 m pc' ls st') → W p l e R s m args below meth c H locs cl sl Q (F0 m pc ls st))
    (k : Z g M J cl sl pc' ll st' ws) : Z g M J cl sl pc ll st ws := by
  obtain ⟨p, l, e, R, s, m, args, below, meth, c, Q⟩ := J
  intro C H locs ls hP hD hS hL
  exact h p l e R s m args below meth c Q H locs ls C.1 C.2.1 hL (k C H locs ls hP hD hS hL)
theorem Z.wk {ll' : List (Option Value)} (hl : ∀ (i : Nat) (v : Value), ll'[i]? = some (some v) → ll[i]? = some (some v)) (k : Z g M J cl sl pc ll' st ws) : Z g M J cl sl pc ll st ws := by
  obtain ⟨p, l, e, R, s, m, args, below, meth, c, Q⟩ := J
  intro C H locs ls hP hD hS hL
  exact k C H locs ls hP hD hS (hL.less hl)
theorem Z.wd {k1 k2 : Nat} (h1 : cl ≤ k1) (h2 : sl ≤ k2) (k : Z g M J k1 k2 pc ll st ws) : Z g M J cl sl pc ll st ws := by
  obtain ⟨p, l, e, R, s, m, args, below, meth, c, Q⟩ := J
  intro C H locs ls hP hD hS hL
  exact W.widen h1 h2 (k C H locs ls hP hD hS hL)
/-- fewer known locals: by a Bool of the two lists' shapes -/
theorem Z.fg (ks : List Nat) (k : Z g M J cl sl pc (ks.foldl (fun l i => l.set i none) ll) st ws) : Z g M J cl sl pc ll st ws := by
  refine Z.wk (fun i v => ?_) k
  have key : ∀ (ks : List Nat) (l : List (Option Value)), (ks.foldl (fun l i => l.set i none) l)[i]? = some (some v) → l[i]? = some (some v) := by
    intro ks
    induction ks with
    | nil => exact fun l h => h
    | cons a ks ih =>
      intro l h
      have h1 := ih _ h
      by_cases ha : i = a
      · subst ha
        by_cases hl : i < l.length
        · rw [List.getElem?_set_self hl] at h1
          cases h1
        · rw [List.getElem?_eq_none (by rw [List.length_set]; omega)] at h1
          cases h1
      · rwa [List.getElem?_set_ne (Ne.symm ha)] at h1
  exact key ks ll
theorem Z.iconst {z : Int} {v : Int32} (d : decode M.2.1 pc = .ok (.iconst z, 1)) (hp : pc + 1 = n) (hv : Int32.ofInt z = v) (k : Z g M J cl sl n ll (.int v :: st) ws) : Z g M J cl sl pc ll st ws := by
  subst hp; exact Z.mk1 (fun p l e R s m args below meth c Q H locs ls hx hb hL kk => lv_iconst hx hb d hv kk) k
theorem Z.bipush {z : Int} {v : Int32} (d : decode M.2.1 pc = .ok (.bipush z, 2)) (hp : pc + 2 = n) (hv : (Int8.ofInt z).toInt32 = v) (k : Z g M J cl sl n ll (.int v :: st) ws) : Z g M J cl sl pc ll st ws := by
  subst hp; exact Z.mk1 (fun p l e R s m args below meth c Q H locs ls hx hb hL kk => lv_bipush hx hb d hv kk) k
theorem Z.sipush {z : Int} {v : Int32} (d : decode M.2.1 pc = .ok (.sipush z, 3)) (hp : pc + 3 = n) (hv : (Int16.ofInt z).toInt32 = v) (k : Z g M J cl sl n ll (.int v :: st) ws) : Z g M J cl sl pc ll st ws := by
  subst hp; exact Z.mk1 (fun p l e R s m args below meth c Q H locs ls hx hb hL kk => lv_sipush hx hb d hv kk) k
theorem Z.lconst {z : Fin 2} {v : Int64} (d : decode M.2.1 pc = .ok (.lconst z, 1)) (hp : pc + 1 = n) (hv : Int64.ofNat (z : Nat) = v) (k : Z g M J cl sl n ll (.long v :: st) ws) : Z g M J cl sl pc ll st ws := by
  subst hp; exact Z.mk1 (fun p l e R s m args below meth c Q H locs ls hx hb hL kk => lv_lconst hx hb d hv kk) k
theorem Z.iadd {x y : Int32} (d : decode M.2.1 pc = .ok (.iadd, 1)) (hp : pc + 1 = n) (k : Z g M J cl sl n ll (.int (x + y) :: st) ws) : Z g M J cl sl pc ll (.int y :: .int x :: st) ws := by
  subst hp; exact Z.mk1 (fun p l e R s m args below meth c Q H locs ls hx hb hL kk => lv_iadd hx hb d  kk) k
theorem Z.isub {x y : Int32} (d : decode M.2.1 pc = .ok (.isub, 1)) (hp : pc + 1 = n) (k : Z g M J cl sl n ll (.int (x - y) :: st) ws) : Z g M J cl sl pc ll (.int y :: .int x :: st) ws := by
  subst hp; exact Z.mk1 (fun p l e R s m args below meth c Q H locs ls hx hb hL kk => lv_isub hx hb d  kk) k
theorem Z.imul {x y : Int32} (d : decode M.2.1 pc = .ok (.imul, 1)) (hp : pc + 1 = n) (k : Z g M J cl sl n ll (.int (x * y) :: st) ws) : Z g M J cl sl pc ll (.int y :: .int x :: st) ws := by
  subst hp; exact Z.mk1 (fun p l e R s m args below meth c Q H locs ls hx hb hL kk => lv_imul hx hb d  kk) k
theorem Z.iand {x y : Int32} (d : decode M.2.1 pc = .ok (.iand, 1)) (hp : pc + 1 = n) (k : Z g M J cl sl n ll (.int (x &&& y) :: st) ws) : Z g M J cl sl pc ll (.int y :: .int x :: st) ws := by
  subst hp; exact Z.mk1 (fun p l e R s m args below meth c Q H locs ls hx hb hL kk => lv_iand hx hb d  kk) k
theorem Z.ior {x y : Int32} (d : decode M.2.1 pc = .ok (.ior, 1)) (hp : pc + 1 = n) (k : Z g M J cl sl n ll (.int (x ||| y) :: st) ws) : Z g M J cl sl pc ll (.int y :: .int x :: st) ws := by
  subst hp; exact Z.mk1 (fun p l e R s m args below meth c Q H locs ls hx hb hL kk => lv_ior hx hb d  kk) k
theorem Z.ixor {x y : Int32} (d : decode M.2.1 pc = .ok (.ixor, 1)) (hp : pc + 1 = n) (k : Z g M J cl sl n ll (.int (x ^^^ y) :: st) ws) : Z g M J cl sl pc ll (.int y :: .int x :: st) ws := by
  subst hp; exact Z.mk1 (fun p l e R s m args below meth c Q H locs ls hx hb hL kk => lv_ixor hx hb d  kk) k
theorem Z.ishl {x y : Int32} (d : decode M.2.1 pc = .ok (.ishl, 1)) (hp : pc + 1 = n) (k : Z g M J cl sl n ll (.int (x <<< (y &&& 31)) :: st) ws) : Z g M J cl sl pc ll (.int y :: .int x :: st) ws := by
  subst hp; exact Z.mk1 (fun p l e R s m args below meth c Q H locs ls hx hb hL kk => lv_ishl hx hb d  kk) k
theorem Z.ishr {x y : Int32} (d : decode M.2.1 pc = .ok (.ishr, 1)) (hp : pc + 1 = n) (k : Z g M J cl sl n ll (.int (x >>> (y &&& 31)) :: st) ws) : Z g M J cl sl pc ll (.int y :: .int x :: st) ws := by
  subst hp; exact Z.mk1 (fun p l e R s m args below meth c Q H locs ls hx hb hL kk => lv_ishr hx hb d  kk) k
theorem Z.idiv {x y : Int32} (d : decode M.2.1 pc = .ok (.idiv, 1)) (hp : pc + 1 = n) (hne : ¬ y = 0) (k : Z g M J cl sl n ll (.int (x / y) :: st) ws) : Z g M J cl sl pc ll (.int y :: .int x :: st) ws := by
  subst hp; exact Z.mk1 (fun p l e R s m args below meth c Q H locs ls hx hb hL kk => lv_idiv hx hb d hne kk) k
theorem Z.irem {x y : Int32} (d : decode M.2.1 pc = .ok (.irem, 1)) (hp : pc + 1 = n) (hne : ¬ y = 0) (k : Z g M J cl sl n ll (.int (x - x / y * y) :: st) ws) : Z g M J cl sl pc ll (.int y :: .int x :: st) ws := by
  subst hp; exact Z.mk1 (fun p l e R s m args below meth c Q H locs ls hx hb hL kk => lv_irem hx hb d hne kk) k
theorem Z.ineg {x : Int32} (d : decode M.2.1 pc = .ok (.ineg, 1)) (hp : pc + 1 = n) (k : Z g M J cl sl n ll (.int (-x) :: st) ws) : Z g M J cl sl pc ll (.int x :: st) ws := by
  subst hp; exact Z.mk1 (fun p l e R s m args below meth c Q H locs ls hx hb hL kk => lv_ineg hx hb d  kk) k
theorem Z.ladd {x y : Int64} (d : decode M.2.1 pc = .ok (.ladd, 1)) (hp : pc + 1 = n) (k : Z g M J cl sl n ll (.long (x + y) :: st) ws) : Z g M J cl sl pc ll (.long y :: .long x :: st) ws := by
  subst hp; exact Z.mk1 (fun p l e R s m args below meth c Q H locs ls hx hb hL kk => lv_ladd hx hb d  kk) k
theorem Z.lsub {x y : Int64} (d : decode M.2.1 pc = .ok (.lsub, 1)) (hp : pc + 1 = n) (k : Z g M J cl sl n ll (.long (x - y) :: st) ws) : Z g M J cl sl pc ll (.long y :: .long x :: st) ws := by
  subst hp; exact Z.mk1 (fun p l e R s m args below meth c Q H locs ls hx hb hL kk => lv_lsub hx hb d  kk) k
theorem Z.lmul {x y : Int64} (d : decode M.2.1 pc = .ok (.lmul, 1)) (hp : pc + 1 = n) (k : Z g M J cl sl n ll (.long (x * y) :: st) ws) : Z g M J cl sl pc ll (.long y :: .long x :: st) ws := by
  subst hp; exact Z.mk1 (fun p l e R s m args below meth c Q H locs ls hx hb hL kk => lv_lmul hx hb d  kk) k
theorem Z.land {x y : Int64} (d : decode M.2.1 pc = .ok (.land, 1)) (hp : pc + 1 = n) (k : Z g M J cl sl n ll (.long (x &&& y) :: st) ws) : Z g M J cl sl pc ll (.long y :: .long x :: st) ws := by
  subst hp; exact Z.mk1 (fun p l e R s m args below meth c Q H locs ls hx hb hL kk => lv_land hx hb d  kk) k
theorem Z.lor {x y : Int64} (d : decode M.2.1 pc = .ok (.lor, 1)) (hp : pc + 1 = n) (k : Z g M J cl sl n ll (.long (x ||| y) :: st) ws) : Z g M J cl sl pc ll (.long y :: .long x :: st) ws := by
  subst hp; exact Z.mk1 (fun p l e R s m args below meth c Q H locs ls hx hb hL kk => lv_lor hx hb d  kk) k
theorem Z.ldiv {x y : Int64} (d : decode M.2.1 pc = .ok (.ldiv, 1)) (hp : pc + 1 = n) (hne : ¬ y = 0) (k : Z g M J cl sl n ll (.long (x / y) :: st) ws) : Z g M J cl sl pc ll (.long y :: .long x :: st) ws := by
  subst hp; exact Z.mk1 (fun p l e R s m args below meth c Q H locs ls hx hb hL kk => lv_ldiv hx hb d hne kk) k
theorem Z.i2l {x : Int32} {v : Int64} (d : decode M.2.1 pc = .ok (.i2l, 1)) (hp : pc + 1 = n) (hv : x.toInt64 = v) (k : Z g M J cl sl n ll (.long v :: st) ws) : Z g M J cl sl pc ll (.int x :: st) ws := by
  subst hp; exact Z.mk1 (fun p l e R s m args below meth c Q H locs ls hx hb hL kk => lv_i2l hx hb d hv kk) k
theorem Z.l2i {x : Int64} {v : Int32} (d : decode M.2.1 pc = .ok (.l2i, 1)) (hp : pc + 1 = n) (hv : x.toInt32 = v) (k : Z g M J cl sl n ll (.int v :: st) ws) : Z g M J cl sl pc ll (.long x :: st) ws := by
  subst hp; exact Z.mk1 (fun p l e R s m args below meth c Q H locs ls hx hb hL kk => lv_l2i hx hb d hv kk) k
theorem Z.i2c {x : Int32} {v : Int32} (d : decode M.2.1 pc = .ok (.i2c, 1)) (hp : pc + 1 = n) (hv : (x.toUInt32 % 65536).toInt32 = v) (k : Z g M J cl sl n ll (.int v :: st) ws) : Z g M J cl sl pc ll (.int x :: st) ws := by
  subst hp; exact Z.mk1 (fun p l e R s m args below meth c Q H locs ls hx hb hL kk => lv_i2c hx hb d hv kk) k
theorem Z.iushr {x y v : Int32} (d : decode M.2.1 pc = .ok (.iushr, 1)) (hp : pc + 1 = n) (hv : (x.toUInt32 >>> (y.toUInt32 &&& Int32.toUInt32 31)).toInt32 = v) (k : Z g M J cl sl n ll (.int v :: st) ws) : Z g M J cl sl pc ll (.int y :: .int x :: st) ws := by
  subst hp; exact Z.mk1 (fun p l e R s m args below meth c Q H locs ls hx hb hL kk => lv_iushr hx hb d hv kk) k
theorem Z.lushr {x v : Int64} {y : Int32} (d : decode M.2.1 pc = .ok (.lushr, 1)) (hp : pc + 1 = n) (hv : (x.toUInt64 >>> (y.toInt64.toUInt64 &&& Int64.toUInt64 63)).toInt64 = v) (k : Z g M J cl sl n ll (.long v :: st) ws) : Z g M J cl sl pc ll (.int y :: .long x :: st) ws := by
  subst hp; exact Z.mk1 (fun p l e R s m args below meth c Q H locs ls hx hb hL kk => lv_lushr hx hb d hv kk) k
theorem Z.lshl {x v : Int64} {y : Int32} (d : decode M.2.1 pc = .ok (.lshl, 1)) (hp : pc + 1 = n) (hv : x <<< (y.toInt64 &&& 63) = v) (k : Z g M J cl sl n ll (.long v :: st) ws) : Z g M J cl sl pc ll (.int y :: .long x :: st) ws := by
  subst hp; exact Z.mk1 (fun p l e R s m args below meth c Q H locs ls hx hb hL kk => lv_lshl hx hb d hv kk) k
theorem Z.lshr {x v : Int64} {y : Int32} (d : decode M.2.1 pc = .ok (.lshr, 1)) (hp : pc + 1 = n) (hv : x >>> (y.toInt64 &&& 63) = v) (k : Z g M J cl sl n ll (.long v :: st) ws) : Z g M J cl sl pc ll (.int y :: .long x :: st) ws := by
  subst hp; exact Z.mk1 (fun p l e R s m args below meth c Q H locs ls hx hb hL kk => lv_lshr hx hb d hv kk) k
theorem Z.dup {va : Value} (d : decode M.2.1 pc = .ok (.dup, 1)) (hp : pc + 1 = n) (hva : va.category = 1) (k : Z g M J cl sl n ll (va :: va :: st) ws) : Z g M J cl sl pc ll (va :: st) ws := by
  subst hp; exact Z.mk1 (fun p l e R s m args below meth c Q H locs ls hx hb hL kk => lv_dup hx hb d hva kk) k
theorem Z.pop {va : Value} (d : decode M.2.1 pc = .ok (.pop, 1)) (hp : pc + 1 = n) (hva : va.category = 1) (k : Z g M J cl sl n ll st ws) : Z g M J cl sl pc ll (va :: st) ws := by
  subst hp; exact Z.mk1 (fun p l e R s m args below meth c Q H locs ls hx hb hL kk => lv_pop hx hb d hva kk) k
theorem Z.dup2 {va vb : Value} (d : decode M.2.1 pc = .ok (.dup2, 1)) (hp : pc + 1 = n) (hva : va.category = 1) (hvb : vb.category = 1) (k : Z g M J cl sl n ll (va :: vb :: va :: vb :: st) ws) : Z g M J cl sl pc ll (va :: vb :: st) ws := by
  subst hp; exact Z.mk1 (fun p l e R s m args below meth c Q H locs ls hx hb hL kk => lv_dup2_11 hx hb d hva hvb kk) k
theorem Z.iload_n {i : Fin 4} {x : Int32} (d : decode M.2.1 pc = .ok (.iload_n i, 1)) (hp : pc + 1 = n) (hl : ll[(i : Nat)]? = some (some (.int x))) (k : Z g M J cl sl n ll (.int x :: st) ws) : Z g M J cl sl pc ll st ws := by
  subst hp; exact Z.mk1 (fun p l e R s m args below meth c Q H locs ls hx hb hL kk => lv_iload_n hx hb d rfl (hL.2.2 _ _ hl) kk) k
theorem Z.iload {i : Nat} {x : Int32} (d : decode M.2.1 pc = .ok (.iload i, 2)) (hp : pc + 2 = n) (hl : ll[i]? = some (some (.int x))) (k : Z g M J cl sl n ll (.int x :: st) ws) : Z g M J cl sl pc ll st ws := by
  subst hp; exact Z.mk1 (fun p l e R s m args below meth c Q H locs ls hx hb hL kk => lv_iload hx hb d (hL.2.2 _ _ hl) kk) k
theorem Z.lload_n {i : Fin 4} {x : Int64} (d : decode M.2.1 pc = .ok (.lload_n i, 1)) (hp : pc + 1 = n) (hl : ll[(i : Nat)]? = some (some (.long x))) (k : Z g M J cl sl n ll (.long x :: st) ws) : Z g M J cl sl pc ll st ws := by
  subst hp; exact Z.mk1 (fun p l e R s m args below meth c Q H locs ls hx hb hL kk => lv_lload_n hx hb d rfl (hL.2.2 _ _ hl) kk) k
theorem Z.lload {i : Nat} {x : Int64} (d : decode M.2.1 pc = .ok (.lload i, 2)) (hp : pc + 2 = n) (hl : ll[i]? = some (some (.long x))) (k : Z g M J cl sl n ll (.long x :: st) ws) : Z g M J cl sl pc ll st ws := by
  subst hp; exact Z.mk1 (fun p l e R s m args below meth c Q H locs ls hx hb hL kk => lv_lload hx hb d (hL.2.2 _ _ hl) kk) k
theorem Z.aload_n {i : Fin 4} {x : Nat} (d : decode M.2.1 pc = .ok (.aload_n i, 1)) (hp : pc + 1 = n) (hl : ll[(i : Nat)]? = some (some (.ref x))) (k : Z g M J cl sl n ll (.ref x :: st) ws) : Z g M J cl sl pc ll st ws := by
  subst hp; exact Z.mk1 (fun p l e R s m args below meth c Q H locs ls hx hb hL kk => lv_aload_n hx hb d rfl (hL.2.2 _ _ hl) kk) k
theorem Z.aload {i : Nat} {x : Nat} (d : decode M.2.1 pc = .ok (.aload i, 2)) (hp : pc + 2 = n) (hl : ll[i]? = some (some (.ref x))) (k : Z g M J cl sl n ll (.ref x :: st) ws) : Z g M J cl sl pc ll st ws := by
  subst hp; exact Z.mk1 (fun p l e R s m args below meth c Q H locs ls hx hb hL kk => lv_aload hx hb d (hL.2.2 _ _ hl) kk) k
theorem Z.aload_nN {i : Fin 4} (d : decode M.2.1 pc = .ok (.aload_n i, 1)) (hp : pc + 1 = n) (hl : ll[(i : Nat)]? = some (some .null)) (k : Z g M J cl sl n ll (.null :: st) ws) : Z g M J cl sl pc ll st ws := by
  subst hp; exact Z.mk1 (fun p l e R s m args below meth c Q H locs ls hx hb hL kk => lv_aload_nN hx hb d rfl (hL.2.2 _ _ hl) kk) k
theorem Z.aloadN {i : Nat} (d : decode M.2.1 pc = .ok (.aload i, 2)) (hp : pc + 2 = n) (hl : ll[i]? = some (some .null)) (k : Z g M J cl sl n ll (.null :: st) ws) : Z g M J cl sl pc ll st ws := by
  subst hp; exact Z.mk1 (fun p l e R s m args below meth c Q H locs ls hx hb hL kk => lv_aloadN hx hb d (hL.2.2 _ _ hl) kk) k
theorem Z.mks {st' : List Value} {pc' : Nat} {ll' : List (Option Value)} (h : ∀ (p : Program) (l : Launch) (e : Env) (R : Room) (s : State) (m : MethodId) (args : Array Value) (below : List Frame) (meth : Method) (c : Code) (Q : State → Prop) (H : Heap) (locs : List Loc) (ls : Array Slot), p.tables.exec = Jvm.exec → c.code = M.2.1 → LH ls M.2.2.1 ll → (∀ ls' : Array Slot, LH ls' M.2.2.1 ll' → W p l e R s m args below meth c H locs cl sl Q (F0 m pc' ls' st')) → W p l e R s m args below meth c H locs cl sl Q (F0 m pc ls st))
    (k : Z g M J cl sl pc' ll' st' ws) : Z g M J cl sl pc ll st ws := by
  obtain ⟨p, l, e, R, s, m, args, below, meth, c, Q⟩ := J
  intro C H locs ls hP hD hS hL
  exact h p l e R s m args below meth c Q H locs ls C.1 C.2.1 hL (fun ls' hL' => k C H locs ls' hP hD hS hL')
theorem Z.istore_n {i : Fin 4} {x : Int32} (d : decode M.2.1 pc = .ok (.istore_n i, 1)) (hp : pc + 1 = n) (hn : (i : Nat) < M.2.2.1) (hc : c2 ll (i : Nat) = true) (k : Z g M J cl sl n (ll.set (i : Nat) (some (.int x))) st ws) : Z g M J cl sl pc ll (.int x :: st) ws := by
  subst hp; exact Z.mks (fun p l e R s m args below meth c Q H locs ls hx hb hL kk => lv_istore_n hx hb d rfl hL.has hn rfl (fun ls' h' => kk ls' (LH.st hc h'))) k
theorem Z.istore {i : Nat} {x : Int32} (d : decode M.2.1 pc = .ok (.istore i, 2)) (hp : pc + 2 = n) (hn : (i : Nat) < M.2.2.1) (hc : c2 ll (i : Nat) = true) (k : Z g M J cl sl n (ll.set (i : Nat) (some (.int x))) st ws) : Z g M J cl sl pc ll (.int x :: st) ws := by
  subst hp; exact Z.mks (fun p l e R s m args below meth c Q H locs ls hx hb hL kk => lv_istore hx hb d hL.has hn rfl (fun ls' h' => kk ls' (LH.st hc h'))) k
theorem Z.astore_n {i : Fin 4} {x : Nat} (d : decode M.2.1 pc = .ok (.astore_n i, 1)) (hp : pc + 1 = n) (hn : (i : Nat) < M.2.2.1) (hc : c2 ll (i : Nat) = true) (k : Z g M J cl sl n (ll.set (i : Nat) (some (.ref x))) st ws) : Z g M J cl sl pc ll (.ref x :: st) ws := by
  subst hp; exact Z.mks (fun p l e R s m args below meth c Q H locs ls hx hb hL kk => lv_astore_n hx hb d rfl hL.has hn rfl (fun ls' h' => kk ls' (LH.st hc h'))) k
theorem Z.astore {i : Nat} {x : Nat} (d : decode M.2.1 pc = .ok (.astore i, 2)) (hp : pc + 2 = n) (hn : (i : Nat) < M.2.2.1) (hc : c2 ll (i : Nat) = true) (k : Z g M J cl sl n (ll.set (i : Nat) (some (.ref x))) st ws) : Z g M J cl sl pc ll (.ref x :: st) ws := by
  subst hp; exact Z.mks (fun p l e R s m args below meth c Q H locs ls hx hb hL kk => lv_astore hx hb d hL.has hn rfl (fun ls' h' => kk ls' (LH.st hc h'))) k
theorem Z.astore_nN {i : Fin 4} (d : decode M.2.1 pc = .ok (.astore_n i, 1)) (hp : pc + 1 = n) (hn : (i : Nat) < M.2.2.1) (hc : c2 ll (i : Nat) = true) (k : Z g M J cl sl n (ll.set (i : Nat) (some (.null))) st ws) : Z g M J cl sl pc ll (.null :: st) ws := by
  subst hp; exact Z.mks (fun p l e R s m args below meth c Q H locs ls hx hb hL kk => lv_astore_nN hx hb d rfl hL.has hn rfl (fun ls' h' => kk ls' (LH.st hc h'))) k
theorem Z.astoreN {i : Nat} (d : decode M.2.1 pc = .ok (.astore i, 2)) (hp : pc + 2 = n) (hn : (i : Nat) < M.2.2.1) (hc : c2 ll (i : Nat) = true) (k : Z g M J cl sl n (ll.set (i : Nat) (some (.null))) st ws) : Z g M J cl sl pc ll (.null :: st) ws := by
  subst hp; exact Z.mks (fun p l e R s m args below meth c Q H locs ls hx hb hL kk => lv_astoreN hx hb d hL.has hn rfl (fun ls' h' => kk ls' (LH.st hc h'))) k
theorem Z.lstore_n {i : Fin 4} {x : Int64} (d : decode M.2.1 pc = .ok (.lstore_n i, 1)) (hp : pc + 1 = n) (hn : (i : Nat) + 1 < M.2.2.1) (hc : c2 ll (i : Nat) = true) (k : Z g M J cl sl n ((ll.set (i : Nat) (some (.long x))).set ((i : Nat) + 1) none) st ws) : Z g M J cl sl pc ll (.long x :: st) ws := by
  subst hp; exact Z.mks (fun p l e R s m args below meth c Q H locs ls hx hb hL kk => lv_lstore_n hx hb d rfl hL.has hn rfl (fun ls' h' => kk ls' (LH.st2 hc h'))) k
theorem Z.lstore {i : Nat} {x : Int64} (d : decode M.2.1 pc = .ok (.lstore i, 2)) (hp : pc + 2 = n) (hn : (i : Nat) + 1 < M.2.2.1) (hc : c2 ll (i : Nat) = true) (k : Z g M J cl sl n ((ll.set (i : Nat) (some (.long x))).set ((i : Nat) + 1) none) st ws) : Z g M J cl sl pc ll (.long x :: st) ws := by
  subst hp; exact Z.mks (fun p l e R s m args below meth c Q H locs ls hx hb hL kk => lv_lstore hx hb d hL.has hn rfl (fun ls' h' => kk ls' (LH.st2 hc h'))) k
theorem Z.iinc {i : Nat} {z : Int} {x v : Int32} (d : decode M.2.1 pc = .ok (.iinc i z, 3)) (hp : pc + 3 = n) (hl : ll[i]? = some (some (.int x))) (hv : x + Int32.ofInt z = v) (hn : i < M.2.2.1) (hc : c2 ll i = true) (k : Z g M J cl sl n (ll.set i (some (.int v))) st ws) : Z g M J cl sl pc ll st ws := by
  subst hp
  refine Z.mks (fun p l e R s m args below meth c Q H locs ls hx hb hL kk => ?_) k
  obtain ⟨k0, hk0⟩ := List.getElem?_of_mem (lvl_mem (q := (i, .int x)).mpr hl)
  exact lv_iinc hx hb d hL.has (k := k0) hk0 hv hn rfl (fun ls' h' => kk ls' (LH.st hc h'))
theorem Z.if_eq {x : Int32} {off : Int} {tgt : Nat} (d : decode M.2.1 pc = .ok (.ifCond .eq off, 3)) (ht : (pc : Int) + off = (tgt : Int)) (hp : pc + 3 = n) (kt : x = 0 → Z g M J cl sl tgt ll st ws) (kf : ¬ x = 0 → Z g M J cl sl n ll st ws) : Z g M J cl sl pc ll (.int x :: st) ws := by
  subst hp
  obtain ⟨p, l, e, R, s, m, args, below, meth, c, Q⟩ := J
  intro C H locs ls hP hD hS hL
  exact lv_if_eq C.1 C.2.1 d ht (fun h => kt h C H locs ls hP hD hS hL) (fun h => kf h C H locs ls hP hD hS hL)
theorem Z.icmp_eq {x y : Int32} {off : Int} {tgt : Nat} (d : decode M.2.1 pc = .ok (.if_icmp .eq off, 3)) (ht : (pc : Int) + off = (tgt : Int)) (hp : pc + 3 = n) (kt : x = y → Z g M J cl sl tgt ll st ws) (kf : ¬ x = y → Z g M J cl sl n ll st ws) : Z g M J cl sl pc ll (.int y :: .int x :: st) ws := by
  subst hp
  obtain ⟨p, l, e, R, s, m, args, below, meth, c, Q⟩ := J
  intro C H locs ls hP hD hS hL
  exact lv_icmp_eq C.1 C.2.1 d ht (fun h => kt h C H locs ls hP hD hS hL) (fun h => kf h C H locs ls hP hD hS hL)
theorem Z.if_ne {x : Int32} {off : Int} {tgt : Nat} (d : decode M.2.1 pc = .ok (.ifCond .ne off, 3)) (ht : (pc : Int) + off = (tgt : Int)) (hp : pc + 3 = n) (kt : ¬ x = 0 → Z g M J cl sl tgt ll st ws) (kf : x = 0 → Z g M J cl sl n ll st ws) : Z g M J cl sl pc ll (.int x :: st) ws := by
  subst hp
  obtain ⟨p, l, e, R, s, m, args, below, meth, c, Q⟩ := J
  intro C H locs ls hP hD hS hL
  exact lv_if_ne C.1 C.2.1 d ht (fun h => kt h C H locs ls hP hD hS hL) (fun h => kf h C H locs ls hP hD hS hL)
theorem Z.icmp_ne {x y : Int32} {off : Int} {tgt : Nat} (d : decode M.2.1 pc = .ok (.if_icmp .ne off, 3)) (ht : (pc : Int) + off = (tgt : Int)) (hp : pc + 3 = n) (kt : ¬ x = y → Z g M J cl sl tgt ll st ws) (kf : x = y → Z g M J cl sl n ll st ws) : Z g M J cl sl pc ll (.int y :: .int x :: st) ws := by
  subst hp
  obtain ⟨p, l, e, R, s, m, args, below, meth, c, Q⟩ := J
  intro C H locs ls hP hD hS hL
  exact lv_icmp_ne C.1 C.2.1 d ht (fun h => kt h C H locs ls hP hD hS hL) (fun h => kf h C H locs ls hP hD hS hL)
theorem Z.if_lt {x : Int32} {off : Int} {tgt : Nat} (d : decode M.2.1 pc = .ok (.ifCond .lt off, 3)) (ht : (pc : Int) + off = (tgt : Int)) (hp : pc + 3 = n) (kt : x < 0 → Z g M J cl sl tgt ll st ws) (kf : ¬ x < 0 → Z g M J cl sl n ll st ws) : Z g M J cl sl pc ll (.int x :: st) ws := by
  subst hp
  obtain ⟨p, l, e, R, s, m, args, below, meth, c, Q⟩ := J
  intro C H locs ls hP hD hS hL
  exact lv_if_lt C.1 C.2.1 d ht (fun h => kt h C H locs ls hP hD hS hL) (fun h => kf h C H locs ls hP hD hS hL)
theorem Z.icmp_lt {x y : Int32} {off : Int} {tgt : Nat} (d : decode M.2.1 pc = .ok (.if_icmp .lt off, 3)) (ht : (pc : Int) + off = (tgt : Int)) (hp : pc + 3 = n) (kt : x < y → Z g M J cl sl tgt ll st ws) (kf : ¬ x < y → Z g M J cl sl n ll st ws) : Z g M J cl sl pc ll (.int y :: .int x :: st) ws := by
  subst hp
  obtain ⟨p, l, e, R, s, m, args, below, meth, c, Q⟩ := J
  intro C H locs ls hP hD hS hL
  exact lv_icmp_lt C.1 C.2.1 d ht (fun h => kt h C H locs ls hP hD hS hL) (fun h => kf h C H locs ls hP hD hS hL)
theorem Z.if_ge {x : Int32} {off : Int} {tgt : Nat} (d : decode M.2.1 pc = .ok (.ifCond .ge off, 3)) (ht : (pc : Int) + off = (tgt : Int)) (hp : pc + 3 = n) (kt : 0 ≤ x → Z g M J cl sl tgt ll st ws) (kf : ¬ 0 ≤ x → Z g M J cl sl n ll st ws) : Z g M J cl sl pc ll (.int x :: st) ws := by
  subst hp
  obtain ⟨p, l, e, R, s, m, args, below, meth, c, Q⟩ := J
  intro C H locs ls hP hD hS hL
  exact lv_if_ge C.1 C.2.1 d ht (fun h => kt h C H locs ls hP hD hS hL) (fun h => kf h C H locs ls hP hD hS hL)
theorem Z.icmp_ge {x y : Int32} {off : Int} {tgt : Nat} (d : decode M.2.1 pc = .ok (.if_icmp .ge off, 3)) (ht : (pc : Int) + off = (tgt : Int)) (hp : pc + 3 = n) (kt : y ≤ x → Z g M J cl sl tgt ll st ws) (kf : ¬ y ≤ x → Z g M J cl sl n ll st ws) : Z g M J cl sl pc ll (.int y :: .int x :: st) ws := by
  subst hp
  obtain ⟨p, l, e, R, s, m, args, below, meth, c, Q⟩ := J
  intro C H locs ls hP hD hS hL
  exact lv_icmp_ge C.1 C.2.1 d ht (fun h => kt h C H locs ls hP hD hS hL) (fun h => kf h C H locs ls hP hD hS hL)
theorem Z.if_gt {x : Int32} {off : Int} {tgt : Nat} (d : decode M.2.1 pc = .ok (.ifCond .gt off, 3)) (ht : (pc : Int) + off = (tgt : Int)) (hp : pc + 3 = n) (kt : 0 < x → Z g M J cl sl tgt ll st ws) (kf : ¬ 0 < x → Z g M J cl sl n ll st ws) : Z g M J cl sl pc ll (.int x :: st) ws := by
  subst hp
  obtain ⟨p, l, e, R, s, m, args, below, meth, c, Q⟩ := J
  intro C H locs ls hP hD hS hL
  exact lv_if_gt C.1 C.2.1 d ht (fun h => kt h C H locs ls hP hD hS hL) (fun h => kf h C H locs ls hP hD hS hL)
theorem Z.icmp_gt {x y : Int32} {off : Int} {tgt : Nat} (d : decode M.2.1 pc = .ok (.if_icmp .gt off, 3)) (ht : (pc : Int) + off = (tgt : Int)) (hp : pc + 3 = n) (kt : y < x → Z g M J cl sl tgt ll st ws) (kf : ¬ y < x → Z g M J cl sl n ll st ws) : Z g M J cl sl pc ll (.int y :: .int x :: st) ws := by
  subst hp
  obtain ⟨p, l, e, R, s, m, args, below, meth, c, Q⟩ := J
  intro C H locs ls hP hD hS hL
  exact lv_icmp_gt C.1 C.2.1 d ht (fun h => kt h C H locs ls hP hD hS hL) (fun h => kf h C H locs ls hP hD hS hL)
theorem Z.if_le {x : Int32} {off : Int} {tgt : Nat} (d : decode M.2.1 pc = .ok (.ifCond .le off, 3)) (ht : (pc : Int) + off = (tgt : Int)) (hp : pc + 3 = n) (kt : x ≤ 0 → Z g M J cl sl tgt ll st ws) (kf : ¬ x ≤ 0 → Z g M J cl sl n ll st ws) : Z g M J cl sl pc ll (.int x :: st) ws := by
  subst hp
  obtain ⟨p, l, e, R, s, m, args, below, meth, c, Q⟩ := J
  intro C H locs ls hP hD hS hL
  exact lv_if_le C.1 C.2.1 d ht (fun h => kt h C H locs ls hP hD hS hL) (fun h => kf h C H locs ls hP hD hS hL)
theorem Z.icmp_le {x y : Int32} {off : Int} {tgt : Nat} (d : decode M.2.1 pc = .ok (.if_icmp .le off, 3)) (ht : (pc : Int) + off = (tgt : Int)) (hp : pc + 3 = n) (kt : x ≤ y → Z g M J cl sl tgt ll st ws) (kf : ¬ x ≤ y → Z g M J cl sl n ll st ws) : Z g M J cl sl pc ll (.int y :: .int x :: st) ws := by
  subst hp
  obtain ⟨p, l, e, R, s, m, args, below, meth, c, Q⟩ := J
  intro C H locs ls hP hD hS hL
  exact lv_icmp_le C.1 C.2.1 d ht (fun h => kt h C H locs ls hP hD hS hL) (fun h => kf h C H locs ls hP hD hS hL)
theorem Z.goto {off : Int} {tgt : Nat} (d : decode M.2.1 pc = .ok (.goto off, 3)) (ht : (pc : Int) + off = (tgt : Int)) (k : Z g M J cl sl tgt ll st ws) : Z g M J cl sl pc ll st ws :=
  Z.mk1 (fun p l e R s m args below meth c Q H locs ls hx hb hL kk => lv_goto hx hb d ht kk) k
theorem Z.ifnonnull {x : Nat} {off : Int} {tgt : Nat} (d : decode M.2.1 pc = .ok (.ifnonnull off, 3)) (ht : (pc : Int) + off = (tgt : Int)) (k : Z g M J cl sl tgt ll st ws) : Z g M J cl sl pc ll (.ref x :: st) ws :=
  Z.mk1 (fun p l e R s m args below meth c Q H locs ls hx hb hL kk => lv_ifnonnull hx hb d ht kk) k
theorem Z.ifnonnullN {off : Int} (d : decode M.2.1 pc = .ok (.ifnonnull off, 3)) (hp : pc + 3 = n) (k : Z g M J cl sl n ll st ws) : Z g M J cl sl pc ll (.null :: st) ws := by
  subst hp; exact Z.mk1 (fun p l e R s m args below meth c Q H locs ls hx hb hL kk => lv_ifnonnullN hx hb d kk) k
theorem Z.ifnullN {off : Int} {tgt : Nat} (d : decode M.2.1 pc = .ok (.ifnull off, 3)) (ht : (pc : Int) + off = (tgt : Int)) (k : Z g M J cl sl tgt ll st ws) : Z g M J cl sl pc ll (.null :: st) ws :=
  Z.mk1 (fun p l e R s m args below meth c Q H locs ls hx hb hL kk => lv_ifnullN hx hb d ht kk) k
theorem Z.ifnull {x : Nat} {off : Int} (d : decode M.2.1 pc = .ok (.ifnull off, 3)) (hp : pc + 3 = n) (k : Z g M J cl sl n ll st ws) : Z g M J cl sl pc ll (.ref x :: st) ws := by
  subst hp; exact Z.mk1 (fun p l e R s m args below meth c Q H locs ls hx hb hL kk => lv_ifnull hx hb d kk) k
theorem Z.aconst_null (d : decode M.2.1 pc = .ok (.aconst_null, 1)) (hp : pc + 1 = n) (k : Z g M J cl sl n ll (.null :: st) ws) : Z g M J cl sl pc ll st ws := by
  subst hp; exact Z.mk1 (fun p l e R s m args below meth c Q H locs ls hx hb hL kk => lv_null hx hb d kk) k
theorem Z.lcmp {x y : Int64} {v : Int32} (d : decode M.2.1 pc = .ok (.lcmp, 1)) (hp : pc + 1 = n) (hv : v = lg_cmp x y) (k : Z g M J cl sl n ll (.int v :: st) ws) : Z g M J cl sl pc ll (.long y :: .long x :: st) ws := by
  subst hp; subst hv; exact Z.mk1 (fun p l e R s m args below meth c Q H locs ls hx hb hL kk => W.lcmp hx hb d kk) k
theorem Z.ldc {index : Nat} {v : Int32} (d : decode M.2.1 pc = .ok (.ldc index, 2)) (hp : pc + 2 = n) (hw : Cond.constant M.1.cls index v ∈ TT) (k : Z g M J cl sl n ll (.int v :: st) ws) : Z g M J cl sl pc ll st ws := by
  subst hp
  obtain ⟨p, l, e, R, s, m, args, below, meth, c, Q⟩ := J
  intro C H locs ls hP hD hS hL
  exact lv_ldc C.1 C.2.1 C.2.2.2.1 (C.2.2.2.2.1 _ hw) d (k C H locs ls hP hD hS hL)
theorem Z.ldcw {index : Nat} {v : Int32} (d : decode M.2.1 pc = .ok (.ldc_w index, 3)) (hp : pc + 3 = n) (hw : Cond.constant M.1.cls index v ∈ TT) (k : Z g M J cl sl n ll (.int v :: st) ws) : Z g M J cl sl pc ll st ws := by
  subst hp
  obtain ⟨p, l, e, R, s, m, args, below, meth, c, Q⟩ := J
  intro C H locs ls hP hD hS hL
  exact lv_ldcw C.1 C.2.1 C.2.2.2.1 (C.2.2.2.2.1 _ hw) d (k C H locs ls hP hD hS hL)
theorem Z.ldc2 {index : Nat} {v : Int64} (d : decode M.2.1 pc = .ok (.ldc2_w index, 3)) (hp : pc + 3 = n) (hw : Cond.constantLong M.1.cls index v ∈ TT) (k : Z g M J cl sl n ll (.long v :: st) ws) : Z g M J cl sl pc ll st ws := by
  subst hp
  obtain ⟨p, l, e, R, s, m, args, below, meth, c, Q⟩ := J
  intro C H locs ls hP hD hS hL
  exact lv_ldc2 C.1 C.2.1 C.2.2.2.1 (C.2.2.2.2.1 _ hw) d (k C H locs ls hP hD hS hL)
theorem Z.ldcS {index i : Nat} {tx : String} (d : decode M.2.1 pc = .ok (.ldc index, 2)) (hp : pc + 2 = n) (hw : strTab[i]? = some (M.1.cls, index, tx)) (k : Z g M J cl sl n ll (.ref (gK g i) :: st) ws) : Z g M J cl sl pc ll st ws := by
  subst hp
  obtain ⟨p, l, e, R, s, m, args, below, meth, c, Q⟩ := J
  intro C H locs ls hP hD hS hL
  have hK : KF g s s.heap := C.2.2.2.2.2.2.2.2.1
  exact va_ldcS C.1 C.2.1 C.2.2.2.1 (hK.2.2.1 _ _ hw) d (k C H locs ls hP hD hS hL)
end ZR
