/-! the law from its entry -/
set_option maxHeartbeats 8000000 in
set_option maxRecDepth 8000 in
theorem law_begin {g : GP} {J : JT} {b L : Nat} {xs : Nat → Int32} (hJ : JL g b L xs J) (hL : L ≤ 320) : Z g mL_law J 0 0 0 [some (.ref b), none, none, none] [] [] := by
  refine Z.new (q := (RX11, TX11, 7)) (ci := 11) (fs := [.null, .null, .int 0, .null, .null, .null, .null]) (ty := tyX11) (n := 3) wL_7 w_inst_X11 w_init_X11 in_X11 tyX11_ok rfl (by decide +kernel) hJ.rm (Nat.le_of_ble_eq_true rfl) (Nat.le_of_ble_eq_true rfl) dL_law_0 rfl (fun a0 => ?_)
  refine Z.dup (n := 4) dL_law_3 rfl rfl ?_
  refine Z.callI (cl' := 93) (sl' := 1932) (n := 7) vL_9 (ctX11_init (b := a0)) hJ.rm (Nat.le_of_ble_eq_true rfl) rfl rfl (Nat.le_of_ble_eq_true rfl) (Nat.le_of_ble_eq_true rfl) rfl (Nat.le_of_ble_eq_true rfl) rfl dL_law_4 rfl (fun r9 w9 hw9 => ?_)
  obtain ⟨rfl, b1, a1, h1, b2, a2, h2, b3, cb1, cb2, cb3, cb4, cb5, cb6, b4, db1, db2, b5, b6, ha1, hy1, ha2, hy2, rfl⟩ := hw9
  show Z g mL_law J 93 1932 7 [some (.ref b), none, none, none] [.ref a0] _
  refine Z.astore_n (n := 8) dL_law_7 rfl (by decide) rfl ?_
  refine Z.new (q := (RX12, TX12, 32)) (ci := 12) (fs := [.int 0, .null, .null, .int 0, .int 0, .int 0, .int 0, .int 0, .null, .null, .int 0, .null, .null, .int 0, .int 0, .int 0, .int 0, .int 0, .int 0, .int 0, .int 0, .int 0, .int 0, .int 0, .int 0, .int 0, .null, .null, .int 0, .int 0, .int 0, .int 0]) (ty := tyX12) (n := 11) wL_10 w_inst_X12 w_init_X12 in_X12 tyX12_ok rfl (by decide +kernel) hJ.rm (Nat.le_of_ble_eq_true rfl) (Nat.le_of_ble_eq_true rfl) dL_law_8 rfl (fun m0 => ?_)
  refine Z.dup (n := 12) dL_law_11 rfl rfl ?_
  refine Z.callI (cl' := 102) (sl' := 3185) (n := 15) vL_12 (ctX12_init (b := m0)) hJ.rm (Nat.le_of_ble_eq_true rfl) rfl rfl (Nat.le_of_ble_eq_true rfl) (Nat.le_of_ble_eq_true rfl) rfl (Nat.le_of_ble_eq_true rfl) rfl dL_law_12 rfl (fun r9 w9 hw9 => ?_)
  obtain ⟨rfl, e1, e2, e3, e4, e5, e6, e7, e8, rfl⟩ := hw9
  rw [WD_start ha1 ha2 (fun i => by rw [(newR_all hy1).2 i]; rfl) (fun i => by rw [(newR_all hy2).2 i]; rfl)]
  generalize hA : aS a0 a1 a2 [b3, cb1, cb2, cb3, cb4, cb5, cb6, b4, db1, db2, b5, b6, m0, e1, e2, e3, e4, e5, e6, e7, e8] = A
  have hA0 : a0 = A 0 := by rw [← hA]; rfl
  have hA93 : m0 = A 93 := by rw [← hA]; rfl
  show Z g mL_law J 102 3185 15 [some (.ref b), some (.ref a0), none, none] [.ref m0] _
  rw [hA0, hA93]
  refine Z.astore_n (n := 16) dL_law_15 rfl (by decide) rfl ?_
  refine Z.iconst (n := 17) (v := 0) dL_law_16 rfl (by decide +kernel) ?_
  refine Z.istore_n (n := 18) dL_law_17 rfl (by decide) rfl ?_
  exact Z.wd (by decide) (by decide) (law_loop hJ hL 66 0 A (hS0 h1 h2) [] rfl (Nat.zero_le _) (inv0 hy1 hy2) (Nat.le_refl _))
set_option maxHeartbeats 4000000 in
/-- from the entry, for every script of at most 320 ints, the law comes to its end with true -/
theorem whole_start {p : Program} {e : Env} {s : State} {m : MethodId} {below : List Frame} {meth : Method} {c : Code} (l : Launch) (hflags : l.flags = flags0) {b L : Nat} {xs : Nat → Int32} (hL : L ≤ 320) (C0 : lw_At p s m meth c b L xs) : W p l e room_1 s m #[Value.ref b] below meth c s.heap [] 0 0 (lw_Z below #[Value.ref b] s) (entryFrame m ([Value.ref b] : List Value).toArray 4) := by
  obtain ⟨g, hK, hg⟩ := kf_start C0
  obtain ⟨hx, hb, hr, hml, hown, hts, hX, hbl, hlocks, hgv, hname⟩ := C0
  rw [lg_entry_eq]
  have z := law_begin (g := g) (J := (p, l, e, room_1, s, m, #[Value.ref b], below, meth, c, lw_Z below #[Value.ref b] s)) (b := b) (L := L) (xs := xs) ⟨rfl, rfl, rfl, hX, hbl, hg⟩ hL
  have hT : ∀ w ∈ TT, w.before #[Value.ref b] s = true := fun w hw => hts w (List.mem_filter.mp hw).1
  have hP : va_P (gD g) vwCl [] s.heap := fun k q h => by simp at h
  have hD : va_D (gA g) [] := ⟨fun i j p q h => by simp at h, fun k q h => by simp at h⟩
  exact z ⟨hx, hb, hml, hown, hT, hr, hlocks, hname, hK, Nat.le_of_eq hg⟩ s.heap [] _ hP hD va_S.rf (LH.entry [Value.ref b] (Nat.le_of_ble_eq_true rfl))
