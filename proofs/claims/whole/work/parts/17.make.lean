/-! the makings of Standings -/
theorem pS_X5_9 {c : Nat} (hc : SC c) : FpOK RX5 9 c 0 true .int := by
  rcases hc with rfl | rfl | rfl | rfl | rfl | rfl | rfl
  · exact pX5_9_X0
  · exact pX5_9_X1
  · exact pX5_9_X2
  · exact pX5_9_X4
  · exact pX5_9_X5
  · exact pX5_9_X7
  · exact pX5_9_X9
theorem pS_X5_15 {c : Nat} (hc : SC c) : FpOK RX5 15 c 1 true .int := by
  rcases hc with rfl | rfl | rfl | rfl | rfl | rfl | rfl
  · exact pX5_15_X0
  · exact pX5_15_X1
  · exact pX5_15_X2
  · exact pX5_15_X4
  · exact pX5_15_X5
  · exact pX5_15_X7
  · exact pX5_15_X9
def setP {ws : va_W} (k : Nat) (x : Nat × va_E) : va_W := ws.set k x
theorem ctX5_init {g : GP} {ws : va_W} {b k c : Nat} {nu v : Int32} (hc : SC c) (he : ws[k]? = some (b, .inr (c, [.int 0, .int 0]))) : Ct g 2 0 0 mX5_init [.ref b, .int nu, .int v] ws (fun r w => r = none ∧ w = ws.set k (b, .inr (c, [.int nu, .int v]))) := by
  have hl : k < ws.length := (List.getElem?_eq_some_iff.mp he).1
  refine Ct.of (by decide +kernel) (Nat.le_of_ble_eq_true rfl) fun J hJ => ?_
  show Z g mX5_init J 0 0 0 [some (.ref b), some (.int nu), some (.int v)] [] ws
  refine Z.aload_n (n := 1) dX5_init_0 rfl rfl ?_
  refine Z.objInit (n := 4) wX5_3 w_oi2 w_oi3 hJ.rm (Nat.le_of_ble_eq_true rfl) (Nat.le_of_ble_eq_true rfl) dX5_init_1 rfl ?_
  refine Z.aload_n (n := 5) dX5_init_4 rfl rfl ?_
  refine Z.iload_n (n := 6) dX5_init_5 rfl rfl ?_
  refine Z.putF (n := 9) (pS_X5_9 hc) (by decide +kernel) dX5_init_6 rfl he (by decide) rfl rfl rfl ?_
  refine Z.aload_n (n := 10) dX5_init_9 rfl rfl ?_
  refine Z.iload_n (n := 11) dX5_init_10 rfl rfl ?_
  refine Z.putF (n := 14) (pS_X5_15 hc) (by decide +kernel) dX5_init_11 rfl (List.getElem?_set_self hl) (Nat.le_of_ble_eq_true rfl) rfl rfl rfl ?_
  exact Z.vret hJ dX5_init_14 rfl (Nat.le_refl _) (Nat.le_refl _) ⟨rfl, List.set_set ..⟩
theorem ctX0_init {g : GP} {ws : va_W} {b k c : Nat} {nu v : Int32} (hc : SC c) (he : ws[k]? = some (b, .inr (c, [.int 0, .int 0]))) : Ct g 3 0 0 mX0_init [.ref b, .int nu, .int v] ws (fun r w => r = none ∧ w = ws.set k (b, .inr (c, [.int nu, .int v]))) := by
  refine Ct.of (by decide +kernel) (Nat.le_of_ble_eq_true rfl) fun J hJ => ?_
  show Z g mX0_init J 0 0 0 [some (.ref b), some (.int nu), some (.int v)] [] ws
  refine Z.aload_n (n := 1) dX0_init_0 rfl rfl ?_
  refine Z.iload_n (n := 2) dX0_init_1 rfl rfl ?_
  refine Z.iload_n (n := 3) dX0_init_2 rfl rfl ?_
  refine Z.callI (n := 6) vX0_1 (ctX5_init hc he) hJ.rm (Nat.le_of_ble_eq_true rfl) rfl rfl (Nat.le_refl _) (Nat.le_refl _) rfl (Nat.le_of_ble_eq_true rfl) rfl dX0_init_3 rfl (fun r w hw => ?_)
  obtain ⟨rfl, rfl⟩ := hw
  exact Z.vret hJ dX0_init_6 rfl (Nat.le_refl _) (Nat.le_refl _) ⟨rfl, rfl⟩
theorem ctX4_init {g : GP} {ws : va_W} {b k c : Nat} {nu v : Int32} (hc : SC c) (he : ws[k]? = some (b, .inr (c, [.int 0, .int 0]))) : Ct g 3 0 0 mX4_init [.ref b, .int nu, .int v] ws (fun r w => r = none ∧ w = ws.set k (b, .inr (c, [.int nu, .int v]))) := by
  refine Ct.of (by decide +kernel) (Nat.le_of_ble_eq_true rfl) fun J hJ => ?_
  show Z g mX4_init J 0 0 0 [some (.ref b), some (.int nu), some (.int v)] [] ws
  refine Z.aload_n (n := 1) dX4_init_0 rfl rfl ?_
  refine Z.iload_n (n := 2) dX4_init_1 rfl rfl ?_
  refine Z.iload_n (n := 3) dX4_init_2 rfl rfl ?_
  refine Z.callI (n := 6) vX4_1 (ctX5_init hc he) hJ.rm (Nat.le_of_ble_eq_true rfl) rfl rfl (Nat.le_refl _) (Nat.le_refl _) rfl (Nat.le_of_ble_eq_true rfl) rfl dX4_init_3 rfl (fun r w hw => ?_)
  obtain ⟨rfl, rfl⟩ := hw
  exact Z.vret hJ dX4_init_6 rfl (Nat.le_refl _) (Nat.le_refl _) ⟨rfl, rfl⟩
theorem ctX9_init {g : GP} {ws : va_W} {b k c : Nat} {nu v : Int32} (hc : SC c) (he : ws[k]? = some (b, .inr (c, [.int 0, .int 0]))) : Ct g 3 0 0 mX9_init [.ref b, .int nu, .int v] ws (fun r w => r = none ∧ w = ws.set k (b, .inr (c, [.int nu, .int v]))) := by
  refine Ct.of (by decide +kernel) (Nat.le_of_ble_eq_true rfl) fun J hJ => ?_
  show Z g mX9_init J 0 0 0 [some (.ref b), some (.int nu), some (.int v)] [] ws
  refine Z.aload_n (n := 1) dX9_init_0 rfl rfl ?_
  refine Z.iload_n (n := 2) dX9_init_1 rfl rfl ?_
  refine Z.iload_n (n := 3) dX9_init_2 rfl rfl ?_
  refine Z.callI (n := 6) vX9_1 (ctX5_init hc he) hJ.rm (Nat.le_of_ble_eq_true rfl) rfl rfl (Nat.le_refl _) (Nat.le_refl _) rfl (Nat.le_of_ble_eq_true rfl) rfl dX9_init_3 rfl (fun r w hw => ?_)
  obtain ⟨rfl, rfl⟩ := hw
  exact Z.vret hJ dX9_init_6 rfl (Nat.le_refl _) (Nat.le_refl _) ⟨rfl, rfl⟩
theorem ctX1_init {g : GP} {ws : va_W} {b k c : Nat} {nu v : Int32} (hc : SC c) (he : ws[k]? = some (b, .inr (c, [.int 0, .int 0]))) : Ct g 4 0 0 mX1_init [.ref b, .int nu, .int v] ws (fun r w => r = none ∧ w = ws.set k (b, .inr (c, [.int nu, .int v]))) := by
  refine Ct.of (by decide +kernel) (Nat.le_of_ble_eq_true rfl) fun J hJ => ?_
  show Z g mX1_init J 0 0 0 [some (.ref b), some (.int nu), some (.int v)] [] ws
  refine Z.aload_n (n := 1) dX1_init_0 rfl rfl ?_
  refine Z.iload_n (n := 2) dX1_init_1 rfl rfl ?_
  refine Z.iload_n (n := 3) dX1_init_2 rfl rfl ?_
  refine Z.callI (n := 6) vX1_1 (ctX9_init hc he) hJ.rm (Nat.le_of_ble_eq_true rfl) rfl rfl (Nat.le_refl _) (Nat.le_refl _) rfl (Nat.le_of_ble_eq_true rfl) rfl dX1_init_3 rfl (fun r w hw => ?_)
  obtain ⟨rfl, rfl⟩ := hw
  exact Z.vret hJ dX1_init_6 rfl (Nat.le_refl _) (Nat.le_refl _) ⟨rfl, rfl⟩
theorem ctX7_init {g : GP} {ws : va_W} {b k c : Nat} {nu v : Int32} (hc : SC c) (he : ws[k]? = some (b, .inr (c, [.int 0, .int 0]))) : Ct g 4 0 0 mX7_init [.ref b, .int nu, .int v] ws (fun r w => r = none ∧ w = ws.set k (b, .inr (c, [.int nu, .int v]))) := by
  refine Ct.of (by decide +kernel) (Nat.le_of_ble_eq_true rfl) fun J hJ => ?_
  show Z g mX7_init J 0 0 0 [some (.ref b), some (.int nu), some (.int v)] [] ws
  refine Z.aload_n (n := 1) dX7_init_0 rfl rfl ?_
  refine Z.iload_n (n := 2) dX7_init_1 rfl rfl ?_
  refine Z.iload_n (n := 3) dX7_init_2 rfl rfl ?_
  refine Z.callI (n := 6) vX7_1 (ctX9_init hc he) hJ.rm (Nat.le_of_ble_eq_true rfl) rfl rfl (Nat.le_refl _) (Nat.le_refl _) rfl (Nat.le_of_ble_eq_true rfl) rfl dX7_init_3 rfl (fun r w hw => ?_)
  obtain ⟨rfl, rfl⟩ := hw
  exact Z.vret hJ dX7_init_6 rfl (Nat.le_refl _) (Nat.le_refl _) ⟨rfl, rfl⟩
theorem ctX2_init {g : GP} {ws : va_W} {b k c : Nat} {nu v : Int32} (hc : SC c) (he : ws[k]? = some (b, .inr (c, [.int 0, .int 0]))) : Ct g 4 0 0 mX2_init [.ref b, .int nu, .int v] ws (fun r w => r = none ∧ w = ws.set k (b, .inr (c, [.int nu, .int v]))) := by
  refine Ct.of (by decide +kernel) (Nat.le_of_ble_eq_true rfl) fun J hJ => ?_
  show Z g mX2_init J 0 0 0 [some (.ref b), some (.int nu), some (.int v)] [] ws
  refine Z.aload_n (n := 1) dX2_init_0 rfl rfl ?_
  refine Z.iload_n (n := 2) dX2_init_1 rfl rfl ?_
  refine Z.iload_n (n := 3) dX2_init_2 rfl rfl ?_
  refine Z.callI (n := 6) vX2_1 (ctX4_init hc he) hJ.rm (Nat.le_of_ble_eq_true rfl) rfl rfl (Nat.le_refl _) (Nat.le_refl _) rfl (Nat.le_of_ble_eq_true rfl) rfl dX2_init_3 rfl (fun r w hw => ?_)
  obtain ⟨rfl, rfl⟩ := hw
  exact Z.vret hJ dX2_init_6 rfl (Nat.le_refl _) (Nat.le_refl _) ⟨rfl, rfl⟩
def kc (l : Int32) : Nat := if l = 1 then 0 else if l = 2 then 4 else if l = 3 then 9 else if l = 4 then 2 else if l = 5 then 1 else if l = 6 then 7 else 5
theorem new_set {ws : va_W} {x y : Nat × va_E} : (ws ++ [x]).set ws.length y = ws ++ [y] := by
  rw [List.set_append_right _ _ (Nat.le_refl _), Nat.sub_self]
  rfl
theorem new_get {ws : va_W} {x : Nat × va_E} : (ws ++ [x])[ws.length]? = some x := by
  rw [List.getElem?_append_right (Nat.le_refl _), Nat.sub_self]
  rfl
theorem sc_0 : SC 0 := by unfold SC; decide
theorem sc_1 : SC 1 := by unfold SC; decide
theorem sc_2 : SC 2 := by unfold SC; decide
theorem sc_4 : SC 4 := by unfold SC; decide
theorem sc_5 : SC 5 := by unfold SC; decide
theorem sc_7 : SC 7 := by unfold SC; decide
theorem sc_9 : SC 9 := by unfold SC; decide
set_option maxHeartbeats 4000000 in
theorem ctX11_made {g : GP} {ws : va_W} {l0 nu v : Int32} : Ct g 5 1 2 mX11_made [.int l0, .int nu, .int v] ws (fun r w => ∃ b : Nat, r = some (.ref b) ∧ w = ws ++ [(b, .inr (kc l0, [.int nu, .int v]))]) := by
  refine Ct.of (by decide +kernel) (Nat.le_of_ble_eq_true rfl) fun J hJ => ?_
  show Z g mX11_made J 0 0 0 [some (.int l0), some (.int nu), some (.int v)] [] ws
  refine Z.iload_n (n := 1) dX11_made_0 rfl rfl ?_
  by_cases c1 : l0 = 1
  · have hkc : kc l0 = 0 := by rw [c1]; decide +kernel
    refine Z.tswI (off := 39) (tgt := 40) dX11_made_1 c1 (by decide +kernel) (by decide +kernel) (by decide +kernel) rfl ?_
    refine Z.new (q := (RX0, TX0, 2)) (ci := 0) (fs := [.int 0, .int 0]) (ty := tyX0) (n := 43) wX11_238 w_inst_X0 w_init_X0 in_X0 tyX0_ok rfl (fun j hj => by rcases (show j = 0 ∨ j = 1 by have hj2 : j < 2 := hj; omega) with rfl | rfl <;> rfl) hJ.rm (Nat.le_of_ble_eq_true rfl) (Nat.le_of_ble_eq_true rfl) dX11_made_40 rfl (fun b => ?_)
    refine Z.dup (n := 44) dX11_made_43 rfl rfl ?_
    refine Z.iload_n (n := 45) dX11_made_44 rfl rfl ?_
    refine Z.iload_n (n := 46) dX11_made_45 rfl rfl ?_
    refine Z.callI (n := 49) vX11_240 (ctX0_init sc_0 new_get) hJ.rm (Nat.le_of_ble_eq_true rfl) rfl rfl (Nat.le_of_ble_eq_true rfl) (Nat.le_of_ble_eq_true rfl) rfl (Nat.le_of_ble_eq_true rfl) rfl dX11_made_46 rfl (fun r w hw => ?_)
    obtain ⟨rfl, rfl⟩ := hw
    rw [new_set]
    exact Z.aret hJ dX11_made_49 rfl (Or.inl ⟨_, rfl⟩) (Or.inr ⟨_, rfl⟩) (Nat.le_refl _) (Nat.le_refl _) ⟨b, rfl, by rw [hkc]⟩
  by_cases c2 : l0 = 2
  · have hkc : kc l0 = 4 := by rw [c2]; decide +kernel
    refine Z.tswI (off := 49) (tgt := 50) dX11_made_1 c2 (by decide +kernel) (by decide +kernel) (by decide +kernel) rfl ?_
    refine Z.new (q := (RX4, TX4, 2)) (ci := 4) (fs := [.int 0, .int 0]) (ty := tyX4) (n := 53) wX11_243 w_inst_X4 w_init_X4 in_X4 tyX4_ok rfl (fun j hj => by rcases (show j = 0 ∨ j = 1 by have hj2 : j < 2 := hj; omega) with rfl | rfl <;> rfl) hJ.rm (Nat.le_of_ble_eq_true rfl) (Nat.le_of_ble_eq_true rfl) dX11_made_50 rfl (fun b => ?_)
    refine Z.dup (n := 54) dX11_made_53 rfl rfl ?_
    refine Z.iload_n (n := 55) dX11_made_54 rfl rfl ?_
    refine Z.iload_n (n := 56) dX11_made_55 rfl rfl ?_
    refine Z.callI (n := 59) vX11_245 (ctX4_init sc_4 new_get) hJ.rm (Nat.le_of_ble_eq_true rfl) rfl rfl (Nat.le_of_ble_eq_true rfl) (Nat.le_of_ble_eq_true rfl) rfl (Nat.le_of_ble_eq_true rfl) rfl dX11_made_56 rfl (fun r w hw => ?_)
    obtain ⟨rfl, rfl⟩ := hw
    rw [new_set]
    exact Z.aret hJ dX11_made_59 rfl (Or.inl ⟨_, rfl⟩) (Or.inr ⟨_, rfl⟩) (Nat.le_refl _) (Nat.le_refl _) ⟨b, rfl, by rw [hkc]⟩
  by_cases c3 : l0 = 3
  · have hkc : kc l0 = 9 := by rw [c3]; decide +kernel
    refine Z.tswI (off := 59) (tgt := 60) dX11_made_1 c3 (by decide +kernel) (by decide +kernel) (by decide +kernel) rfl ?_
    refine Z.new (q := (RX9, TX9, 2)) (ci := 9) (fs := [.int 0, .int 0]) (ty := tyX9) (n := 63) wX11_246 w_inst_X9 w_init_X9 in_X9 tyX9_ok rfl (fun j hj => by rcases (show j = 0 ∨ j = 1 by have hj2 : j < 2 := hj; omega) with rfl | rfl <;> rfl) hJ.rm (Nat.le_of_ble_eq_true rfl) (Nat.le_of_ble_eq_true rfl) dX11_made_60 rfl (fun b => ?_)
    refine Z.dup (n := 64) dX11_made_63 rfl rfl ?_
    refine Z.iload_n (n := 65) dX11_made_64 rfl rfl ?_
    refine Z.iload_n (n := 66) dX11_made_65 rfl rfl ?_
    refine Z.callI (n := 69) vX11_248 (ctX9_init sc_9 new_get) hJ.rm (Nat.le_of_ble_eq_true rfl) rfl rfl (Nat.le_of_ble_eq_true rfl) (Nat.le_of_ble_eq_true rfl) rfl (Nat.le_of_ble_eq_true rfl) rfl dX11_made_66 rfl (fun r w hw => ?_)
    obtain ⟨rfl, rfl⟩ := hw
    rw [new_set]
    exact Z.aret hJ dX11_made_69 rfl (Or.inl ⟨_, rfl⟩) (Or.inr ⟨_, rfl⟩) (Nat.le_refl _) (Nat.le_refl _) ⟨b, rfl, by rw [hkc]⟩
  by_cases c4 : l0 = 4
  · have hkc : kc l0 = 2 := by rw [c4]; decide +kernel
    refine Z.tswI (off := 69) (tgt := 70) dX11_made_1 c4 (by decide +kernel) (by decide +kernel) (by decide +kernel) rfl ?_
    refine Z.new (q := (RX2, TX2, 2)) (ci := 2) (fs := [.int 0, .int 0]) (ty := tyX2) (n := 73) wX11_249 w_inst_X2 w_init_X2 in_X2 tyX2_ok rfl (fun j hj => by rcases (show j = 0 ∨ j = 1 by have hj2 : j < 2 := hj; omega) with rfl | rfl <;> rfl) hJ.rm (Nat.le_of_ble_eq_true rfl) (Nat.le_of_ble_eq_true rfl) dX11_made_70 rfl (fun b => ?_)
    refine Z.dup (n := 74) dX11_made_73 rfl rfl ?_
    refine Z.iload_n (n := 75) dX11_made_74 rfl rfl ?_
    refine Z.iload_n (n := 76) dX11_made_75 rfl rfl ?_
    refine Z.callI (n := 79) vX11_251 (ctX2_init sc_2 new_get) hJ.rm (Nat.le_of_ble_eq_true rfl) rfl rfl (Nat.le_of_ble_eq_true rfl) (Nat.le_of_ble_eq_true rfl) rfl (Nat.le_of_ble_eq_true rfl) rfl dX11_made_76 rfl (fun r w hw => ?_)
    obtain ⟨rfl, rfl⟩ := hw
    rw [new_set]
    exact Z.aret hJ dX11_made_79 rfl (Or.inl ⟨_, rfl⟩) (Or.inr ⟨_, rfl⟩) (Nat.le_refl _) (Nat.le_refl _) ⟨b, rfl, by rw [hkc]⟩
  by_cases c5 : l0 = 5
  · have hkc : kc l0 = 1 := by rw [c5]; decide +kernel
    refine Z.tswI (off := 79) (tgt := 80) dX11_made_1 c5 (by decide +kernel) (by decide +kernel) (by decide +kernel) rfl ?_
    refine Z.new (q := (RX1, TX1, 2)) (ci := 1) (fs := [.int 0, .int 0]) (ty := tyX1) (n := 83) wX11_252 w_inst_X1 w_init_X1 in_X1 tyX1_ok rfl (fun j hj => by rcases (show j = 0 ∨ j = 1 by have hj2 : j < 2 := hj; omega) with rfl | rfl <;> rfl) hJ.rm (Nat.le_of_ble_eq_true rfl) (Nat.le_of_ble_eq_true rfl) dX11_made_80 rfl (fun b => ?_)
    refine Z.dup (n := 84) dX11_made_83 rfl rfl ?_
    refine Z.iload_n (n := 85) dX11_made_84 rfl rfl ?_
    refine Z.iload_n (n := 86) dX11_made_85 rfl rfl ?_
    refine Z.callI (n := 89) vX11_254 (ctX1_init sc_1 new_get) hJ.rm (Nat.le_of_ble_eq_true rfl) rfl rfl (Nat.le_of_ble_eq_true rfl) (Nat.le_of_ble_eq_true rfl) rfl (Nat.le_of_ble_eq_true rfl) rfl dX11_made_86 rfl (fun r w hw => ?_)
    obtain ⟨rfl, rfl⟩ := hw
    rw [new_set]
    exact Z.aret hJ dX11_made_89 rfl (Or.inl ⟨_, rfl⟩) (Or.inr ⟨_, rfl⟩) (Nat.le_refl _) (Nat.le_refl _) ⟨b, rfl, by rw [hkc]⟩
  by_cases c6 : l0 = 6
  · have hkc : kc l0 = 7 := by rw [c6]; decide +kernel
    refine Z.tswI (off := 89) (tgt := 90) dX11_made_1 c6 (by decide +kernel) (by decide +kernel) (by decide +kernel) rfl ?_
    refine Z.new (q := (RX7, TX7, 2)) (ci := 7) (fs := [.int 0, .int 0]) (ty := tyX7) (n := 93) wX11_255 w_inst_X7 w_init_X7 in_X7 tyX7_ok rfl (fun j hj => by rcases (show j = 0 ∨ j = 1 by have hj2 : j < 2 := hj; omega) with rfl | rfl <;> rfl) hJ.rm (Nat.le_of_ble_eq_true rfl) (Nat.le_of_ble_eq_true rfl) dX11_made_90 rfl (fun b => ?_)
    refine Z.dup (n := 94) dX11_made_93 rfl rfl ?_
    refine Z.iload_n (n := 95) dX11_made_94 rfl rfl ?_
    refine Z.iload_n (n := 96) dX11_made_95 rfl rfl ?_
    refine Z.callI (n := 99) vX11_257 (ctX7_init sc_7 new_get) hJ.rm (Nat.le_of_ble_eq_true rfl) rfl rfl (Nat.le_of_ble_eq_true rfl) (Nat.le_of_ble_eq_true rfl) rfl (Nat.le_of_ble_eq_true rfl) rfl dX11_made_96 rfl (fun r w hw => ?_)
    obtain ⟨rfl, rfl⟩ := hw
    rw [new_set]
    exact Z.aret hJ dX11_made_99 rfl (Or.inl ⟨_, rfl⟩) (Or.inr ⟨_, rfl⟩) (Nat.le_refl _) (Nat.le_refl _) ⟨b, rfl, by rw [hkc]⟩
  have hkc : kc l0 = 5 := by simp [kc, c1, c2, c3, c4, c5, c6]
  have t1 := lv_neT (k := 1) c1 (a := 1) (by decide +kernel)
  have t2 := lv_neT (k := 2) c2 (a := 2) (by decide +kernel)
  have t3 := lv_neT (k := 3) c3 (a := 3) (by decide +kernel)
  have t4 := lv_neT (k := 4) c4 (a := 4) (by decide +kernel)
  have t5 := lv_neT (k := 5) c5 (a := 5) (by decide +kernel)
  have t6 := lv_neT (k := 6) c6 (a := 6) (by decide +kernel)
  refine Z.tswO (tgt := 100) dX11_made_1 (by omega) rfl ?_
  refine Z.new (q := (RX5, TX5, 2)) (ci := 5) (fs := [.int 0, .int 0]) (ty := tyX5) (n := 103) wX11_137 w_inst_X5 w_init_X5 in_X5 tyX5_ok rfl (fun j hj => by rcases (show j = 0 ∨ j = 1 by have hj2 : j < 2 := hj; omega) with rfl | rfl <;> rfl) hJ.rm (Nat.le_of_ble_eq_true rfl) (Nat.le_of_ble_eq_true rfl) dX11_made_100 rfl (fun b => ?_)
  refine Z.dup (n := 104) dX11_made_103 rfl rfl ?_
  refine Z.iload_n (n := 105) dX11_made_104 rfl rfl ?_
  refine Z.iload_n (n := 106) dX11_made_105 rfl rfl ?_
  refine Z.callI (n := 109) vX11_258 (ctX5_init sc_5 new_get) hJ.rm (Nat.le_of_ble_eq_true rfl) rfl rfl (Nat.le_of_ble_eq_true rfl) (Nat.le_of_ble_eq_true rfl) rfl (Nat.le_of_ble_eq_true rfl) rfl dX11_made_106 rfl (fun r w hw => ?_)
  obtain ⟨rfl, rfl⟩ := hw
  rw [new_set]
  exact Z.aret hJ dX11_made_109 rfl (Or.inl ⟨_, rfl⟩) (Or.inr ⟨_, rfl⟩) (Nat.le_refl _) (Nat.le_refl _) ⟨b, rfl, by rw [hkc]⟩
section EXT
variable {g : GP} {a a1 : Nat → Nat} {f : Nat → Int32} {P : PT}
theorem xe_0 (e : ∀ i, i < 102 → a1 i = a i) : xE g a1 0 f = xE g a 0 f := by
  show (Sum.inr (11, [.ref (a1 1), .ref (a1 41), .int (f 2), .ref (a1 81), .ref (a1 88), .ref (a1 91), .ref (a1 92)]) : va_E) = _
  rw [e 1 (by decide), e 41 (by decide), e 81 (by decide), e 88 (by decide), e 91 (by decide), e 92 (by decide)]
  rfl
theorem xe_1 (e : ∀ i, i < 102 → a1 i = a i) : xE g a1 1 f = xE g a 1 f := by
  show (Sum.inr (3, [.int (f 0), .int (f 1), .int (f 2), .int (f 3), .int (f 4), .ref (a1 2), .ref (a1 3), .ref (a1 4), .ref (a1 5), .ref (a1 13), .ref (a1 21), .ref (a1 23), .ref (a1 30), .ref (a1 31)]) : va_E) = _
  rw [e 2 (by decide), e 3 (by decide), e 4 (by decide), e 5 (by decide), e 13 (by decide), e 21 (by decide), e 23 (by decide), e 30 (by decide), e 31 (by decide)]
  rfl
theorem xe_2 (e : ∀ i, i < 102 → a1 i = a i) : xE g a1 2 f = xE g a 2 f := rfl
theorem xe_3 (e : ∀ i, i < 102 → a1 i = a i) : xE g a1 3 f = xE g a 3 f := rfl
theorem xe_4 (e : ∀ i, i < 102 → a1 i = a i) : xE g a1 4 f = xE g a 4 f := rfl
theorem xe_5 (e : ∀ i, i < 102 → a1 i = a i) : xE g a1 5 f = xE g a 5 f := by
  have h0 : (fun i => if i < 7 then some (a1 (6 + i)) else none) = (fun i => if i < 7 then some (a (6 + i)) else none) := by
    funext i
    by_cases hi : i < 7
    · rw [if_pos hi, if_pos hi, e (6 + i) (by omega)]
    · rw [if_neg hi, if_neg hi]
  exact congrArg (fun F => (Sum.inl (gII g, 7, Sum.inr (Sum.inr (Sum.inr (Sum.inr F)))) : va_E)) h0
theorem xe_6 (e : ∀ i, i < 102 → a1 i = a i) : xE g a1 6 f = xE g a 6 f := rfl
theorem xe_7 (e : ∀ i, i < 102 → a1 i = a i) : xE g a1 7 f = xE g a 7 f := rfl
theorem xe_8 (e : ∀ i, i < 102 → a1 i = a i) : xE g a1 8 f = xE g a 8 f := rfl
theorem xe_9 (e : ∀ i, i < 102 → a1 i = a i) : xE g a1 9 f = xE g a 9 f := rfl
theorem xe_10 (e : ∀ i, i < 102 → a1 i = a i) : xE g a1 10 f = xE g a 10 f := rfl
theorem xe_11 (e : ∀ i, i < 102 → a1 i = a i) : xE g a1 11 f = xE g a 11 f := rfl
theorem xe_12 (e : ∀ i, i < 102 → a1 i = a i) : xE g a1 12 f = xE g a 12 f := rfl
theorem xe_13 (e : ∀ i, i < 102 → a1 i = a i) : xE g a1 13 f = xE g a 13 f := by
  have h0 : (fun i => if i < 7 then some (a1 (14 + i)) else none) = (fun i => if i < 7 then some (a (14 + i)) else none) := by
    funext i
    by_cases hi : i < 7
    · rw [if_pos hi, if_pos hi, e (14 + i) (by omega)]
    · rw [if_neg hi, if_neg hi]
  exact congrArg (fun F => (Sum.inl (gII g, 7, Sum.inr (Sum.inr (Sum.inr (Sum.inr F)))) : va_E)) h0
theorem xe_14 (e : ∀ i, i < 102 → a1 i = a i) : xE g a1 14 f = xE g a 14 f := rfl
theorem xe_15 (e : ∀ i, i < 102 → a1 i = a i) : xE g a1 15 f = xE g a 15 f := rfl
theorem xe_16 (e : ∀ i, i < 102 → a1 i = a i) : xE g a1 16 f = xE g a 16 f := rfl
theorem xe_17 (e : ∀ i, i < 102 → a1 i = a i) : xE g a1 17 f = xE g a 17 f := rfl
theorem xe_18 (e : ∀ i, i < 102 → a1 i = a i) : xE g a1 18 f = xE g a 18 f := rfl
theorem xe_19 (e : ∀ i, i < 102 → a1 i = a i) : xE g a1 19 f = xE g a 19 f := rfl
theorem xe_20 (e : ∀ i, i < 102 → a1 i = a i) : xE g a1 20 f = xE g a 20 f := rfl
theorem xe_21 (e : ∀ i, i < 102 → a1 i = a i) : xE g a1 21 f = xE g a 21 f := by
  show (Sum.inr (6, [.ref (a1 22), .int (f 1), .int (f 2)]) : va_E) = _
  rw [e 22 (by decide)]
  rfl
theorem xe_22 (e : ∀ i, i < 102 → a1 i = a i) : xE g a1 22 f = xE g a 22 f := rfl
theorem xe_23 (e : ∀ i, i < 102 → a1 i = a i) : xE g a1 23 f = xE g a 23 f := by
  show (Sum.inr (10, [.int (f 0), .int (f 1), .int (f 2), .int (f 3), .int (f 4), .ref (a1 24), .ref (a1 25), .ref (a1 26), .ref (a1 27), .ref (a1 28), .ref (a1 29)]) : va_E) = _
  rw [e 24 (by decide), e 25 (by decide), e 26 (by decide), e 27 (by decide), e 28 (by decide), e 29 (by decide)]
  rfl
theorem xe_24 (e : ∀ i, i < 102 → a1 i = a i) : xE g a1 24 f = xE g a 24 f := rfl
theorem xe_25 (e : ∀ i, i < 102 → a1 i = a i) : xE g a1 25 f = xE g a 25 f := rfl
theorem xe_26 (e : ∀ i, i < 102 → a1 i = a i) : xE g a1 26 f = xE g a 26 f := rfl
theorem xe_27 (e : ∀ i, i < 102 → a1 i = a i) : xE g a1 27 f = xE g a 27 f := rfl
theorem xe_28 (e : ∀ i, i < 102 → a1 i = a i) : xE g a1 28 f = xE g a 28 f := rfl
theorem xe_29 (e : ∀ i, i < 102 → a1 i = a i) : xE g a1 29 f = xE g a 29 f := rfl
theorem xe_30 (e2 : ∀ i, i < 102 + P.length → a1 i = a i) (hs : ∀ i t, dq (f i) = some t → t < P.length) : xE g a1 30 f = xE g a 30 f := by
  have h0 : (fun i => (dq (f i)).map (fun t => a1 (102 + t))) = (fun i => (dq (f i)).map (fun t => a (102 + t))) := by
    funext i
    cases hd : dq (f i) with
    | none => rfl
    | some t => show some (a1 (102 + t)) = some (a (102 + t)); rw [e2 (102 + t) (by have := hs i t hd; omega)]
  exact congrArg (fun F => (Sum.inl (gS g, 8, Sum.inr (Sum.inr (Sum.inr (Sum.inr F)))) : va_E)) h0
theorem xe_31 (e : ∀ i, i < 102 → a1 i = a i) : xE g a1 31 f = xE g a 31 f := by
  have h0 : (fun i => if i < 9 then some (a1 (32 + i)) else none) = (fun i => if i < 9 then some (a (32 + i)) else none) := by
    funext i
    by_cases hi : i < 9
    · rw [if_pos hi, if_pos hi, e (32 + i) (by omega)]
    · rw [if_neg hi, if_neg hi]
  exact congrArg (fun F => (Sum.inl (gII g, 9, Sum.inr (Sum.inr (Sum.inr (Sum.inr F)))) : va_E)) h0
theorem xe_32 (e : ∀ i, i < 102 → a1 i = a i) : xE g a1 32 f = xE g a 32 f := rfl
theorem xe_33 (e : ∀ i, i < 102 → a1 i = a i) : xE g a1 33 f = xE g a 33 f := rfl
theorem xe_34 (e : ∀ i, i < 102 → a1 i = a i) : xE g a1 34 f = xE g a 34 f := rfl
theorem xe_35 (e : ∀ i, i < 102 → a1 i = a i) : xE g a1 35 f = xE g a 35 f := rfl
theorem xe_36 (e : ∀ i, i < 102 → a1 i = a i) : xE g a1 36 f = xE g a 36 f := rfl
theorem xe_37 (e : ∀ i, i < 102 → a1 i = a i) : xE g a1 37 f = xE g a 37 f := rfl
theorem xe_38 (e : ∀ i, i < 102 → a1 i = a i) : xE g a1 38 f = xE g a 38 f := rfl
theorem xe_39 (e : ∀ i, i < 102 → a1 i = a i) : xE g a1 39 f = xE g a 39 f := rfl
theorem xe_40 (e : ∀ i, i < 102 → a1 i = a i) : xE g a1 40 f = xE g a 40 f := rfl
theorem xe_41 (e : ∀ i, i < 102 → a1 i = a i) : xE g a1 41 f = xE g a 41 f := by
  show (Sum.inr (3, [.int (f 0), .int (f 1), .int (f 2), .int (f 3), .int (f 4), .ref (a1 42), .ref (a1 43), .ref (a1 44), .ref (a1 45), .ref (a1 53), .ref (a1 61), .ref (a1 63), .ref (a1 70), .ref (a1 71)]) : va_E) = _
  rw [e 42 (by decide), e 43 (by decide), e 44 (by decide), e 45 (by decide), e 53 (by decide), e 61 (by decide), e 63 (by decide), e 70 (by decide), e 71 (by decide)]
  rfl
theorem xe_42 (e : ∀ i, i < 102 → a1 i = a i) : xE g a1 42 f = xE g a 42 f := rfl
theorem xe_43 (e : ∀ i, i < 102 → a1 i = a i) : xE g a1 43 f = xE g a 43 f := rfl
theorem xe_44 (e : ∀ i, i < 102 → a1 i = a i) : xE g a1 44 f = xE g a 44 f := rfl
theorem xe_45 (e : ∀ i, i < 102 → a1 i = a i) : xE g a1 45 f = xE g a 45 f := by
  have h0 : (fun i => if i < 7 then some (a1 (46 + i)) else none) = (fun i => if i < 7 then some (a (46 + i)) else none) := by
    funext i
    by_cases hi : i < 7
    · rw [if_pos hi, if_pos hi, e (46 + i) (by omega)]
    · rw [if_neg hi, if_neg hi]
  exact congrArg (fun F => (Sum.inl (gII g, 7, Sum.inr (Sum.inr (Sum.inr (Sum.inr F)))) : va_E)) h0
theorem xe_46 (e : ∀ i, i < 102 → a1 i = a i) : xE g a1 46 f = xE g a 46 f := rfl
theorem xe_47 (e : ∀ i, i < 102 → a1 i = a i) : xE g a1 47 f = xE g a 47 f := rfl
theorem xe_48 (e : ∀ i, i < 102 → a1 i = a i) : xE g a1 48 f = xE g a 48 f := rfl
theorem xe_49 (e : ∀ i, i < 102 → a1 i = a i) : xE g a1 49 f = xE g a 49 f := rfl
theorem xe_50 (e : ∀ i, i < 102 → a1 i = a i) : xE g a1 50 f = xE g a 50 f := rfl
theorem xe_51 (e : ∀ i, i < 102 → a1 i = a i) : xE g a1 51 f = xE g a 51 f := rfl
theorem xe_52 (e : ∀ i, i < 102 → a1 i = a i) : xE g a1 52 f = xE g a 52 f := rfl
theorem xe_53 (e : ∀ i, i < 102 → a1 i = a i) : xE g a1 53 f = xE g a 53 f := by
  have h0 : (fun i => if i < 7 then some (a1 (54 + i)) else none) = (fun i => if i < 7 then some (a (54 + i)) else none) := by
    funext i
    by_cases hi : i < 7
    · rw [if_pos hi, if_pos hi, e (54 + i) (by omega)]
    · rw [if_neg hi, if_neg hi]
  exact congrArg (fun F => (Sum.inl (gII g, 7, Sum.inr (Sum.inr (Sum.inr (Sum.inr F)))) : va_E)) h0
theorem xe_54 (e : ∀ i, i < 102 → a1 i = a i) : xE g a1 54 f = xE g a 54 f := rfl
theorem xe_55 (e : ∀ i, i < 102 → a1 i = a i) : xE g a1 55 f = xE g a 55 f := rfl
theorem xe_56 (e : ∀ i, i < 102 → a1 i = a i) : xE g a1 56 f = xE g a 56 f := rfl
theorem xe_57 (e : ∀ i, i < 102 → a1 i = a i) : xE g a1 57 f = xE g a 57 f := rfl
theorem xe_58 (e : ∀ i, i < 102 → a1 i = a i) : xE g a1 58 f = xE g a 58 f := rfl
theorem xe_59 (e : ∀ i, i < 102 → a1 i = a i) : xE g a1 59 f = xE g a 59 f := rfl
theorem xe_60 (e : ∀ i, i < 102 → a1 i = a i) : xE g a1 60 f = xE g a 60 f := rfl
theorem xe_61 (e : ∀ i, i < 102 → a1 i = a i) : xE g a1 61 f = xE g a 61 f := by
  show (Sum.inr (6, [.ref (a1 62), .int (f 1), .int (f 2)]) : va_E) = _
  rw [e 62 (by decide)]
  rfl
theorem xe_62 (e : ∀ i, i < 102 → a1 i = a i) : xE g a1 62 f = xE g a 62 f := rfl
theorem xe_63 (e : ∀ i, i < 102 → a1 i = a i) : xE g a1 63 f = xE g a 63 f := by
  show (Sum.inr (10, [.int (f 0), .int (f 1), .int (f 2), .int (f 3), .int (f 4), .ref (a1 64), .ref (a1 65), .ref (a1 66), .ref (a1 67), .ref (a1 68), .ref (a1 69)]) : va_E) = _
  rw [e 64 (by decide), e 65 (by decide), e 66 (by decide), e 67 (by decide), e 68 (by decide), e 69 (by decide)]
  rfl
theorem xe_64 (e : ∀ i, i < 102 → a1 i = a i) : xE g a1 64 f = xE g a 64 f := rfl
theorem xe_65 (e : ∀ i, i < 102 → a1 i = a i) : xE g a1 65 f = xE g a 65 f := rfl
theorem xe_66 (e : ∀ i, i < 102 → a1 i = a i) : xE g a1 66 f = xE g a 66 f := rfl
theorem xe_67 (e : ∀ i, i < 102 → a1 i = a i) : xE g a1 67 f = xE g a 67 f := rfl
theorem xe_68 (e : ∀ i, i < 102 → a1 i = a i) : xE g a1 68 f = xE g a 68 f := rfl
theorem xe_69 (e : ∀ i, i < 102 → a1 i = a i) : xE g a1 69 f = xE g a 69 f := rfl
theorem xe_70 (e2 : ∀ i, i < 102 + P.length → a1 i = a i) (hs : ∀ i t, dq (f i) = some t → t < P.length) : xE g a1 70 f = xE g a 70 f := by
  have h0 : (fun i => (dq (f i)).map (fun t => a1 (102 + t))) = (fun i => (dq (f i)).map (fun t => a (102 + t))) := by
    funext i
    cases hd : dq (f i) with
    | none => rfl
    | some t => show some (a1 (102 + t)) = some (a (102 + t)); rw [e2 (102 + t) (by have := hs i t hd; omega)]
  exact congrArg (fun F => (Sum.inl (gS g, 8, Sum.inr (Sum.inr (Sum.inr (Sum.inr F)))) : va_E)) h0
theorem xe_71 (e : ∀ i, i < 102 → a1 i = a i) : xE g a1 71 f = xE g a 71 f := by
  have h0 : (fun i => if i < 9 then some (a1 (72 + i)) else none) = (fun i => if i < 9 then some (a (72 + i)) else none) := by
    funext i
    by_cases hi : i < 9
    · rw [if_pos hi, if_pos hi, e (72 + i) (by omega)]
    · rw [if_neg hi, if_neg hi]
  exact congrArg (fun F => (Sum.inl (gII g, 9, Sum.inr (Sum.inr (Sum.inr (Sum.inr F)))) : va_E)) h0
theorem xe_72 (e : ∀ i, i < 102 → a1 i = a i) : xE g a1 72 f = xE g a 72 f := rfl
theorem xe_73 (e : ∀ i, i < 102 → a1 i = a i) : xE g a1 73 f = xE g a 73 f := rfl
theorem xe_74 (e : ∀ i, i < 102 → a1 i = a i) : xE g a1 74 f = xE g a 74 f := rfl
theorem xe_75 (e : ∀ i, i < 102 → a1 i = a i) : xE g a1 75 f = xE g a 75 f := rfl
theorem xe_76 (e : ∀ i, i < 102 → a1 i = a i) : xE g a1 76 f = xE g a 76 f := rfl
theorem xe_77 (e : ∀ i, i < 102 → a1 i = a i) : xE g a1 77 f = xE g a 77 f := rfl
theorem xe_78 (e : ∀ i, i < 102 → a1 i = a i) : xE g a1 78 f = xE g a 78 f := rfl
theorem xe_79 (e : ∀ i, i < 102 → a1 i = a i) : xE g a1 79 f = xE g a 79 f := rfl
theorem xe_80 (e : ∀ i, i < 102 → a1 i = a i) : xE g a1 80 f = xE g a 80 f := rfl
theorem xe_81 (e : ∀ i, i < 102 → a1 i = a i) : xE g a1 81 f = xE g a 81 f := by
  show (Sum.inr (10, [.int (f 0), .int (f 1), .int (f 2), .int (f 3), .int (f 4), .ref (a1 82), .ref (a1 83), .ref (a1 84), .ref (a1 85), .ref (a1 86), .ref (a1 87)]) : va_E) = _
  rw [e 82 (by decide), e 83 (by decide), e 84 (by decide), e 85 (by decide), e 86 (by decide), e 87 (by decide)]
  rfl
theorem xe_82 (e : ∀ i, i < 102 → a1 i = a i) : xE g a1 82 f = xE g a 82 f := rfl
theorem xe_83 (e : ∀ i, i < 102 → a1 i = a i) : xE g a1 83 f = xE g a 83 f := rfl
theorem xe_84 (e : ∀ i, i < 102 → a1 i = a i) : xE g a1 84 f = xE g a 84 f := rfl
theorem xe_85 (e : ∀ i, i < 102 → a1 i = a i) : xE g a1 85 f = xE g a 85 f := rfl
theorem xe_86 (e : ∀ i, i < 102 → a1 i = a i) : xE g a1 86 f = xE g a 86 f := rfl
theorem xe_87 (e : ∀ i, i < 102 → a1 i = a i) : xE g a1 87 f = xE g a 87 f := rfl
theorem xe_88 (e : ∀ i, i < 102 → a1 i = a i) : xE g a1 88 f = xE g a 88 f := by
  show (Sum.inr (8, [.ref (a1 89), .ref (a1 90), .int (f 2)]) : va_E) = _
  rw [e 89 (by decide), e 90 (by decide)]
  rfl
theorem xe_89 (e : ∀ i, i < 102 → a1 i = a i) : xE g a1 89 f = xE g a 89 f := rfl
theorem xe_90 (e : ∀ i, i < 102 → a1 i = a i) : xE g a1 90 f = xE g a 90 f := rfl
theorem xe_91 (e : ∀ i, i < 102 → a1 i = a i) : xE g a1 91 f = xE g a 91 f := rfl
theorem xe_92 (e : ∀ i, i < 102 → a1 i = a i) : xE g a1 92 f = xE g a 92 f := rfl
theorem xe_93 (e : ∀ i, i < 102 → a1 i = a i) : xE g a1 93 f = xE g a 93 f := by
  show (Sum.inr (12, [.int (f 0), .ref (a1 94), .ref (a1 95), .int (f 3), .int (f 4), .int (f 5), .int (f 6), .int (f 7), .ref (a1 96), .ref (a1 97), .int (f 10), .ref (a1 98), .ref (a1 99), .int (f 13), .int (f 14), .int (f 15), .int (f 16), .int (f 17), .int (f 18), .int (f 19), .int (f 20), .int (f 21), .int (f 22), .int (f 23), .int (f 24), .int (f 25), .ref (a1 100), .ref (a1 101), .int (f 28), .int (f 29), .int (f 30), .int (f 31)]) : va_E) = _
  rw [e 94 (by decide), e 95 (by decide), e 96 (by decide), e 97 (by decide), e 98 (by decide), e 99 (by decide), e 100 (by decide), e 101 (by decide)]
  rfl
theorem xe_94 (e : ∀ i, i < 102 → a1 i = a i) : xE g a1 94 f = xE g a 94 f := rfl
theorem xe_95 (e : ∀ i, i < 102 → a1 i = a i) : xE g a1 95 f = xE g a 95 f := rfl
theorem xe_96 (e : ∀ i, i < 102 → a1 i = a i) : xE g a1 96 f = xE g a 96 f := rfl
theorem xe_97 (e : ∀ i, i < 102 → a1 i = a i) : xE g a1 97 f = xE g a 97 f := rfl
theorem xe_98 (e : ∀ i, i < 102 → a1 i = a i) : xE g a1 98 f = xE g a 98 f := rfl
theorem xe_99 (e : ∀ i, i < 102 → a1 i = a i) : xE g a1 99 f = xE g a 99 f := rfl
theorem xe_100 (e : ∀ i, i < 102 → a1 i = a i) : xE g a1 100 f = xE g a 100 f := rfl
theorem xe_101 (e : ∀ i, i < 102 → a1 i = a i) : xE g a1 101 f = xE g a 101 f := rfl
theorem WD_ext {h : HT} {r : SR} (e2 : ∀ i, i < 102 + P.length → a1 i = a i) (h30 : ∀ i t, dq (h 30 i) = some t → t < P.length) (h70 : ∀ i t, dq (h 70 i) = some t → t < P.length) : WD g a h P ++ [(a1 (102 + P.length), .inr (r.1, [.int r.2.1, .int r.2.2]))] = WD g a1 h (P ++ [r]) := by
  have e : ∀ i, i < 102 → a1 i = a i := fun i hi => e2 i (by omega)
  have hx : ∀ k, k < 102 → xE g a1 k (h k) = xE g a k (h k) := by
    intro k hk
    rcases (show k = 0 ∨ k = 1 ∨ k = 2 ∨ k = 3 ∨ k = 4 ∨ k = 5 ∨ k = 6 ∨ k = 7 ∨ k = 8 ∨ k = 9 ∨ k = 10 ∨ k = 11 ∨ k = 12 ∨ k = 13 ∨ k = 14 ∨ k = 15 ∨ k = 16 ∨ k = 17 ∨ k = 18 ∨ k = 19 ∨ k = 20 ∨ k = 21 ∨ k = 22 ∨ k = 23 ∨ k = 24 ∨ k = 25 ∨ k = 26 ∨ k = 27 ∨ k = 28 ∨ k = 29 ∨ k = 30 ∨ k = 31 ∨ k = 32 ∨ k = 33 ∨ k = 34 ∨ k = 35 ∨ k = 36 ∨ k = 37 ∨ k = 38 ∨ k = 39 ∨ k = 40 ∨ k = 41 ∨ k = 42 ∨ k = 43 ∨ k = 44 ∨ k = 45 ∨ k = 46 ∨ k = 47 ∨ k = 48 ∨ k = 49 ∨ k = 50 ∨ k = 51 ∨ k = 52 ∨ k = 53 ∨ k = 54 ∨ k = 55 ∨ k = 56 ∨ k = 57 ∨ k = 58 ∨ k = 59 ∨ k = 60 ∨ k = 61 ∨ k = 62 ∨ k = 63 ∨ k = 64 ∨ k = 65 ∨ k = 66 ∨ k = 67 ∨ k = 68 ∨ k = 69 ∨ k = 70 ∨ k = 71 ∨ k = 72 ∨ k = 73 ∨ k = 74 ∨ k = 75 ∨ k = 76 ∨ k = 77 ∨ k = 78 ∨ k = 79 ∨ k = 80 ∨ k = 81 ∨ k = 82 ∨ k = 83 ∨ k = 84 ∨ k = 85 ∨ k = 86 ∨ k = 87 ∨ k = 88 ∨ k = 89 ∨ k = 90 ∨ k = 91 ∨ k = 92 ∨ k = 93 ∨ k = 94 ∨ k = 95 ∨ k = 96 ∨ k = 97 ∨ k = 98 ∨ k = 99 ∨ k = 100 ∨ k = 101 by omega) with rfl | rfl | rfl | rfl | rfl | rfl | rfl | rfl | rfl | rfl | rfl | rfl | rfl | rfl | rfl | rfl | rfl | rfl | rfl | rfl | rfl | rfl | rfl | rfl | rfl | rfl | rfl | rfl | rfl | rfl | rfl | rfl | rfl | rfl | rfl | rfl | rfl | rfl | rfl | rfl | rfl | rfl | rfl | rfl | rfl | rfl | rfl | rfl | rfl | rfl | rfl | rfl | rfl | rfl | rfl | rfl | rfl | rfl | rfl | rfl | rfl | rfl | rfl | rfl | rfl | rfl | rfl | rfl | rfl | rfl | rfl | rfl | rfl | rfl | rfl | rfl | rfl | rfl | rfl | rfl | rfl | rfl | rfl | rfl | rfl | rfl | rfl | rfl | rfl | rfl | rfl | rfl | rfl | rfl | rfl | rfl | rfl | rfl | rfl | rfl | rfl | rfl
    · exact xe_0 e
    · exact xe_1 e
    · exact xe_2 e
    · exact xe_3 e
    · exact xe_4 e
    · exact xe_5 e
    · exact xe_6 e
    · exact xe_7 e
    · exact xe_8 e
    · exact xe_9 e
    · exact xe_10 e
    · exact xe_11 e
    · exact xe_12 e
    · exact xe_13 e
    · exact xe_14 e
    · exact xe_15 e
    · exact xe_16 e
    · exact xe_17 e
    · exact xe_18 e
    · exact xe_19 e
    · exact xe_20 e
    · exact xe_21 e
    · exact xe_22 e
    · exact xe_23 e
    · exact xe_24 e
    · exact xe_25 e
    · exact xe_26 e
    · exact xe_27 e
    · exact xe_28 e
    · exact xe_29 e
    · exact xe_30 e2 h30
    · exact xe_31 e
    · exact xe_32 e
    · exact xe_33 e
    · exact xe_34 e
    · exact xe_35 e
    · exact xe_36 e
    · exact xe_37 e
    · exact xe_38 e
    · exact xe_39 e
    · exact xe_40 e
    · exact xe_41 e
    · exact xe_42 e
    · exact xe_43 e
    · exact xe_44 e
    · exact xe_45 e
    · exact xe_46 e
    · exact xe_47 e
    · exact xe_48 e
    · exact xe_49 e
    · exact xe_50 e
    · exact xe_51 e
    · exact xe_52 e
    · exact xe_53 e
    · exact xe_54 e
    · exact xe_55 e
    · exact xe_56 e
    · exact xe_57 e
    · exact xe_58 e
    · exact xe_59 e
    · exact xe_60 e
    · exact xe_61 e
    · exact xe_62 e
    · exact xe_63 e
    · exact xe_64 e
    · exact xe_65 e
    · exact xe_66 e
    · exact xe_67 e
    · exact xe_68 e
    · exact xe_69 e
    · exact xe_70 e2 h70
    · exact xe_71 e
    · exact xe_72 e
    · exact xe_73 e
    · exact xe_74 e
    · exact xe_75 e
    · exact xe_76 e
    · exact xe_77 e
    · exact xe_78 e
    · exact xe_79 e
    · exact xe_80 e
    · exact xe_81 e
    · exact xe_82 e
    · exact xe_83 e
    · exact xe_84 e
    · exact xe_85 e
    · exact xe_86 e
    · exact xe_87 e
    · exact xe_88 e
    · exact xe_89 e
    · exact xe_90 e
    · exact xe_91 e
    · exact xe_92 e
    · exact xe_93 e
    · exact xe_94 e
    · exact xe_95 e
    · exact xe_96 e
    · exact xe_97 e
    · exact xe_98 e
    · exact xe_99 e
    · exact xe_100 e
    · exact xe_101 e
  unfold WD
  rw [List.mapIdx_concat, List.append_assoc]
  congr 1
  · refine List.map_congr_left fun k hk => ?_
    have hk2 := List.mem_range.mp hk
    rw [hx k hk2, e k hk2]
  · congr 1
    refine List.ext_getElem? fun i => ?_
    rw [List.getElem?_mapIdx, List.getElem?_mapIdx]
    cases hi : P[i]? with
    | none => rfl
    | some r0 =>
      have hl := (List.getElem?_eq_some_iff.mp hi).1
      show some (a (102 + i), _) = some (a1 (102 + i), _)
      rw [e2 (102 + i) (by omega)]
end EXT
def fX11_standing (P : PT) (l1 l2 : Int32) (h : HT) : Option ((Int32 × HT) × PT) :=
  Option.bind (fX11_outside l1 6 h) fun z1 =>
  if z1.1 = 0 then
    Option.bind (fX11_outside l2 9 z1.2) fun z2 =>
    if z2.1 = 0 then
      if z2.2 1 3 < 8 then
        Option.bind (ck 8 (z2.2 1 3)) fun j =>
        some ((z2.2 1 3, hu (hu z2.2 30 j (nI (P.length + 1))) 1 3 ((hu z2.2 30 j (nI (P.length + 1))) 1 3 + 1)), P ++ [(kc l1, z2.2 1 3, l2)])
      else some ((-4, z2.2), P)
    else some ((-2, z2.2), P)
  else some ((-1, z1.2), P)
def PoS (g : GP) (a : Nat → Nat) (P : PT) (z : (Int32 × HT) × PT) : Option Value → va_W → Prop := fun v w => v = some (.int z.1.1) ∧ ∃ a1 : Nat → Nat, (∀ i, i < 102 + P.length → a1 i = a i) ∧ w = WD g a1 z.1.2 z.2
theorem dq_nI {t : Nat} (h : t < 1000) : dq (nI (t + 1)) = some t := by
  have h0 : ¬ nI (t + 1) = 0 := nI_ne0 (by omega) (by omega)
  unfold dq
  rw [if_neg h0, nI_clamp (by omega)]
  rfl
theorem outside_h {l0 l1 : Int32} {h : HT} {z : Int32 × HT} (hf : fX11_outside l0 l1 h = some z) : z.2 = h := by
  have key : ∀ s0 : Int32, fX11_outside_14 s0 h = some z → z.2 = h := by
    intro s0 h0
    unfold fX11_outside_14 at h0
    obtain ⟨u, -, h1⟩ := Option.bind_eq_some_iff.mp h0
    rw [← Option.some.inj h1]
  unfold fX11_outside at hf
  by_cases c : l0 < 0
  · rw [if_pos c] at hf; exact key _ hf
  · rw [if_neg c] at hf
    by_cases c2 : l0 ≤ l1
    · rw [if_pos c2] at hf; exact key _ hf
    · rw [if_neg c2] at hf; exact key _ hf
set_option maxHeartbeats 4000000 in
theorem ctX11_standing {g : GP} {a : Nat → Nat} {P : PT} {h : HT} {z : (Int32 × HT) × PT} {l1 l2 : Int32} (hn : P.length < 900) (h30 : ∀ i t, dq (h 30 i) = some t → t < P.length) (h70 : ∀ i t, dq (h 70 i) = some t → t < P.length) (hf : fX11_standing P l1 l2 h = some z) : Ct g 6 1 2 mX11_standing [.ref (a 0), .int l1, .int l2] (WD g a h P) (PoS g a P z) := by
  refine Ct.of (by decide +kernel) (Nat.le_of_ble_eq_true rfl) fun J hJ => ?_
  show Z g mX11_standing J 0 0 0 [some (.ref (a 0)), some (.int l1), some (.int l2), none] [] (WD g a h P)
  unfold fX11_standing at hf
  obtain ⟨z1, ez1, hf⟩ := Option.bind_eq_some_iff.mp hf
  have eh1 := outside_h ez1
  refine Z.iload_n (n := 1) dX11_standing_0 rfl rfl ?_
  refine Z.bipush (n := 3) (v := 6) dX11_standing_1 rfl (by decide +kernel) ?_
  refine Z.callS (n := 6) vX11_46 (ctX11_outside ez1) hJ.rm (Nat.le_of_ble_eq_true rfl) rfl rfl (Nat.le_of_ble_eq_true rfl) (Nat.le_of_ble_eq_true rfl) rfl (Nat.le_of_ble_eq_true rfl) rfl dX11_standing_3 rfl (fun v w hw => ?_)
  obtain ⟨rfl, rfl⟩ := hw
  show Z _ _ _ _ _ _ _ [.int z1.1] _
  refine Z.if_eq (tgt := 11) (n := 9) dX11_standing_6 rfl rfl (fun c1 => ?_) (fun c1 => ?_)
  · rw [if_pos c1] at hf
    obtain ⟨z2, ez2, hf⟩ := Option.bind_eq_some_iff.mp hf
    have eh2 := outside_h ez2
    refine Z.iload_n (n := 12) dX11_standing_11 rfl rfl ?_
    refine Z.bipush (n := 14) (v := 9) dX11_standing_12 rfl (by decide +kernel) ?_
    refine Z.callS (n := 17) vX11_46 (ctX11_outside ez2) hJ.rm (Nat.le_of_ble_eq_true rfl) rfl rfl (Nat.le_of_ble_eq_true rfl) (Nat.le_of_ble_eq_true rfl) rfl (Nat.le_of_ble_eq_true rfl) rfl dX11_standing_14 rfl (fun v w hw => ?_)
    obtain ⟨rfl, rfl⟩ := hw
    show Z _ _ _ _ _ _ _ [.int z2.1] _
    refine Z.if_eq (tgt := 23) (n := 20) dX11_standing_17 rfl rfl (fun c2 => ?_) (fun c2 => ?_)
    · rw [if_pos c2] at hf
      refine Z.aload_n (n := 24) dX11_standing_23 rfl rfl ?_
      refine Z.getf (n := 27) fX11_12 dX11_standing_24 rfl W0 rfl ?_
      refine Z.getf (n := 30) fX11_115 dX11_standing_27 rfl W1 rfl ?_
      refine Z.istore_n (n := 31) dX11_standing_30 rfl (by decide) rfl ?_
      refine Z.iload_n (n := 32) dX11_standing_31 rfl rfl ?_
      refine Z.bipush (n := 34) (v := 8) dX11_standing_32 rfl (by decide +kernel) ?_
      refine Z.icmp_lt (tgt := 40) (n := 37) dX11_standing_34 rfl rfl (fun c3 => ?_) (fun c3 => ?_)
      · rw [if_pos c3] at hf
        obtain ⟨j, ej, hf⟩ := Option.bind_eq_some_iff.mp hf
        obtain ⟨hij, hlj⟩ := ck_spec ej
        have hz := Option.some.inj hf
        subst hz
        refine Z.aload_n (n := 41) dX11_standing_40 rfl rfl ?_
        refine Z.getf (n := 44) fX11_12 dX11_standing_41 rfl W0 rfl ?_
        refine Z.getf (n := 47) fX11_118 dX11_standing_44 rfl W1 rfl ?_
        refine Z.iload_n (n := 48) dX11_standing_47 rfl rfl ?_
        refine Z.iload_n (n := 49) dX11_standing_48 rfl rfl ?_
        refine Z.iload_n (n := 50) dX11_standing_49 rfl rfl ?_
        refine Z.iload_n (n := 51) dX11_standing_50 rfl rfl ?_
        refine Z.callS (n := 54) vX11_122 (ctX11_made (l0 := l1) (nu := z2.2 1 3) (v := l2)) hJ.rm (Nat.le_of_ble_eq_true rfl) rfl rfl (Nat.le_of_ble_eq_true rfl) (Nat.le_of_ble_eq_true rfl) rfl (Nat.le_of_ble_eq_true rfl) rfl dX11_standing_51 rfl (fun v w hw => ?_)
        obtain ⟨b, rfl, rfl⟩ := hw
        have q30 : ∀ i t, dq (z2.2 30 i) = some t → t < P.length := by rw [eh2, eh1]; exact h30
        have q70 : ∀ i t, dq (z2.2 70 i) = some t → t < P.length := by rw [eh2, eh1]; exact h70
        obtain ⟨a1, ha, hb⟩ : ∃ a1 : Nat → Nat, (∀ i, i < 102 + P.length → a1 i = a i) ∧ a1 (102 + P.length) = b := ⟨fun i => if i = 102 + P.length then b else a i, fun i hi => if_neg (by omega), if_pos rfl⟩
        have hW := WD_ext (g := g) (a := a) (a1 := a1) (P := P) (h := z2.2) (r := (kc l1, z2.2 1 3, l2)) ha q30 q70
        rw [hb] at hW
        have hW : WD g a z2.2 P ++ [(b, .inr (kc l1, [.int (z2.2 1 3), .int l2]))] = WD g a1 z2.2 (P ++ [(kc l1, z2.2 1 3, l2)]) := hW
        rw [hW]
        have ea0 : a 0 = a1 0 := (ha 0 (by omega)).symm
        have ea30 : a 30 = a1 30 := (ha 30 (by omega)).symm
        rw [ea0, ea30]
        show Z _ _ _ _ _ _ _ [.ref b, .int (z2.2 1 3), .ref (a1 30)] _
        have hpr : (P ++ [((kc l1, z2.2 1 3, l2) : SR)])[P.length]? = some (kc l1, z2.2 1 3, l2) := by rw [List.getElem?_append_right (Nat.le_refl _), Nat.sub_self]; rfl
        have hat := WD_pool (g := g) (a := a1) (h := z2.2) hpr
        rw [hb] at hat
        have hkc : SC (kc l1) := by
          unfold kc
          repeat (first | exact sc_5 | (split; first | exact sc_0 | exact sc_4 | exact sc_9 | exact sc_2 | exact sc_1 | exact sc_7))
        obtain ⟨q9, hq9, hc9⟩ := SC_ca hkc
        have hv : some b = (dq (nI (P.length + 1))).map (fun t => a1 (102 + t)) := by rw [dq_nI (by omega)]; show some b = some (a1 (102 + P.length)); rw [hb]
        refine Z.aast (ws' := WD g a1 (hu z2.2 30 j (nI (P.length + 1))) (P ++ [(kc l1, z2.2 1 3, l2)])) (j := j) (n := 55) dX11_standing_54 rfl W30 hat hq9 hc9 hij hlj (by decide) (by rw [hv]; exact W30s) ?_
        refine Z.aload_n (n := 56) dX11_standing_55 rfl rfl ?_
        refine Z.getf (n := 59) fX11_12 dX11_standing_56 rfl W0 rfl ?_
        refine Z.dup (n := 60) dX11_standing_59 rfl rfl ?_
        refine Z.getf (n := 63) fX11_115 dX11_standing_60 rfl W1 rfl ?_
        refine Z.iconst (n := 64) (v := 1) dX11_standing_63 rfl (by decide +kernel) ?_
        refine Z.iadd (n := 65) dX11_standing_64 rfl ?_
        refine Z.putf (n := 68) pX11_115 dX11_standing_65 rfl W1 (Nat.le_of_ble_eq_true rfl) rfl rfl W1s_3 ?_
        refine Z.iload_n (n := 69) dX11_standing_68 rfl rfl ?_
        exact Z.iret hJ dX11_standing_69 rfl (Nat.le_of_ble_eq_true rfl) (Nat.le_of_ble_eq_true rfl) ⟨rfl, a1, ha, rfl⟩
      · rw [if_neg c3] at hf
        have hz := Option.some.inj hf
        subst hz
        refine Z.bipush (n := 39) (v := -4) dX11_standing_37 rfl (by decide +kernel) ?_
        exact Z.iret hJ dX11_standing_39 rfl (Nat.le_of_ble_eq_true rfl) (Nat.le_of_ble_eq_true rfl) ⟨rfl, a, fun _ _ => rfl, rfl⟩
    · rw [if_neg c2] at hf
      have hz := Option.some.inj hf
      subst hz
      refine Z.bipush (n := 22) (v := -2) dX11_standing_20 rfl (by decide +kernel) ?_
      exact Z.iret hJ dX11_standing_22 rfl (Nat.le_of_ble_eq_true rfl) (Nat.le_of_ble_eq_true rfl) ⟨rfl, a, fun _ _ => rfl, rfl⟩
  · rw [if_neg c1] at hf
    have hz := Option.some.inj hf
    subst hz
    refine Z.iconst (n := 10) (v := -1) dX11_standing_9 rfl (by decide +kernel) ?_
    exact Z.iret hJ dX11_standing_10 rfl (Nat.le_of_ble_eq_true rfl) (Nat.le_of_ble_eq_true rfl) ⟨rfl, a, fun _ _ => rfl, rfl⟩
