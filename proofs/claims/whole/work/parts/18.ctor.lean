/-! the constructors, over any cells before -/
theorem ap_get {ws0 L : va_W} {i : Nat} {x : Nat × va_E} (h : L[i]? = some x) : (ws0 ++ L)[ws0.length + i]? = some x := by
  rw [List.getElem?_append_right (by omega), Nat.add_sub_cancel_left]
  exact h
theorem ap_set {ws0 L L' : va_W} {i : Nat} {x : Nat × va_E} (h : L.set i x = L') : (ws0 ++ L).set (ws0.length + i) x = ws0 ++ L' := by
  rw [List.set_append_right _ _ (by omega), Nat.add_sub_cancel_left, h]
set_option maxHeartbeats 8000000 in
set_option maxRecDepth 4000 in
theorem ctX6_init {g : GP} {ws0 : va_W} {b : Nat} : Ct g 2 1 120 mX6_init [.ref b] (ws0 ++ [(b, .inr (6, [.null, .int 0, .int 0]))]) (fun r w => r = none ∧ ∃ (b1 : Nat), w = (ws0 ++ [(b, .inr (6, [.ref b1, .int 0, .int 0])), (b1, .inl (gI g, 120, .inl (fun _ => 0)))])) := by
  refine Ct.of (by decide +kernel) (Nat.le_of_ble_eq_true rfl) fun J hJ => ?_
  show Z g mX6_init J 0 0 0 [some (.ref b)] [] (ws0 ++ [(b, .inr (6, [.null, .int 0, .int 0]))])
  refine Z.aload_n (n := 1) dX6_init_0 rfl rfl ?_
  refine Z.objInit (n := 4) wX6_3 w_oi2 w_oi3 hJ.rm (Nat.le_of_ble_eq_true rfl) (Nat.le_of_ble_eq_true rfl) dX6_init_1 rfl ?_
  refine Z.aload_n (n := 5) dX6_init_4 rfl rfl ?_
  refine Z.bipush (n := 7) (v := 120) dX6_init_5 rfl (by decide +kernel) ?_
  refine Z.newI (N := 120) (n := 9) w_acI (by decide +kernel) (by decide) hJ.rm (Nat.le_of_ble_eq_true rfl) (Nat.le_of_ble_eq_true rfl) dX6_init_7 rfl (fun b1 => ?_)
  rw [List.append_assoc]
  refine Z.putF (ws' := (ws0 ++ [(b, .inr (6, [.ref b1, .int 0, .int 0])), (b1, .inl (gI g, 120, .inl (fun _ => 0)))])) (n := 12) pX6_9 (by decide +kernel) dX6_init_9 rfl (ap_get (i := 0) rfl) (Nat.le_of_ble_eq_true rfl) rfl rfl (ap_set (i := 0) rfl) ?_
  refine Z.aload_n (n := 13) dX6_init_12 rfl rfl ?_
  refine Z.iconst (n := 14) (v := 0) dX6_init_13 rfl (by decide +kernel) ?_
  refine Z.putf (ws' := (ws0 ++ [(b, .inr (6, [.ref b1, .int 0, .int 0])), (b1, .inl (gI g, 120, .inl (fun _ => 0)))])) (n := 17) pX6_15 dX6_init_14 rfl (ap_get (i := 0) rfl) (Nat.le_of_ble_eq_true rfl) rfl rfl (ap_set (i := 0) rfl) ?_
  refine Z.aload_n (n := 18) dX6_init_17 rfl rfl ?_
  refine Z.iconst (n := 19) (v := 0) dX6_init_18 rfl (by decide +kernel) ?_
  refine Z.putf (ws' := (ws0 ++ [(b, .inr (6, [.ref b1, .int 0, .int 0])), (b1, .inl (gI g, 120, .inl (fun _ => 0)))])) (n := 22) pX6_19 dX6_init_19 rfl (ap_get (i := 0) rfl) (Nat.le_of_ble_eq_true rfl) rfl rfl (ap_set (i := 0) rfl) ?_
  exact Z.vret hJ dX6_init_22 rfl (Nat.le_of_ble_eq_true rfl) (Nat.le_of_ble_eq_true rfl) ⟨rfl, b1, rfl⟩
set_option maxHeartbeats 8000000 in
set_option maxRecDepth 4000 in
theorem ctX10_init {g : GP} {ws0 : va_W} {b : Nat} : Ct g 2 6 384 mX10_init [.ref b] (ws0 ++ [(b, .inr (10, [.int 0, .int 0, .int 0, .int 0, .int 0, .null, .null, .null, .null, .null, .null]))]) (fun r w => r = none ∧ ∃ (b1 : Nat) (b2 : Nat) (b3 : Nat) (b4 : Nat) (b5 : Nat) (b6 : Nat), w = (ws0 ++ [(b, .inr (10, [.int 0, .int 0, .int 0, .int 0, .int 0, .ref b1, .ref b2, .ref b3, .ref b4, .ref b5, .ref b6])), (b1, .inl (gI g, 10, .inl (fun _ => 0))), (b2, .inl (gI g, 10, .inl (fun _ => 0))), (b3, .inl (gI g, 120, .inl (fun _ => 0))), (b4, .inl (gI g, 120, .inl (fun _ => 0))), (b5, .inl (gI g, 120, .inl (fun _ => 0))), (b6, .inl (gI g, 4, .inl (fun _ => 0)))])) := by
  refine Ct.of (by decide +kernel) (Nat.le_of_ble_eq_true rfl) fun J hJ => ?_
  show Z g mX10_init J 0 0 0 [some (.ref b)] [] (ws0 ++ [(b, .inr (10, [.int 0, .int 0, .int 0, .int 0, .int 0, .null, .null, .null, .null, .null, .null]))])
  refine Z.aload_n (n := 1) dX10_init_0 rfl rfl ?_
  refine Z.objInit (n := 4) wX10_3 w_oi2 w_oi3 hJ.rm (Nat.le_of_ble_eq_true rfl) (Nat.le_of_ble_eq_true rfl) dX10_init_1 rfl ?_
  refine Z.aload_n (n := 5) dX10_init_4 rfl rfl ?_
  refine Z.iconst (n := 6) (v := 0) dX10_init_5 rfl (by decide +kernel) ?_
  refine Z.putf (ws' := (ws0 ++ [(b, .inr (10, [.int 0, .int 0, .int 0, .int 0, .int 0, .null, .null, .null, .null, .null, .null]))])) (n := 9) pX10_9 dX10_init_6 rfl (ap_get (i := 0) rfl) (Nat.le_of_ble_eq_true rfl) rfl rfl (ap_set (i := 0) rfl) ?_
  refine Z.aload_n (n := 10) dX10_init_9 rfl rfl ?_
  refine Z.iconst (n := 11) (v := 0) dX10_init_10 rfl (by decide +kernel) ?_
  refine Z.putf (ws' := (ws0 ++ [(b, .inr (10, [.int 0, .int 0, .int 0, .int 0, .int 0, .null, .null, .null, .null, .null, .null]))])) (n := 14) pX10_15 dX10_init_11 rfl (ap_get (i := 0) rfl) (Nat.le_of_ble_eq_true rfl) rfl rfl (ap_set (i := 0) rfl) ?_
  refine Z.aload_n (n := 15) dX10_init_14 rfl rfl ?_
  refine Z.iconst (n := 16) (v := 0) dX10_init_15 rfl (by decide +kernel) ?_
  refine Z.putf (ws' := (ws0 ++ [(b, .inr (10, [.int 0, .int 0, .int 0, .int 0, .int 0, .null, .null, .null, .null, .null, .null]))])) (n := 19) pX10_18 dX10_init_16 rfl (ap_get (i := 0) rfl) (Nat.le_of_ble_eq_true rfl) rfl rfl (ap_set (i := 0) rfl) ?_
  refine Z.aload_n (n := 20) dX10_init_19 rfl rfl ?_
  refine Z.iconst (n := 21) (v := 0) dX10_init_20 rfl (by decide +kernel) ?_
  refine Z.putf (ws' := (ws0 ++ [(b, .inr (10, [.int 0, .int 0, .int 0, .int 0, .int 0, .null, .null, .null, .null, .null, .null]))])) (n := 24) pX10_21 dX10_init_21 rfl (ap_get (i := 0) rfl) (Nat.le_of_ble_eq_true rfl) rfl rfl (ap_set (i := 0) rfl) ?_
  refine Z.aload_n (n := 25) dX10_init_24 rfl rfl ?_
  refine Z.iconst (n := 26) (v := 0) dX10_init_25 rfl (by decide +kernel) ?_
  refine Z.putf (ws' := (ws0 ++ [(b, .inr (10, [.int 0, .int 0, .int 0, .int 0, .int 0, .null, .null, .null, .null, .null, .null]))])) (n := 29) pX10_24 dX10_init_26 rfl (ap_get (i := 0) rfl) (Nat.le_of_ble_eq_true rfl) rfl rfl (ap_set (i := 0) rfl) ?_
  refine Z.aload_n (n := 30) dX10_init_29 rfl rfl ?_
  refine Z.bipush (n := 32) (v := 10) dX10_init_30 rfl (by decide +kernel) ?_
  refine Z.newI (N := 10) (n := 34) w_acI (by decide +kernel) (by decide) hJ.rm (Nat.le_of_ble_eq_true rfl) (Nat.le_of_ble_eq_true rfl) dX10_init_32 rfl (fun b1 => ?_)
  rw [List.append_assoc]
  refine Z.putF (ws' := (ws0 ++ [(b, .inr (10, [.int 0, .int 0, .int 0, .int 0, .int 0, .ref b1, .null, .null, .null, .null, .null])), (b1, .inl (gI g, 10, .inl (fun _ => 0)))])) (n := 37) pX10_27 (by decide +kernel) dX10_init_34 rfl (ap_get (i := 0) rfl) (Nat.le_of_ble_eq_true rfl) rfl rfl (ap_set (i := 0) rfl) ?_
  refine Z.aload_n (n := 38) dX10_init_37 rfl rfl ?_
  refine Z.bipush (n := 40) (v := 10) dX10_init_38 rfl (by decide +kernel) ?_
  refine Z.newI (N := 10) (n := 42) w_acI (by decide +kernel) (by decide) hJ.rm (Nat.le_of_ble_eq_true rfl) (Nat.le_of_ble_eq_true rfl) dX10_init_40 rfl (fun b2 => ?_)
  rw [List.append_assoc]
  refine Z.putF (ws' := (ws0 ++ [(b, .inr (10, [.int 0, .int 0, .int 0, .int 0, .int 0, .ref b1, .ref b2, .null, .null, .null, .null])), (b1, .inl (gI g, 10, .inl (fun _ => 0))), (b2, .inl (gI g, 10, .inl (fun _ => 0)))])) (n := 45) pX10_31 (by decide +kernel) dX10_init_42 rfl (ap_get (i := 0) rfl) (Nat.le_of_ble_eq_true rfl) rfl rfl (ap_set (i := 0) rfl) ?_
  refine Z.aload_n (n := 46) dX10_init_45 rfl rfl ?_
  refine Z.bipush (n := 48) (v := 120) dX10_init_46 rfl (by decide +kernel) ?_
  refine Z.newI (N := 120) (n := 50) w_acI (by decide +kernel) (by decide) hJ.rm (Nat.le_of_ble_eq_true rfl) (Nat.le_of_ble_eq_true rfl) dX10_init_48 rfl (fun b3 => ?_)
  rw [List.append_assoc]
  refine Z.putF (ws' := (ws0 ++ [(b, .inr (10, [.int 0, .int 0, .int 0, .int 0, .int 0, .ref b1, .ref b2, .ref b3, .null, .null, .null])), (b1, .inl (gI g, 10, .inl (fun _ => 0))), (b2, .inl (gI g, 10, .inl (fun _ => 0))), (b3, .inl (gI g, 120, .inl (fun _ => 0)))])) (n := 53) pX10_34 (by decide +kernel) dX10_init_50 rfl (ap_get (i := 0) rfl) (Nat.le_of_ble_eq_true rfl) rfl rfl (ap_set (i := 0) rfl) ?_
  refine Z.aload_n (n := 54) dX10_init_53 rfl rfl ?_
  refine Z.bipush (n := 56) (v := 120) dX10_init_54 rfl (by decide +kernel) ?_
  refine Z.newI (N := 120) (n := 58) w_acI (by decide +kernel) (by decide) hJ.rm (Nat.le_of_ble_eq_true rfl) (Nat.le_of_ble_eq_true rfl) dX10_init_56 rfl (fun b4 => ?_)
  rw [List.append_assoc]
  refine Z.putF (ws' := (ws0 ++ [(b, .inr (10, [.int 0, .int 0, .int 0, .int 0, .int 0, .ref b1, .ref b2, .ref b3, .ref b4, .null, .null])), (b1, .inl (gI g, 10, .inl (fun _ => 0))), (b2, .inl (gI g, 10, .inl (fun _ => 0))), (b3, .inl (gI g, 120, .inl (fun _ => 0))), (b4, .inl (gI g, 120, .inl (fun _ => 0)))])) (n := 61) pX10_37 (by decide +kernel) dX10_init_58 rfl (ap_get (i := 0) rfl) (Nat.le_of_ble_eq_true rfl) rfl rfl (ap_set (i := 0) rfl) ?_
  refine Z.aload_n (n := 62) dX10_init_61 rfl rfl ?_
  refine Z.bipush (n := 64) (v := 120) dX10_init_62 rfl (by decide +kernel) ?_
  refine Z.newI (N := 120) (n := 66) w_acI (by decide +kernel) (by decide) hJ.rm (Nat.le_of_ble_eq_true rfl) (Nat.le_of_ble_eq_true rfl) dX10_init_64 rfl (fun b5 => ?_)
  rw [List.append_assoc]
  refine Z.putF (ws' := (ws0 ++ [(b, .inr (10, [.int 0, .int 0, .int 0, .int 0, .int 0, .ref b1, .ref b2, .ref b3, .ref b4, .ref b5, .null])), (b1, .inl (gI g, 10, .inl (fun _ => 0))), (b2, .inl (gI g, 10, .inl (fun _ => 0))), (b3, .inl (gI g, 120, .inl (fun _ => 0))), (b4, .inl (gI g, 120, .inl (fun _ => 0))), (b5, .inl (gI g, 120, .inl (fun _ => 0)))])) (n := 69) pX10_40 (by decide +kernel) dX10_init_66 rfl (ap_get (i := 0) rfl) (Nat.le_of_ble_eq_true rfl) rfl rfl (ap_set (i := 0) rfl) ?_
  refine Z.aload_n (n := 70) dX10_init_69 rfl rfl ?_
  refine Z.iconst (n := 71) (v := 4) dX10_init_70 rfl (by decide +kernel) ?_
  refine Z.newI (N := 4) (n := 73) w_acI (by decide +kernel) (by decide) hJ.rm (Nat.le_of_ble_eq_true rfl) (Nat.le_of_ble_eq_true rfl) dX10_init_71 rfl (fun b6 => ?_)
  rw [List.append_assoc]
  refine Z.putF (ws' := (ws0 ++ [(b, .inr (10, [.int 0, .int 0, .int 0, .int 0, .int 0, .ref b1, .ref b2, .ref b3, .ref b4, .ref b5, .ref b6])), (b1, .inl (gI g, 10, .inl (fun _ => 0))), (b2, .inl (gI g, 10, .inl (fun _ => 0))), (b3, .inl (gI g, 120, .inl (fun _ => 0))), (b4, .inl (gI g, 120, .inl (fun _ => 0))), (b5, .inl (gI g, 120, .inl (fun _ => 0))), (b6, .inl (gI g, 4, .inl (fun _ => 0)))])) (n := 76) pX10_43 (by decide +kernel) dX10_init_73 rfl (ap_get (i := 0) rfl) (Nat.le_of_ble_eq_true rfl) rfl rfl (ap_set (i := 0) rfl) ?_
  exact Z.vret hJ dX10_init_76 rfl (Nat.le_of_ble_eq_true rfl) (Nat.le_of_ble_eq_true rfl) ⟨rfl, b1, b2, b3, b4, b5, b6, rfl⟩
set_option maxHeartbeats 8000000 in
set_option maxRecDepth 4000 in
theorem ctX8_init {g : GP} {ws0 : va_W} {b : Nat} : Ct g 4 2 9 mX8_init [.ref b] (ws0 ++ [(b, .inr (8, [.null, .null, .int 0]))]) (fun r w => r = none ∧ ∃ (b1 : Nat) (b2 : Nat), w = (ws0 ++ [(b, .inr (8, [.ref b1, .ref b2, .int 0])), (b1, .inr (4, [.int 8, .int 0])), (b2, .inl (gI g, 7, .inl (fun _ => 0)))])) := by
  refine Ct.of (by decide +kernel) (Nat.le_of_ble_eq_true rfl) fun J hJ => ?_
  show Z g mX8_init J 0 0 0 [some (.ref b)] [] (ws0 ++ [(b, .inr (8, [.null, .null, .int 0]))])
  refine Z.aload_n (n := 1) dX8_init_0 rfl rfl ?_
  refine Z.objInit (n := 4) wX8_3 w_oi2 w_oi3 hJ.rm (Nat.le_of_ble_eq_true rfl) (Nat.le_of_ble_eq_true rfl) dX8_init_1 rfl ?_
  refine Z.aload_n (n := 5) dX8_init_4 rfl rfl ?_
  refine Z.new (q := (RX4, TX4, 2)) (ci := 4) (fs := [.int 0, .int 0]) (ty := tyX4) (n := 8) wX8_9 w_inst_X4 w_init_X4 in_X4 tyX4_ok rfl (by decide +kernel) hJ.rm (Nat.le_of_ble_eq_true rfl) (Nat.le_of_ble_eq_true rfl) dX8_init_5 rfl (fun b1 => ?_)
  rw [List.append_assoc]
  refine Z.dup (n := 9) dX8_init_8 rfl rfl ?_
  refine Z.bipush (n := 11) (v := 8) dX8_init_9 rfl (by decide +kernel) ?_
  refine Z.iconst (n := 12) (v := 0) dX8_init_11 rfl (by decide +kernel) ?_
  refine Z.callI (n := 15) vX8_13 (ctX4_init (nu := 8) (v := 0) sc_4 (ap_get (i := 1) rfl)) hJ.rm (Nat.le_of_ble_eq_true rfl) rfl rfl (Nat.le_of_ble_eq_true rfl) (Nat.le_of_ble_eq_true rfl) rfl (Nat.le_of_ble_eq_true rfl) rfl dX8_init_12 rfl (fun r9 w9 hw9 => ?_)
  obtain ⟨rfl, rfl⟩ := hw9
  rw [ap_set (i := 1) rfl]
  show Z _ _ _ _ _ _ _ [.ref b1, .ref b] (ws0 ++ [(b, .inr (8, [.null, .null, .int 0])), (b1, .inr (4, [.int 8, .int 0]))])
  refine Z.putF (ws' := (ws0 ++ [(b, .inr (8, [.ref b1, .null, .int 0])), (b1, .inr (4, [.int 8, .int 0]))])) (n := 18) pX8_16 (by decide +kernel) dX8_init_15 rfl (ap_get (i := 0) rfl) (Nat.le_of_ble_eq_true rfl) rfl rfl (ap_set (i := 0) rfl) ?_
  refine Z.aload_n (n := 19) dX8_init_18 rfl rfl ?_
  refine Z.bipush (n := 21) (v := 7) dX8_init_19 rfl (by decide +kernel) ?_
  refine Z.newI (N := 7) (n := 23) w_acI (by decide +kernel) (by decide) hJ.rm (Nat.le_of_ble_eq_true rfl) (Nat.le_of_ble_eq_true rfl) dX8_init_21 rfl (fun b2 => ?_)
  rw [List.append_assoc]
  refine Z.putF (ws' := (ws0 ++ [(b, .inr (8, [.ref b1, .ref b2, .int 0])), (b1, .inr (4, [.int 8, .int 0])), (b2, .inl (gI g, 7, .inl (fun _ => 0)))])) (n := 26) pX8_20 (by decide +kernel) dX8_init_23 rfl (ap_get (i := 0) rfl) (Nat.le_of_ble_eq_true rfl) rfl rfl (ap_set (i := 0) rfl) ?_
  refine Z.aload_n (n := 27) dX8_init_26 rfl rfl ?_
  refine Z.iconst (n := 28) (v := 0) dX8_init_27 rfl (by decide +kernel) ?_
  refine Z.putf (ws' := (ws0 ++ [(b, .inr (8, [.ref b1, .ref b2, .int 0])), (b1, .inr (4, [.int 8, .int 0])), (b2, .inl (gI g, 7, .inl (fun _ => 0)))])) (n := 31) pX8_24 dX8_init_28 rfl (ap_get (i := 0) rfl) (Nat.le_of_ble_eq_true rfl) rfl rfl (ap_set (i := 0) rfl) ?_
  exact Z.vret hJ dX8_init_31 rfl (Nat.le_of_ble_eq_true rfl) (Nat.le_of_ble_eq_true rfl) ⟨rfl, b1, b2, rfl⟩
set_option maxHeartbeats 8000000 in
set_option maxRecDepth 4000 in
theorem ctX12_init {g : GP} {ws0 : va_W} {b : Nat} : Ct g 2 8 1221 mX12_init [.ref b] (ws0 ++ [(b, .inr (12, [.int 0, .null, .null, .int 0, .int 0, .int 0, .int 0, .int 0, .null, .null, .int 0, .null, .null, .int 0, .int 0, .int 0, .int 0, .int 0, .int 0, .int 0, .int 0, .int 0, .int 0, .int 0, .int 0, .int 0, .null, .null, .int 0, .int 0, .int 0, .int 0]))]) (fun r w => r = none ∧ ∃ (b1 : Nat) (b2 : Nat) (b3 : Nat) (b4 : Nat) (b5 : Nat) (b6 : Nat) (b7 : Nat) (b8 : Nat), w = (ws0 ++ [(b, .inr (12, [.int 0, .ref b1, .ref b2, .int 0, .int 0, .int 0, .int 0, .int 0, .ref b3, .ref b4, .int 0, .ref b5, .ref b6, .int 0, .int 0, .int 0, .int 0, .int 0, .int 0, .int 0, .int 0, .int 0, .int 0, .int 0, .int 0, .int 0, .ref b7, .ref b8, .int 0, .int 0, .int 0, .int 0])), (b1, .inl (gI g, 490, .inl (fun _ => 0))), (b2, .inl (gI g, 490, .inl (fun _ => 0))), (b3, .inl (gI g, 140, .inl (fun _ => 0))), (b4, .inl (gI g, 3, .inl (fun _ => 0))), (b5, .inl (gZ g, 64, .inl (fun _ => 0))), (b6, .inl (gI g, 7, .inl (fun _ => 0))), (b7, .inl (gI g, 7, .inl (fun _ => 0))), (b8, .inl (gI g, 20, .inl (fun _ => 0)))])) := by
  refine Ct.of (by decide +kernel) (Nat.le_of_ble_eq_true rfl) fun J hJ => ?_
  show Z g mX12_init J 0 0 0 [some (.ref b)] [] (ws0 ++ [(b, .inr (12, [.int 0, .null, .null, .int 0, .int 0, .int 0, .int 0, .int 0, .null, .null, .int 0, .null, .null, .int 0, .int 0, .int 0, .int 0, .int 0, .int 0, .int 0, .int 0, .int 0, .int 0, .int 0, .int 0, .int 0, .null, .null, .int 0, .int 0, .int 0, .int 0]))])
  refine Z.aload_n (n := 1) dX12_init_0 rfl rfl ?_
  refine Z.objInit (n := 4) wX12_3 w_oi2 w_oi3 hJ.rm (Nat.le_of_ble_eq_true rfl) (Nat.le_of_ble_eq_true rfl) dX12_init_1 rfl ?_
  refine Z.aload_n (n := 5) dX12_init_4 rfl rfl ?_
  refine Z.sipush (n := 8) (v := 490) dX12_init_5 rfl (by decide +kernel) ?_
  refine Z.newI (N := 490) (n := 10) w_acI (by decide +kernel) (by decide) hJ.rm (Nat.le_of_ble_eq_true rfl) (Nat.le_of_ble_eq_true rfl) dX12_init_8 rfl (fun b1 => ?_)
  rw [List.append_assoc]
  refine Z.putF (ws' := (ws0 ++ [(b, .inr (12, [.int 0, .ref b1, .null, .int 0, .int 0, .int 0, .int 0, .int 0, .null, .null, .int 0, .null, .null, .int 0, .int 0, .int 0, .int 0, .int 0, .int 0, .int 0, .int 0, .int 0, .int 0, .int 0, .int 0, .int 0, .null, .null, .int 0, .int 0, .int 0, .int 0])), (b1, .inl (gI g, 490, .inl (fun _ => 0)))])) (n := 13) pX12_9 (by decide +kernel) dX12_init_10 rfl (ap_get (i := 0) rfl) (Nat.le_of_ble_eq_true rfl) rfl rfl (ap_set (i := 0) rfl) ?_
  refine Z.aload_n (n := 14) dX12_init_13 rfl rfl ?_
  refine Z.sipush (n := 17) (v := 490) dX12_init_14 rfl (by decide +kernel) ?_
  refine Z.newI (N := 490) (n := 19) w_acI (by decide +kernel) (by decide) hJ.rm (Nat.le_of_ble_eq_true rfl) (Nat.le_of_ble_eq_true rfl) dX12_init_17 rfl (fun b2 => ?_)
  rw [List.append_assoc]
  refine Z.putF (ws' := (ws0 ++ [(b, .inr (12, [.int 0, .ref b1, .ref b2, .int 0, .int 0, .int 0, .int 0, .int 0, .null, .null, .int 0, .null, .null, .int 0, .int 0, .int 0, .int 0, .int 0, .int 0, .int 0, .int 0, .int 0, .int 0, .int 0, .int 0, .int 0, .null, .null, .int 0, .int 0, .int 0, .int 0])), (b1, .inl (gI g, 490, .inl (fun _ => 0))), (b2, .inl (gI g, 490, .inl (fun _ => 0)))])) (n := 22) pX12_15 (by decide +kernel) dX12_init_19 rfl (ap_get (i := 0) rfl) (Nat.le_of_ble_eq_true rfl) rfl rfl (ap_set (i := 0) rfl) ?_
  refine Z.aload_n (n := 23) dX12_init_22 rfl rfl ?_
  refine Z.sipush (n := 26) (v := 140) dX12_init_23 rfl (by decide +kernel) ?_
  refine Z.newI (N := 140) (n := 28) w_acI (by decide +kernel) (by decide) hJ.rm (Nat.le_of_ble_eq_true rfl) (Nat.le_of_ble_eq_true rfl) dX12_init_26 rfl (fun b3 => ?_)
  rw [List.append_assoc]
  refine Z.putF (ws' := (ws0 ++ [(b, .inr (12, [.int 0, .ref b1, .ref b2, .int 0, .int 0, .int 0, .int 0, .int 0, .ref b3, .null, .int 0, .null, .null, .int 0, .int 0, .int 0, .int 0, .int 0, .int 0, .int 0, .int 0, .int 0, .int 0, .int 0, .int 0, .int 0, .null, .null, .int 0, .int 0, .int 0, .int 0])), (b1, .inl (gI g, 490, .inl (fun _ => 0))), (b2, .inl (gI g, 490, .inl (fun _ => 0))), (b3, .inl (gI g, 140, .inl (fun _ => 0)))])) (n := 31) pX12_18 (by decide +kernel) dX12_init_28 rfl (ap_get (i := 0) rfl) (Nat.le_of_ble_eq_true rfl) rfl rfl (ap_set (i := 0) rfl) ?_
  refine Z.aload_n (n := 32) dX12_init_31 rfl rfl ?_
  refine Z.iconst (n := 33) (v := 3) dX12_init_32 rfl (by decide +kernel) ?_
  refine Z.newI (N := 3) (n := 35) w_acI (by decide +kernel) (by decide) hJ.rm (Nat.le_of_ble_eq_true rfl) (Nat.le_of_ble_eq_true rfl) dX12_init_33 rfl (fun b4 => ?_)
  rw [List.append_assoc]
  refine Z.putF (ws' := (ws0 ++ [(b, .inr (12, [.int 0, .ref b1, .ref b2, .int 0, .int 0, .int 0, .int 0, .int 0, .ref b3, .ref b4, .int 0, .null, .null, .int 0, .int 0, .int 0, .int 0, .int 0, .int 0, .int 0, .int 0, .int 0, .int 0, .int 0, .int 0, .int 0, .null, .null, .int 0, .int 0, .int 0, .int 0])), (b1, .inl (gI g, 490, .inl (fun _ => 0))), (b2, .inl (gI g, 490, .inl (fun _ => 0))), (b3, .inl (gI g, 140, .inl (fun _ => 0))), (b4, .inl (gI g, 3, .inl (fun _ => 0)))])) (n := 38) pX12_21 (by decide +kernel) dX12_init_35 rfl (ap_get (i := 0) rfl) (Nat.le_of_ble_eq_true rfl) rfl rfl (ap_set (i := 0) rfl) ?_
  refine Z.aload_n (n := 39) dX12_init_38 rfl rfl ?_
  refine Z.bipush (n := 41) (v := 64) dX12_init_39 rfl (by decide +kernel) ?_
  refine Z.newZ (N := 64) (n := 43) w_acZ (by decide +kernel) (by decide) hJ.rm (Nat.le_of_ble_eq_true rfl) (Nat.le_of_ble_eq_true rfl) dX12_init_41 rfl (fun b5 => ?_)
  rw [List.append_assoc]
  refine Z.putF (ws' := (ws0 ++ [(b, .inr (12, [.int 0, .ref b1, .ref b2, .int 0, .int 0, .int 0, .int 0, .int 0, .ref b3, .ref b4, .int 0, .ref b5, .null, .int 0, .int 0, .int 0, .int 0, .int 0, .int 0, .int 0, .int 0, .int 0, .int 0, .int 0, .int 0, .int 0, .null, .null, .int 0, .int 0, .int 0, .int 0])), (b1, .inl (gI g, 490, .inl (fun _ => 0))), (b2, .inl (gI g, 490, .inl (fun _ => 0))), (b3, .inl (gI g, 140, .inl (fun _ => 0))), (b4, .inl (gI g, 3, .inl (fun _ => 0))), (b5, .inl (gZ g, 64, .inl (fun _ => 0)))])) (n := 46) pX12_24 (by decide +kernel) dX12_init_43 rfl (ap_get (i := 0) rfl) (Nat.le_of_ble_eq_true rfl) rfl rfl (ap_set (i := 0) rfl) ?_
  refine Z.aload_n (n := 47) dX12_init_46 rfl rfl ?_
  refine Z.bipush (n := 49) (v := 7) dX12_init_47 rfl (by decide +kernel) ?_
  refine Z.newI (N := 7) (n := 51) w_acI (by decide +kernel) (by decide) hJ.rm (Nat.le_of_ble_eq_true rfl) (Nat.le_of_ble_eq_true rfl) dX12_init_49 rfl (fun b6 => ?_)
  rw [List.append_assoc]
  refine Z.putF (ws' := (ws0 ++ [(b, .inr (12, [.int 0, .ref b1, .ref b2, .int 0, .int 0, .int 0, .int 0, .int 0, .ref b3, .ref b4, .int 0, .ref b5, .ref b6, .int 0, .int 0, .int 0, .int 0, .int 0, .int 0, .int 0, .int 0, .int 0, .int 0, .int 0, .int 0, .int 0, .null, .null, .int 0, .int 0, .int 0, .int 0])), (b1, .inl (gI g, 490, .inl (fun _ => 0))), (b2, .inl (gI g, 490, .inl (fun _ => 0))), (b3, .inl (gI g, 140, .inl (fun _ => 0))), (b4, .inl (gI g, 3, .inl (fun _ => 0))), (b5, .inl (gZ g, 64, .inl (fun _ => 0))), (b6, .inl (gI g, 7, .inl (fun _ => 0)))])) (n := 54) pX12_28 (by decide +kernel) dX12_init_51 rfl (ap_get (i := 0) rfl) (Nat.le_of_ble_eq_true rfl) rfl rfl (ap_set (i := 0) rfl) ?_
  refine Z.aload_n (n := 55) dX12_init_54 rfl rfl ?_
  refine Z.bipush (n := 57) (v := 7) dX12_init_55 rfl (by decide +kernel) ?_
  refine Z.newI (N := 7) (n := 59) w_acI (by decide +kernel) (by decide) hJ.rm (Nat.le_of_ble_eq_true rfl) (Nat.le_of_ble_eq_true rfl) dX12_init_57 rfl (fun b7 => ?_)
  rw [List.append_assoc]
  refine Z.putF (ws' := (ws0 ++ [(b, .inr (12, [.int 0, .ref b1, .ref b2, .int 0, .int 0, .int 0, .int 0, .int 0, .ref b3, .ref b4, .int 0, .ref b5, .ref b6, .int 0, .int 0, .int 0, .int 0, .int 0, .int 0, .int 0, .int 0, .int 0, .int 0, .int 0, .int 0, .int 0, .ref b7, .null, .int 0, .int 0, .int 0, .int 0])), (b1, .inl (gI g, 490, .inl (fun _ => 0))), (b2, .inl (gI g, 490, .inl (fun _ => 0))), (b3, .inl (gI g, 140, .inl (fun _ => 0))), (b4, .inl (gI g, 3, .inl (fun _ => 0))), (b5, .inl (gZ g, 64, .inl (fun _ => 0))), (b6, .inl (gI g, 7, .inl (fun _ => 0))), (b7, .inl (gI g, 7, .inl (fun _ => 0)))])) (n := 62) pX12_31 (by decide +kernel) dX12_init_59 rfl (ap_get (i := 0) rfl) (Nat.le_of_ble_eq_true rfl) rfl rfl (ap_set (i := 0) rfl) ?_
  refine Z.aload_n (n := 63) dX12_init_62 rfl rfl ?_
  refine Z.bipush (n := 65) (v := 20) dX12_init_63 rfl (by decide +kernel) ?_
  refine Z.newI (N := 20) (n := 67) w_acI (by decide +kernel) (by decide) hJ.rm (Nat.le_of_ble_eq_true rfl) (Nat.le_of_ble_eq_true rfl) dX12_init_65 rfl (fun b8 => ?_)
  rw [List.append_assoc]
  refine Z.putF (ws' := (ws0 ++ [(b, .inr (12, [.int 0, .ref b1, .ref b2, .int 0, .int 0, .int 0, .int 0, .int 0, .ref b3, .ref b4, .int 0, .ref b5, .ref b6, .int 0, .int 0, .int 0, .int 0, .int 0, .int 0, .int 0, .int 0, .int 0, .int 0, .int 0, .int 0, .int 0, .ref b7, .ref b8, .int 0, .int 0, .int 0, .int 0])), (b1, .inl (gI g, 490, .inl (fun _ => 0))), (b2, .inl (gI g, 490, .inl (fun _ => 0))), (b3, .inl (gI g, 140, .inl (fun _ => 0))), (b4, .inl (gI g, 3, .inl (fun _ => 0))), (b5, .inl (gZ g, 64, .inl (fun _ => 0))), (b6, .inl (gI g, 7, .inl (fun _ => 0))), (b7, .inl (gI g, 7, .inl (fun _ => 0))), (b8, .inl (gI g, 20, .inl (fun _ => 0)))])) (n := 70) pX12_34 (by decide +kernel) dX12_init_67 rfl (ap_get (i := 0) rfl) (Nat.le_of_ble_eq_true rfl) rfl rfl (ap_set (i := 0) rfl) ?_
  exact Z.vret hJ dX12_init_70 rfl (Nat.le_of_ble_eq_true rfl) (Nat.le_of_ble_eq_true rfl) ⟨rfl, b1, b2, b3, b4, b5, b6, b7, b8, rfl⟩
