/-! walks, by program: 16.c2.lean.txt -/
def fX11_world (h : HT) : Option (Int32 × HT) :=
  Option.bind (fX10_read  h) fun z1 =>
  if z1.1 < 0 then (Option.bind (fX10_become_h23_h81  (hu z1.2 21 1 0)) fun z3 =>
  some ((hu z3.2 1 2 ((z3.2 1 2) + (1 : Int32))) 1 2, hu z3.2 1 2 ((z3.2 1 2) + (1 : Int32))))
  else (some ((-10 : Int32) - z1.1, hu z1.2 21 1 0))
set_option maxHeartbeats 4000000 in
theorem ctX11_world {g : GP} {a : Nat → Nat} {P : PT} {h : HT} {z : Int32 × HT} (hf : fX11_world h = some z) : Ct g 75 0 0 mX11_world [.ref (a 0)] (WD g a h P) (PoI g a P z) := by
  refine Ct.of (by decide +kernel) (Nat.le_of_ble_eq_true rfl) fun J hJ => ?_
  show Z g mX11_world J 0 0 0 [some (.ref (a 0)), none] [] (WD g a h P)
  unfold fX11_world at hf
  refine Z.aload_n (n := 1) dX11_world_0 rfl rfl ?_
  refine Z.getf (n := 4) fX11_28 dX11_world_1 rfl W0 rfl ?_
  refine Z.aload_n (n := 5) dX11_world_4 rfl rfl ?_
  refine Z.getf (n := 8) fX11_12 dX11_world_5 rfl W0 rfl ?_
  refine Z.getf (n := 11) fX11_81 dX11_world_8 rfl W1 rfl ?_
  obtain ⟨z1, ez1, hf⟩ := Option.bind_eq_some_iff.mp hf
  refine Z.callV (n := 14) vX11_94 (ctX10_read ez1) hJ.rm (Nat.le_of_ble_eq_true rfl) rfl rfl (Nat.le_refl _) (Nat.le_refl _) rfl W81 rfl rfl (Nat.le_of_ble_eq_true rfl) rfl dX11_world_11 rfl (fun v w hw => ?_)
  obtain ⟨rfl, rfl⟩ := hw
  show Z _ _ _ _ _ _ _ [.int z1.1] _
  refine Z.istore_n (n := 15) dX11_world_14 rfl (by decide) rfl ?_
  refine Z.aload_n (n := 16) dX11_world_15 rfl rfl ?_
  refine Z.getf (n := 19) fX11_12 dX11_world_16 rfl W0 rfl ?_
  refine Z.getf (n := 22) fX11_81 dX11_world_19 rfl W1 rfl ?_
  refine Z.iconst (n := 23) (v := 0) dX11_world_22 rfl (by decide +kernel) ?_
  refine Z.putf (n := 26) pX11_85 dX11_world_23 rfl W21 (Nat.le_of_ble_eq_true rfl) rfl rfl W21s_1 ?_
  refine Z.iload_n (n := 27) dX11_world_26 rfl rfl ?_
  refine Z.if_lt (tgt := 35) (n := 30) dX11_world_27 rfl rfl (fun c2 => ?_) (fun c2 => ?_)
  · rw [if_pos c2] at hf
    refine Z.aload_n (n := 36) dX11_world_35 rfl rfl ?_
    refine Z.getf (n := 39) fX11_12 dX11_world_36 rfl W0 rfl ?_
    refine Z.getf (n := 42) fX11_98 dX11_world_39 rfl W1 rfl ?_
    refine Z.aload_n (n := 43) dX11_world_42 rfl rfl ?_
    refine Z.getf (n := 46) fX11_28 dX11_world_43 rfl W0 rfl ?_
    obtain ⟨z3, ez3, hf⟩ := Option.bind_eq_some_iff.mp hf
    refine Z.callV (n := 49) vX11_101 (ctX10_become_h23_h81 ez3) hJ.rm (Nat.le_of_ble_eq_true rfl) rfl rfl (Nat.le_refl _) (Nat.le_refl _) rfl W23 rfl rfl (Nat.le_of_ble_eq_true rfl) rfl dX11_world_46 rfl (fun v w hw => ?_)
    obtain ⟨rfl, rfl⟩ := hw
    show Z _ _ _ _ _ _ _ [] _
    refine Z.aload_n (n := 50) dX11_world_49 rfl rfl ?_
    refine Z.getf (n := 53) fX11_12 dX11_world_50 rfl W0 rfl ?_
    refine Z.dup (n := 54) dX11_world_53 rfl rfl ?_
    refine Z.getf (n := 57) fX11_105 dX11_world_54 rfl W1 rfl ?_
    refine Z.iconst (n := 58) (v := 1) dX11_world_57 rfl (by decide +kernel) ?_
    refine Z.iadd (n := 59) dX11_world_58 rfl ?_
    refine Z.putf (n := 62) pX11_105 dX11_world_59 rfl W1 (Nat.le_of_ble_eq_true rfl) rfl rfl W1s_2 ?_
    refine Z.aload_n (n := 63) dX11_world_62 rfl rfl ?_
    refine Z.getf (n := 66) fX11_12 dX11_world_63 rfl W0 rfl ?_
    refine Z.getf (n := 69) fX11_105 dX11_world_66 rfl W1 rfl ?_
    have hz := Option.some.inj hf
    subst hz
    exact Z.iret hJ dX11_world_69 rfl (Nat.le_refl _) (Nat.le_refl _) ⟨rfl, rfl⟩
  · rw [if_neg c2] at hf
    refine Z.bipush (n := 32) (v := -10) dX11_world_30 rfl (by decide +kernel) ?_
    refine Z.iload_n (n := 33) dX11_world_32 rfl rfl ?_
    refine Z.isub (n := 34) dX11_world_33 rfl ?_
    have hz := Option.some.inj hf
    subst hz
    exact Z.iret hJ dX11_world_34 rfl (Nat.le_refl _) (Nat.le_refl _) ⟨rfl, rfl⟩
