/-! walks, by program: 16.c0.lean.txt -/
def fX11_king_18 (h : HT) : Option (Int32 × HT) :=
  some ((-2), h)
set_option maxHeartbeats 4000000 in
theorem zX11_king_18 {g : GP} {a : Nat → Nat} {P : PT} {J : JT} {z : Int32 × HT} (hJ : JX g 2 0 0 (PoI g a P z) J) (h : HT) (hf : fX11_king_18 h = some z) : Z g mX11_king J 0 0 18 [none, none, none] [] (WD g a h P) := by
  unfold fX11_king_18 at hf
  refine Z.bipush (n := 20) (v := -2) dX11_king_18 rfl (by decide +kernel) ?_
  have hz := Option.some.inj hf
  subst hz
  exact Z.iret hJ dX11_king_20 rfl (Nat.le_refl _) (Nat.le_refl _) ⟨rfl, rfl⟩
def fX11_king (l1 : Int32) (l2 : Int32) (h : HT) : Option (Int32 × HT) :=
  Option.bind (fX11_outside l1 99 h) fun z1 =>
  if z1.1 = 0 then (Option.bind (fX11_outside l2 40 z1.2) fun z3 =>
  if z3.1 = 0 then (if (z3.2 1 0) < 7 then (Option.bind (fX3_add l1 l2 z3.2) fun z6 =>
  some (z6.1, z6.2))
  else (some ((-4), z3.2)))
  else (fX11_king_18 z3.2))
  else (fX11_king_18 z1.2)
set_option maxHeartbeats 4000000 in
theorem ctX11_king {g : GP} {a : Nat → Nat} {P : PT} {h : HT} {z : Int32 × HT} {l1 : Int32} {l2 : Int32} (hf : fX11_king l1 l2 h = some z) : Ct g 2 0 0 mX11_king [.ref (a 0), .int l1, .int l2] (WD g a h P) (PoI g a P z) := by
  refine Ct.of (by decide +kernel) (Nat.le_of_ble_eq_true rfl) fun J hJ => ?_
  show Z g mX11_king J 0 0 0 [some (.ref (a 0)), some (.int l1), some (.int l2)] [] (WD g a h P)
  unfold fX11_king at hf
  refine Z.iload_n (n := 1) dX11_king_0 rfl rfl ?_
  refine Z.bipush (n := 3) (v := 99) dX11_king_1 rfl (by decide +kernel) ?_
  obtain ⟨z1, ez1, hf⟩ := Option.bind_eq_some_iff.mp hf
  refine Z.callS (n := 6) vX11_46 (ctX11_outside ez1) hJ.rm (Nat.le_of_ble_eq_true rfl) rfl rfl (Nat.le_refl _) (Nat.le_refl _) rfl (Nat.le_of_ble_eq_true rfl) rfl dX11_king_3 rfl (fun v w hw => ?_)
  obtain ⟨rfl, rfl⟩ := hw
  show Z _ _ _ _ _ _ _ [.int z1.1] _
  refine Z.if_ne (tgt := 18) (n := 9) dX11_king_6 rfl rfl (fun c2 => ?_) (fun c2 => ?_)
  · rw [if_neg c2] at hf
    refine Z.fg [0, 1, 2] ?_
    exact zX11_king_18 hJ _ hf
  · rw [if_pos c2] at hf
    refine Z.iload_n (n := 10) dX11_king_9 rfl rfl ?_
    refine Z.bipush (n := 12) (v := 40) dX11_king_10 rfl (by decide +kernel) ?_
    obtain ⟨z3, ez3, hf⟩ := Option.bind_eq_some_iff.mp hf
    refine Z.callS (n := 15) vX11_46 (ctX11_outside ez3) hJ.rm (Nat.le_of_ble_eq_true rfl) rfl rfl (Nat.le_refl _) (Nat.le_refl _) rfl (Nat.le_of_ble_eq_true rfl) rfl dX11_king_12 rfl (fun v w hw => ?_)
    obtain ⟨rfl, rfl⟩ := hw
    show Z _ _ _ _ _ _ _ [.int z3.1] _
    refine Z.if_eq (tgt := 21) (n := 18) dX11_king_15 rfl rfl (fun c4 => ?_) (fun c4 => ?_)
    · rw [if_pos c4] at hf
      refine Z.aload_n (n := 22) dX11_king_21 rfl rfl ?_
      refine Z.getf (n := 25) fX11_12 dX11_king_22 rfl W0 rfl ?_
      refine Z.getf (n := 28) fX11_50 dX11_king_25 rfl W1 rfl ?_
      refine Z.bipush (n := 30) (v := 7) dX11_king_28 rfl (by decide +kernel) ?_
      refine Z.icmp_lt (tgt := 36) (n := 33) dX11_king_30 rfl rfl (fun c5 => ?_) (fun c5 => ?_)
      · rw [if_pos c5] at hf
        refine Z.aload_n (n := 37) dX11_king_36 rfl rfl ?_
        refine Z.getf (n := 40) fX11_12 dX11_king_37 rfl W0 rfl ?_
        refine Z.iload_n (n := 41) dX11_king_40 rfl rfl ?_
        refine Z.iload_n (n := 42) dX11_king_41 rfl rfl ?_
        obtain ⟨z6, ez6, hf⟩ := Option.bind_eq_some_iff.mp hf
        refine Z.callV (n := 45) vX11_54 (ctX3_add ez6) hJ.rm (Nat.le_of_ble_eq_true rfl) rfl rfl (Nat.le_refl _) (Nat.le_refl _) rfl W1 rfl rfl (Nat.le_of_ble_eq_true rfl) rfl dX11_king_42 rfl (fun v w hw => ?_)
        obtain ⟨rfl, rfl⟩ := hw
        show Z _ _ _ _ _ _ _ [.int z6.1] _
        have hz := Option.some.inj hf
        subst hz
        exact Z.iret hJ dX11_king_45 rfl (Nat.le_refl _) (Nat.le_refl _) ⟨rfl, rfl⟩
      · rw [if_neg c5] at hf
        refine Z.bipush (n := 35) (v := -4) dX11_king_33 rfl (by decide +kernel) ?_
        have hz := Option.some.inj hf
        subst hz
        exact Z.iret hJ dX11_king_35 rfl (Nat.le_refl _) (Nat.le_refl _) ⟨rfl, rfl⟩
    · rw [if_neg c4] at hf
      refine Z.fg [0, 1, 2] ?_
      exact zX11_king_18 hJ _ hf
def fX11_of_80 (s0 : Int32) (h : HT) : Option (Int32 × HT) :=
  some (s0, h)
set_option maxHeartbeats 4000000 in
theorem zX11_of_80 {g : GP} {a : Nat → Nat} {P : PT} {J : JT} {z : Int32 × HT} (hJ : JX g 2 0 0 (PoI g a P z) J) (s0 : Int32) (h : HT) (hf : fX11_of_80 s0 h = some z) : Z g mX11_of J 0 0 80 [none, none, none] [.int s0] (WD g a h P) := by
  unfold fX11_of_80 at hf
  have hz := Option.some.inj hf
  subst hz
  exact Z.iret hJ dX11_of_80 rfl (Nat.le_refl _) (Nat.le_refl _) ⟨rfl, rfl⟩
def fX11_of (l1 : Int32) (l2 : Int32) (h : HT) : Option (Int32 × HT) :=
  Option.bind (fX3_has l1 h) fun z1 =>
  if z1.1 = 0 then (some ((-1), z1.2))
  else (if l2 = 0 then (Option.bind (ck 7 l1) fun j4 =>
  some (z1.2 2 j4, z1.2))
  else if l2 = 1 then (Option.bind (ck 7 l1) fun j6 =>
  some (z1.2 3 j6, z1.2))
  else if l2 = 2 then (Option.bind (fX3_lives l1 z1.2) fun z8 =>
  if z8.1 = 0 then (fX11_of_80 1 z8.2)
  else (fX11_of_80 0 z8.2))
  else if l2 = 3 then (Option.bind (ck 7 l1) fun j11 =>
  some (z1.2 4 j11, z1.2))
  else (some ((-1), z1.2)))
set_option maxHeartbeats 4000000 in
theorem ctX11_of {g : GP} {a : Nat → Nat} {P : PT} {h : HT} {z : Int32 × HT} {l1 : Int32} {l2 : Int32} (hf : fX11_of l1 l2 h = some z) : Ct g 2 0 0 mX11_of [.ref (a 0), .int l1, .int l2] (WD g a h P) (PoI g a P z) := by
  refine Ct.of (by decide +kernel) (Nat.le_of_ble_eq_true rfl) fun J hJ => ?_
  show Z g mX11_of J 0 0 0 [some (.ref (a 0)), some (.int l1), some (.int l2)] [] (WD g a h P)
  unfold fX11_of at hf
  refine Z.aload_n (n := 1) dX11_of_0 rfl rfl ?_
  refine Z.getf (n := 4) fX11_12 dX11_of_1 rfl W0 rfl ?_
  refine Z.iload_n (n := 5) dX11_of_4 rfl rfl ?_
  obtain ⟨z1, ez1, hf⟩ := Option.bind_eq_some_iff.mp hf
  refine Z.callV (n := 8) vX11_58 (ctX3_has ez1) hJ.rm (Nat.le_of_ble_eq_true rfl) rfl rfl (Nat.le_refl _) (Nat.le_refl _) rfl W1 rfl rfl (Nat.le_of_ble_eq_true rfl) rfl dX11_of_5 rfl (fun v w hw => ?_)
  obtain ⟨rfl, rfl⟩ := hw
  show Z _ _ _ _ _ _ _ [.int z1.1] _
  refine Z.if_ne (tgt := 13) (n := 11) dX11_of_8 rfl rfl (fun c2 => ?_) (fun c2 => ?_)
  · rw [if_neg c2] at hf
    refine Z.iload_n (n := 14) dX11_of_13 rfl rfl ?_
    by_cases c3 : l2 = 0
    · rw [if_pos c3] at hf
      refine Z.tswI (off := 30) (tgt := 44) dX11_of_14 c3 (by decide +kernel) (by decide +kernel) (by decide +kernel) rfl ?_
      refine Z.aload_n (n := 45) dX11_of_44 rfl rfl ?_
      refine Z.getf (n := 48) fX11_12 dX11_of_45 rfl W0 rfl ?_
      refine Z.getf (n := 51) fX11_62 dX11_of_48 rfl W1 rfl ?_
      refine Z.iload_n (n := 52) dX11_of_51 rfl rfl ?_
      obtain ⟨j4, ej4, hf⟩ := Option.bind_eq_some_iff.mp hf
      obtain ⟨hij4, hlj4⟩ := ck_spec ej4
      refine Z.iald (j := j4) (n := 53) dX11_of_52 rfl W2 hij4 hlj4 (by decide) ?_
      have hz := Option.some.inj hf
      subst hz
      exact Z.iret hJ dX11_of_53 rfl (Nat.le_refl _) (Nat.le_refl _) ⟨rfl, rfl⟩
    rw [if_neg c3] at hf
    by_cases c5 : l2 = 1
    · rw [if_pos c5] at hf
      refine Z.tswI (off := 40) (tgt := 54) dX11_of_14 c5 (by decide +kernel) (by decide +kernel) (by decide +kernel) rfl ?_
      refine Z.aload_n (n := 55) dX11_of_54 rfl rfl ?_
      refine Z.getf (n := 58) fX11_12 dX11_of_55 rfl W0 rfl ?_
      refine Z.getf (n := 61) fX11_65 dX11_of_58 rfl W1 rfl ?_
      refine Z.iload_n (n := 62) dX11_of_61 rfl rfl ?_
      obtain ⟨j6, ej6, hf⟩ := Option.bind_eq_some_iff.mp hf
      obtain ⟨hij6, hlj6⟩ := ck_spec ej6
      refine Z.iald (j := j6) (n := 63) dX11_of_62 rfl W3 hij6 hlj6 (by decide) ?_
      have hz := Option.some.inj hf
      subst hz
      exact Z.iret hJ dX11_of_63 rfl (Nat.le_refl _) (Nat.le_refl _) ⟨rfl, rfl⟩
    rw [if_neg c5] at hf
    by_cases c7 : l2 = 2
    · rw [if_pos c7] at hf
      refine Z.tswI (off := 50) (tgt := 64) dX11_of_14 c7 (by decide +kernel) (by decide +kernel) (by decide +kernel) rfl ?_
      refine Z.aload_n (n := 65) dX11_of_64 rfl rfl ?_
      refine Z.getf (n := 68) fX11_12 dX11_of_65 rfl W0 rfl ?_
      refine Z.iload_n (n := 69) dX11_of_68 rfl rfl ?_
      obtain ⟨z8, ez8, hf⟩ := Option.bind_eq_some_iff.mp hf
      refine Z.callV (n := 72) vX11_68 (ctX3_lives ez8) hJ.rm (Nat.le_of_ble_eq_true rfl) rfl rfl (Nat.le_refl _) (Nat.le_refl _) rfl W1 rfl rfl (Nat.le_of_ble_eq_true rfl) rfl dX11_of_69 rfl (fun v w hw => ?_)
      obtain ⟨rfl, rfl⟩ := hw
      show Z _ _ _ _ _ _ _ [.int z8.1] _
      refine Z.if_eq (tgt := 79) (n := 75) dX11_of_72 rfl rfl (fun c9 => ?_) (fun c9 => ?_)
      · rw [if_pos c9] at hf
        refine Z.iconst (n := 80) (v := 1) dX11_of_79 rfl (by decide +kernel) ?_
        refine Z.fg [0, 1, 2] ?_
        exact zX11_of_80 hJ _ _ hf
      · rw [if_neg c9] at hf
        refine Z.iconst (n := 76) (v := 0) dX11_of_75 rfl (by decide +kernel) ?_
        refine Z.goto (tgt := 80) dX11_of_76 rfl ?_
        refine Z.fg [0, 1, 2] ?_
        exact zX11_of_80 hJ _ _ hf
    rw [if_neg c7] at hf
    by_cases c10 : l2 = 3
    · rw [if_pos c10] at hf
      refine Z.tswI (off := 67) (tgt := 81) dX11_of_14 c10 (by decide +kernel) (by decide +kernel) (by decide +kernel) rfl ?_
      refine Z.aload_n (n := 82) dX11_of_81 rfl rfl ?_
      refine Z.getf (n := 85) fX11_12 dX11_of_82 rfl W0 rfl ?_
      refine Z.getf (n := 88) fX11_71 dX11_of_85 rfl W1 rfl ?_
      refine Z.iload_n (n := 89) dX11_of_88 rfl rfl ?_
      obtain ⟨j11, ej11, hf⟩ := Option.bind_eq_some_iff.mp hf
      obtain ⟨hij11, hlj11⟩ := ck_spec ej11
      refine Z.iald (j := j11) (n := 90) dX11_of_89 rfl W4 hij11 hlj11 (by decide) ?_
      have hz := Option.some.inj hf
      subst hz
      exact Z.iret hJ dX11_of_90 rfl (Nat.le_refl _) (Nat.le_refl _) ⟨rfl, rfl⟩
    rw [if_neg c10] at hf
    have tc3 := lv_neT (k := 0) c3 (a := 0) (by decide +kernel)
    have tc5 := lv_neT (k := 1) c5 (a := 1) (by decide +kernel)
    have tc7 := lv_neT (k := 2) c7 (a := 2) (by decide +kernel)
    have tc10 := lv_neT (k := 3) c10 (a := 3) (by decide +kernel)
    refine Z.tswO (tgt := 91) dX11_of_14 (by omega) rfl ?_
    refine Z.iconst (n := 92) (v := -1) dX11_of_91 rfl (by decide +kernel) ?_
    have hz := Option.some.inj hf
    subst hz
    exact Z.iret hJ dX11_of_92 rfl (Nat.le_refl _) (Nat.le_refl _) ⟨rfl, rfl⟩
  · rw [if_pos c2] at hf
    refine Z.iconst (n := 12) (v := -1) dX11_of_11 rfl (by decide +kernel) ?_
    have hz := Option.some.inj hf
    subst hz
    exact Z.iret hJ dX11_of_12 rfl (Nat.le_refl _) (Nat.le_refl _) ⟨rfl, rfl⟩
def fX11_arm (l1 : Int32) (l2 : Int32) (h : HT) : Option (Int32 × HT) :=
  Option.bind (fX3_has l1 h) fun z1 =>
  if z1.1 = 0 then (some ((-1), z1.2))
  else (Option.bind (fX11_outside l2 99 z1.2) fun z3 =>
  if z3.1 = 0 then (Option.bind (fX3_lives l1 z3.2) fun z5 =>
  if z5.1 = 0 then (some ((-3), z5.2))
  else (Option.bind (ck 7 l1) fun j7 =>
  Option.bind (ck 7 l1) fun j8 =>
  some (z5.2 2 j7, hu z5.2 2 j8 l2)))
  else (some ((-2), z3.2)))
set_option maxHeartbeats 4000000 in
theorem ctX11_arm {g : GP} {a : Nat → Nat} {P : PT} {h : HT} {z : Int32 × HT} {l1 : Int32} {l2 : Int32} (hf : fX11_arm l1 l2 h = some z) : Ct g 2 0 0 mX11_arm [.ref (a 0), .int l1, .int l2] (WD g a h P) (PoI g a P z) := by
  refine Ct.of (by decide +kernel) (Nat.le_of_ble_eq_true rfl) fun J hJ => ?_
  show Z g mX11_arm J 0 0 0 [some (.ref (a 0)), some (.int l1), some (.int l2), none] [] (WD g a h P)
  unfold fX11_arm at hf
  refine Z.aload_n (n := 1) dX11_arm_0 rfl rfl ?_
  refine Z.getf (n := 4) fX11_12 dX11_arm_1 rfl W0 rfl ?_
  refine Z.iload_n (n := 5) dX11_arm_4 rfl rfl ?_
  obtain ⟨z1, ez1, hf⟩ := Option.bind_eq_some_iff.mp hf
  refine Z.callV (n := 8) vX11_58 (ctX3_has ez1) hJ.rm (Nat.le_of_ble_eq_true rfl) rfl rfl (Nat.le_refl _) (Nat.le_refl _) rfl W1 rfl rfl (Nat.le_of_ble_eq_true rfl) rfl dX11_arm_5 rfl (fun v w hw => ?_)
  obtain ⟨rfl, rfl⟩ := hw
  show Z _ _ _ _ _ _ _ [.int z1.1] _
  refine Z.if_ne (tgt := 13) (n := 11) dX11_arm_8 rfl rfl (fun c2 => ?_) (fun c2 => ?_)
  · rw [if_neg c2] at hf
    refine Z.iload_n (n := 14) dX11_arm_13 rfl rfl ?_
    refine Z.bipush (n := 16) (v := 99) dX11_arm_14 rfl (by decide +kernel) ?_
    obtain ⟨z3, ez3, hf⟩ := Option.bind_eq_some_iff.mp hf
    refine Z.callS (n := 19) vX11_46 (ctX11_outside ez3) hJ.rm (Nat.le_of_ble_eq_true rfl) rfl rfl (Nat.le_refl _) (Nat.le_refl _) rfl (Nat.le_of_ble_eq_true rfl) rfl dX11_arm_16 rfl (fun v w hw => ?_)
    obtain ⟨rfl, rfl⟩ := hw
    show Z _ _ _ _ _ _ _ [.int z3.1] _
    refine Z.if_eq (tgt := 25) (n := 22) dX11_arm_19 rfl rfl (fun c4 => ?_) (fun c4 => ?_)
    · rw [if_pos c4] at hf
      refine Z.aload_n (n := 26) dX11_arm_25 rfl rfl ?_
      refine Z.getf (n := 29) fX11_12 dX11_arm_26 rfl W0 rfl ?_
      refine Z.iload_n (n := 30) dX11_arm_29 rfl rfl ?_
      obtain ⟨z5, ez5, hf⟩ := Option.bind_eq_some_iff.mp hf
      refine Z.callV (n := 33) vX11_68 (ctX3_lives ez5) hJ.rm (Nat.le_of_ble_eq_true rfl) rfl rfl (Nat.le_refl _) (Nat.le_refl _) rfl W1 rfl rfl (Nat.le_of_ble_eq_true rfl) rfl dX11_arm_30 rfl (fun v w hw => ?_)
      obtain ⟨rfl, rfl⟩ := hw
      show Z _ _ _ _ _ _ _ [.int z5.1] _
      refine Z.if_ne (tgt := 39) (n := 36) dX11_arm_33 rfl rfl (fun c6 => ?_) (fun c6 => ?_)
      · rw [if_neg c6] at hf
        refine Z.aload_n (n := 40) dX11_arm_39 rfl rfl ?_
        refine Z.getf (n := 43) fX11_12 dX11_arm_40 rfl W0 rfl ?_
        refine Z.getf (n := 46) fX11_62 dX11_arm_43 rfl W1 rfl ?_
        refine Z.iload_n (n := 47) dX11_arm_46 rfl rfl ?_
        obtain ⟨j7, ej7, hf⟩ := Option.bind_eq_some_iff.mp hf
        obtain ⟨hij7, hlj7⟩ := ck_spec ej7
        refine Z.iald (j := j7) (n := 48) dX11_arm_47 rfl W2 hij7 hlj7 (by decide) ?_
        refine Z.istore_n (n := 49) dX11_arm_48 rfl (by decide) rfl ?_
        refine Z.aload_n (n := 50) dX11_arm_49 rfl rfl ?_
        refine Z.getf (n := 53) fX11_12 dX11_arm_50 rfl W0 rfl ?_
        refine Z.getf (n := 56) fX11_62 dX11_arm_53 rfl W1 rfl ?_
        refine Z.iload_n (n := 57) dX11_arm_56 rfl rfl ?_
        refine Z.iload_n (n := 58) dX11_arm_57 rfl rfl ?_
        obtain ⟨j8, ej8, hf⟩ := Option.bind_eq_some_iff.mp hf
        obtain ⟨hij8, hlj8⟩ := ck_spec ej8
        refine Z.iast (j := j8) (n := 59) dX11_arm_58 rfl W2 hij8 hlj8 (by decide) W2s ?_
        refine Z.iload_n (n := 60) dX11_arm_59 rfl rfl ?_
        have hz := Option.some.inj hf
        subst hz
        exact Z.iret hJ dX11_arm_60 rfl (Nat.le_refl _) (Nat.le_refl _) ⟨rfl, rfl⟩
      · rw [if_pos c6] at hf
        refine Z.bipush (n := 38) (v := -3) dX11_arm_36 rfl (by decide +kernel) ?_
        have hz := Option.some.inj hf
        subst hz
        exact Z.iret hJ dX11_arm_38 rfl (Nat.le_refl _) (Nat.le_refl _) ⟨rfl, rfl⟩
    · rw [if_neg c4] at hf
      refine Z.bipush (n := 24) (v := -2) dX11_arm_22 rfl (by decide +kernel) ?_
      have hz := Option.some.inj hf
      subst hz
      exact Z.iret hJ dX11_arm_24 rfl (Nat.le_refl _) (Nat.le_refl _) ⟨rfl, rfl⟩
  · rw [if_pos c2] at hf
    refine Z.iconst (n := 12) (v := -1) dX11_arm_11 rfl (by decide +kernel) ?_
    have hz := Option.some.inj hf
    subst hz
    exact Z.iret hJ dX11_arm_12 rfl (Nat.le_refl _) (Nat.le_refl _) ⟨rfl, rfl⟩
def fX11_worth_22 (h : HT) : Option (Int32 × HT) :=
  some ((-1), h)
set_option maxHeartbeats 4000000 in
theorem zX11_worth_22 {g : GP} {a : Nat → Nat} {P : PT} {J : JT} {z : Int32 × HT} (hJ : JX g 2 0 0 (PoI g a P z) J) (h : HT) (hf : fX11_worth_22 h = some z) : Z g mX11_worth J 0 0 22 [none, none, none, none, none] [] (WD g a h P) := by
  unfold fX11_worth_22 at hf
  refine Z.iconst (n := 23) (v := -1) dX11_worth_22 rfl (by decide +kernel) ?_
  have hz := Option.some.inj hf
  subst hz
  exact Z.iret hJ dX11_worth_23 rfl (Nat.le_refl _) (Nat.le_refl _) ⟨rfl, rfl⟩
def fX11_worth_38 (h : HT) : Option (Int32 × HT) :=
  some ((-2), h)
set_option maxHeartbeats 4000000 in
theorem zX11_worth_38 {g : GP} {a : Nat → Nat} {P : PT} {J : JT} {z : Int32 × HT} (hJ : JX g 2 0 0 (PoI g a P z) J) (h : HT) (hf : fX11_worth_38 h = some z) : Z g mX11_worth J 0 0 38 [none, none, none, none, none] [] (WD g a h P) := by
  unfold fX11_worth_38 at hf
  refine Z.bipush (n := 40) (v := -2) dX11_worth_38 rfl (by decide +kernel) ?_
  have hz := Option.some.inj hf
  subst hz
  exact Z.iret hJ dX11_worth_40 rfl (Nat.le_refl _) (Nat.le_refl _) ⟨rfl, rfl⟩
def fX11_worth (l1 : Int32) (l2 : Int32) (l3 : Int32) (h : HT) : Option (Int32 × HT) :=
  Option.bind (fX3_has l1 h) fun z1 =>
  if z1.1 = 0 then (fX11_worth_22 z1.2)
  else (Option.bind (fX3_has l2 z1.2) fun z3 =>
  if z3.1 = 0 then (fX11_worth_22 z3.2)
  else (if l1 = l2 then (fX11_worth_38 z3.2)
  else (Option.bind (fX11_outside l3 99 z3.2) fun z6 =>
  if z6.1 = 0 then (Option.bind (ck 7 l1) fun j8 =>
  Option.bind (ck 7 l2) fun j9 =>
  Option.bind (ck 7 l1) fun j10 =>
  Option.bind (ck 7 l2) fun j11 =>
  some (z6.2 (6 + j8) j9, hu z6.2 (6 + j10) j11 l3))
  else (fX11_worth_38 z6.2))))
set_option maxHeartbeats 4000000 in
theorem ctX11_worth {g : GP} {a : Nat → Nat} {P : PT} {h : HT} {z : Int32 × HT} {l1 : Int32} {l2 : Int32} {l3 : Int32} (hf : fX11_worth l1 l2 l3 h = some z) : Ct g 2 0 0 mX11_worth [.ref (a 0), .int l1, .int l2, .int l3] (WD g a h P) (PoI g a P z) := by
  refine Ct.of (by decide +kernel) (Nat.le_of_ble_eq_true rfl) fun J hJ => ?_
  show Z g mX11_worth J 0 0 0 [some (.ref (a 0)), some (.int l1), some (.int l2), some (.int l3), none] [] (WD g a h P)
  unfold fX11_worth at hf
  refine Z.aload_n (n := 1) dX11_worth_0 rfl rfl ?_
  refine Z.getf (n := 4) fX11_12 dX11_worth_1 rfl W0 rfl ?_
  refine Z.iload_n (n := 5) dX11_worth_4 rfl rfl ?_
  obtain ⟨z1, ez1, hf⟩ := Option.bind_eq_some_iff.mp hf
  refine Z.callV (n := 8) vX11_58 (ctX3_has ez1) hJ.rm (Nat.le_of_ble_eq_true rfl) rfl rfl (Nat.le_refl _) (Nat.le_refl _) rfl W1 rfl rfl (Nat.le_of_ble_eq_true rfl) rfl dX11_worth_5 rfl (fun v w hw => ?_)
  obtain ⟨rfl, rfl⟩ := hw
  show Z _ _ _ _ _ _ _ [.int z1.1] _
  refine Z.if_eq (tgt := 22) (n := 11) dX11_worth_8 rfl rfl (fun c2 => ?_) (fun c2 => ?_)
  · rw [if_pos c2] at hf
    refine Z.fg [0, 1, 2, 3] ?_
    exact zX11_worth_22 hJ _ hf
  · rw [if_neg c2] at hf
    refine Z.aload_n (n := 12) dX11_worth_11 rfl rfl ?_
    refine Z.getf (n := 15) fX11_12 dX11_worth_12 rfl W0 rfl ?_
    refine Z.iload_n (n := 16) dX11_worth_15 rfl rfl ?_
    obtain ⟨z3, ez3, hf⟩ := Option.bind_eq_some_iff.mp hf
    refine Z.callV (n := 19) vX11_58 (ctX3_has ez3) hJ.rm (Nat.le_of_ble_eq_true rfl) rfl rfl (Nat.le_refl _) (Nat.le_refl _) rfl W1 rfl rfl (Nat.le_of_ble_eq_true rfl) rfl dX11_worth_16 rfl (fun v w hw => ?_)
    obtain ⟨rfl, rfl⟩ := hw
    show Z _ _ _ _ _ _ _ [.int z3.1] _
    refine Z.if_ne (tgt := 24) (n := 22) dX11_worth_19 rfl rfl (fun c4 => ?_) (fun c4 => ?_)
    · rw [if_neg c4] at hf
      refine Z.iload_n (n := 25) dX11_worth_24 rfl rfl ?_
      refine Z.iload_n (n := 26) dX11_worth_25 rfl rfl ?_
      refine Z.icmp_eq (tgt := 38) (n := 29) dX11_worth_26 rfl rfl (fun c5 => ?_) (fun c5 => ?_)
      · rw [if_pos c5] at hf
        refine Z.fg [0, 1, 2, 3] ?_
        exact zX11_worth_38 hJ _ hf
      · rw [if_neg c5] at hf
        refine Z.iload_n (n := 30) dX11_worth_29 rfl rfl ?_
        refine Z.bipush (n := 32) (v := 99) dX11_worth_30 rfl (by decide +kernel) ?_
        obtain ⟨z6, ez6, hf⟩ := Option.bind_eq_some_iff.mp hf
        refine Z.callS (n := 35) vX11_46 (ctX11_outside ez6) hJ.rm (Nat.le_of_ble_eq_true rfl) rfl rfl (Nat.le_refl _) (Nat.le_refl _) rfl (Nat.le_of_ble_eq_true rfl) rfl dX11_worth_32 rfl (fun v w hw => ?_)
        obtain ⟨rfl, rfl⟩ := hw
        show Z _ _ _ _ _ _ _ [.int z6.1] _
        refine Z.if_eq (tgt := 41) (n := 38) dX11_worth_35 rfl rfl (fun c7 => ?_) (fun c7 => ?_)
        · rw [if_pos c7] at hf
          refine Z.aload_n (n := 42) dX11_worth_41 rfl rfl ?_
          refine Z.getf (n := 45) fX11_12 dX11_worth_42 rfl W0 rfl ?_
          refine Z.getf (n := 48) fX11_74 dX11_worth_45 rfl W1 rfl ?_
          refine Z.iload_n (n := 49) dX11_worth_48 rfl rfl ?_
          obtain ⟨j8, ej8, hf⟩ := Option.bind_eq_some_iff.mp hf
          obtain ⟨hij8, hlj8⟩ := ck_spec ej8
          refine Z.aald (j := j8) (ty := 3) (n := 50) dX11_worth_49 rfl W5 rfl rfl hij8 hlj8 (by decide) ?_
          rw [if_pos hlj8]
          show Z _ _ _ _ _ _ _ (.ref (a (6 + j8)) :: _) _
          refine Z.iload_n (n := 51) dX11_worth_50 rfl rfl ?_
          obtain ⟨j9, ej9, hf⟩ := Option.bind_eq_some_iff.mp hf
          obtain ⟨hij9, hlj9⟩ := ck_spec ej9
          refine Z.iald (j := j9) (n := 52) dX11_worth_51 rfl (Wwo (r := j8) hlj8) hij9 hlj9 (by decide) ?_
          refine Z.istore (n := 54) dX11_worth_52 rfl (by decide) rfl ?_
          refine Z.aload_n (n := 55) dX11_worth_54 rfl rfl ?_
          refine Z.getf (n := 58) fX11_12 dX11_worth_55 rfl W0 rfl ?_
          refine Z.getf (n := 61) fX11_74 dX11_worth_58 rfl W1 rfl ?_
          refine Z.iload_n (n := 62) dX11_worth_61 rfl rfl ?_
          obtain ⟨j10, ej10, hf⟩ := Option.bind_eq_some_iff.mp hf
          obtain ⟨hij10, hlj10⟩ := ck_spec ej10
          refine Z.aald (j := j10) (ty := 3) (n := 63) dX11_worth_62 rfl W5 rfl rfl hij10 hlj10 (by decide) ?_
          rw [if_pos hlj10]
          show Z _ _ _ _ _ _ _ (.ref (a (6 + j10)) :: _) _
          refine Z.iload_n (n := 64) dX11_worth_63 rfl rfl ?_
          refine Z.iload_n (n := 65) dX11_worth_64 rfl rfl ?_
          obtain ⟨j11, ej11, hf⟩ := Option.bind_eq_some_iff.mp hf
          obtain ⟨hij11, hlj11⟩ := ck_spec ej11
          refine Z.iast (j := j11) (n := 66) dX11_worth_65 rfl (Wwo (r := j10) hlj10) hij11 hlj11 (by decide) (Wwos (r := j10) hlj10) ?_
          refine Z.iload (n := 68) dX11_worth_66 rfl rfl ?_
          have hz := Option.some.inj hf
          subst hz
          exact Z.iret hJ dX11_worth_68 rfl (Nat.le_refl _) (Nat.le_refl _) ⟨rfl, rfl⟩
        · rw [if_neg c7] at hf
          refine Z.fg [0, 1, 2, 3] ?_
          exact zX11_worth_38 hJ _ hf
    · rw [if_pos c4] at hf
      refine Z.fg [0, 1, 2, 3] ?_
      exact zX11_worth_22 hJ _ hf
def fX11_pact_22 (h : HT) : Option (Int32 × HT) :=
  some ((-1), h)
set_option maxHeartbeats 4000000 in
theorem zX11_pact_22 {g : GP} {a : Nat → Nat} {P : PT} {J : JT} {z : Int32 × HT} (hJ : JX g 2 0 0 (PoI g a P z) J) (h : HT) (hf : fX11_pact_22 h = some z) : Z g mX11_pact J 0 0 22 [none, none, none, none, none] [] (WD g a h P) := by
  unfold fX11_pact_22 at hf
  refine Z.iconst (n := 23) (v := -1) dX11_pact_22 rfl (by decide +kernel) ?_
  have hz := Option.some.inj hf
  subst hz
  exact Z.iret hJ dX11_pact_23 rfl (Nat.le_refl _) (Nat.le_refl _) ⟨rfl, rfl⟩
def fX11_pact_37 (h : HT) : Option (Int32 × HT) :=
  some ((-2), h)
set_option maxHeartbeats 4000000 in
theorem zX11_pact_37 {g : GP} {a : Nat → Nat} {P : PT} {J : JT} {z : Int32 × HT} (hJ : JX g 2 0 0 (PoI g a P z) J) (h : HT) (hf : fX11_pact_37 h = some z) : Z g mX11_pact J 0 0 37 [none, none, none, none, none] [] (WD g a h P) := by
  unfold fX11_pact_37 at hf
  refine Z.bipush (n := 39) (v := -2) dX11_pact_37 rfl (by decide +kernel) ?_
  have hz := Option.some.inj hf
  subst hz
  exact Z.iret hJ dX11_pact_39 rfl (Nat.le_refl _) (Nat.le_refl _) ⟨rfl, rfl⟩
def fX11_pact (l1 : Int32) (l2 : Int32) (l3 : Int32) (h : HT) : Option (Int32 × HT) :=
  Option.bind (fX3_has l1 h) fun z1 =>
  if z1.1 = 0 then (fX11_pact_22 z1.2)
  else (Option.bind (fX3_has l2 z1.2) fun z3 =>
  if z3.1 = 0 then (fX11_pact_22 z3.2)
  else (if l1 = l2 then (fX11_pact_37 z3.2)
  else (Option.bind (fX11_outside l3 3 z3.2) fun z6 =>
  if z6.1 = 0 then (Option.bind (ck 7 l1) fun j8 =>
  Option.bind (ck 7 l2) fun j9 =>
  Option.bind (ck 7 l1) fun j10 =>
  Option.bind (ck 7 l2) fun j11 =>
  some (z6.2 (14 + j8) j9, hu z6.2 (14 + j10) j11 l3))
  else (fX11_pact_37 z6.2))))
set_option maxHeartbeats 4000000 in
theorem ctX11_pact {g : GP} {a : Nat → Nat} {P : PT} {h : HT} {z : Int32 × HT} {l1 : Int32} {l2 : Int32} {l3 : Int32} (hf : fX11_pact l1 l2 l3 h = some z) : Ct g 2 0 0 mX11_pact [.ref (a 0), .int l1, .int l2, .int l3] (WD g a h P) (PoI g a P z) := by
  refine Ct.of (by decide +kernel) (Nat.le_of_ble_eq_true rfl) fun J hJ => ?_
  show Z g mX11_pact J 0 0 0 [some (.ref (a 0)), some (.int l1), some (.int l2), some (.int l3), none] [] (WD g a h P)
  unfold fX11_pact at hf
  refine Z.aload_n (n := 1) dX11_pact_0 rfl rfl ?_
  refine Z.getf (n := 4) fX11_12 dX11_pact_1 rfl W0 rfl ?_
  refine Z.iload_n (n := 5) dX11_pact_4 rfl rfl ?_
  obtain ⟨z1, ez1, hf⟩ := Option.bind_eq_some_iff.mp hf
  refine Z.callV (n := 8) vX11_58 (ctX3_has ez1) hJ.rm (Nat.le_of_ble_eq_true rfl) rfl rfl (Nat.le_refl _) (Nat.le_refl _) rfl W1 rfl rfl (Nat.le_of_ble_eq_true rfl) rfl dX11_pact_5 rfl (fun v w hw => ?_)
  obtain ⟨rfl, rfl⟩ := hw
  show Z _ _ _ _ _ _ _ [.int z1.1] _
  refine Z.if_eq (tgt := 22) (n := 11) dX11_pact_8 rfl rfl (fun c2 => ?_) (fun c2 => ?_)
  · rw [if_pos c2] at hf
    refine Z.fg [0, 1, 2, 3] ?_
    exact zX11_pact_22 hJ _ hf
  · rw [if_neg c2] at hf
    refine Z.aload_n (n := 12) dX11_pact_11 rfl rfl ?_
    refine Z.getf (n := 15) fX11_12 dX11_pact_12 rfl W0 rfl ?_
    refine Z.iload_n (n := 16) dX11_pact_15 rfl rfl ?_
    obtain ⟨z3, ez3, hf⟩ := Option.bind_eq_some_iff.mp hf
    refine Z.callV (n := 19) vX11_58 (ctX3_has ez3) hJ.rm (Nat.le_of_ble_eq_true rfl) rfl rfl (Nat.le_refl _) (Nat.le_refl _) rfl W1 rfl rfl (Nat.le_of_ble_eq_true rfl) rfl dX11_pact_16 rfl (fun v w hw => ?_)
    obtain ⟨rfl, rfl⟩ := hw
    show Z _ _ _ _ _ _ _ [.int z3.1] _
    refine Z.if_ne (tgt := 24) (n := 22) dX11_pact_19 rfl rfl (fun c4 => ?_) (fun c4 => ?_)
    · rw [if_neg c4] at hf
      refine Z.iload_n (n := 25) dX11_pact_24 rfl rfl ?_
      refine Z.iload_n (n := 26) dX11_pact_25 rfl rfl ?_
      refine Z.icmp_eq (tgt := 37) (n := 29) dX11_pact_26 rfl rfl (fun c5 => ?_) (fun c5 => ?_)
      · rw [if_pos c5] at hf
        refine Z.fg [0, 1, 2, 3] ?_
        exact zX11_pact_37 hJ _ hf
      · rw [if_neg c5] at hf
        refine Z.iload_n (n := 30) dX11_pact_29 rfl rfl ?_
        refine Z.iconst (n := 31) (v := 3) dX11_pact_30 rfl (by decide +kernel) ?_
        obtain ⟨z6, ez6, hf⟩ := Option.bind_eq_some_iff.mp hf
        refine Z.callS (n := 34) vX11_46 (ctX11_outside ez6) hJ.rm (Nat.le_of_ble_eq_true rfl) rfl rfl (Nat.le_refl _) (Nat.le_refl _) rfl (Nat.le_of_ble_eq_true rfl) rfl dX11_pact_31 rfl (fun v w hw => ?_)
        obtain ⟨rfl, rfl⟩ := hw
        show Z _ _ _ _ _ _ _ [.int z6.1] _
        refine Z.if_eq (tgt := 40) (n := 37) dX11_pact_34 rfl rfl (fun c7 => ?_) (fun c7 => ?_)
        · rw [if_pos c7] at hf
          refine Z.aload_n (n := 41) dX11_pact_40 rfl rfl ?_
          refine Z.getf (n := 44) fX11_12 dX11_pact_41 rfl W0 rfl ?_
          refine Z.getf (n := 47) fX11_78 dX11_pact_44 rfl W1 rfl ?_
          refine Z.iload_n (n := 48) dX11_pact_47 rfl rfl ?_
          obtain ⟨j8, ej8, hf⟩ := Option.bind_eq_some_iff.mp hf
          obtain ⟨hij8, hlj8⟩ := ck_spec ej8
          refine Z.aald (j := j8) (ty := 3) (n := 49) dX11_pact_48 rfl W13 rfl rfl hij8 hlj8 (by decide) ?_
          rw [if_pos hlj8]
          show Z _ _ _ _ _ _ _ (.ref (a (14 + j8)) :: _) _
          refine Z.iload_n (n := 50) dX11_pact_49 rfl rfl ?_
          obtain ⟨j9, ej9, hf⟩ := Option.bind_eq_some_iff.mp hf
          obtain ⟨hij9, hlj9⟩ := ck_spec ej9
          refine Z.iald (j := j9) (n := 51) dX11_pact_50 rfl (Wpa (r := j8) hlj8) hij9 hlj9 (by decide) ?_
          refine Z.istore (n := 53) dX11_pact_51 rfl (by decide) rfl ?_
          refine Z.aload_n (n := 54) dX11_pact_53 rfl rfl ?_
          refine Z.getf (n := 57) fX11_12 dX11_pact_54 rfl W0 rfl ?_
          refine Z.getf (n := 60) fX11_78 dX11_pact_57 rfl W1 rfl ?_
          refine Z.iload_n (n := 61) dX11_pact_60 rfl rfl ?_
          obtain ⟨j10, ej10, hf⟩ := Option.bind_eq_some_iff.mp hf
          obtain ⟨hij10, hlj10⟩ := ck_spec ej10
          refine Z.aald (j := j10) (ty := 3) (n := 62) dX11_pact_61 rfl W13 rfl rfl hij10 hlj10 (by decide) ?_
          rw [if_pos hlj10]
          show Z _ _ _ _ _ _ _ (.ref (a (14 + j10)) :: _) _
          refine Z.iload_n (n := 63) dX11_pact_62 rfl rfl ?_
          refine Z.iload_n (n := 64) dX11_pact_63 rfl rfl ?_
          obtain ⟨j11, ej11, hf⟩ := Option.bind_eq_some_iff.mp hf
          obtain ⟨hij11, hlj11⟩ := ck_spec ej11
          refine Z.iast (j := j11) (n := 65) dX11_pact_64 rfl (Wpa (r := j10) hlj10) hij11 hlj11 (by decide) (Wpas (r := j10) hlj10) ?_
          refine Z.iload (n := 67) dX11_pact_65 rfl rfl ?_
          have hz := Option.some.inj hf
          subst hz
          exact Z.iret hJ dX11_pact_67 rfl (Nat.le_refl _) (Nat.le_refl _) ⟨rfl, rfl⟩
        · rw [if_neg c7] at hf
          refine Z.fg [0, 1, 2, 3] ?_
          exact zX11_pact_37 hJ _ hf
    · rw [if_pos c4] at hf
      refine Z.fg [0, 1, 2, 3] ?_
      exact zX11_pact_22 hJ _ hf
def fX11_feed_11 (h : HT) : Option (Int32 × HT) :=
  some ((-2), h)
set_option maxHeartbeats 4000000 in
theorem zX11_feed_11 {g : GP} {a : Nat → Nat} {P : PT} {J : JT} {z : Int32 × HT} (hJ : JX g 2 0 0 (PoI g a P z) J) (h : HT) (hf : fX11_feed_11 h = some z) : Z g mX11_feed J 0 0 11 [none, none, none, none, none] [] (WD g a h P) := by
  unfold fX11_feed_11 at hf
  refine Z.bipush (n := 13) (v := -2) dX11_feed_11 rfl (by decide +kernel) ?_
  have hz := Option.some.inj hf
  subst hz
  exact Z.iret hJ dX11_feed_13 rfl (Nat.le_refl _) (Nat.le_refl _) ⟨rfl, rfl⟩
def fX11_feed_39 : Nat → Int64 → Int32 → HT → Option (Int32 × HT)
  | 0, _, _, _ => none
  | n + 1, l1, l4, h =>
  if l4 < 0 then (some (h 21 1, h))
  else (Option.bind (fX6_put ((((l1.toUInt64 >>> (((8 : Int32) * l4).toInt64.toUInt64 &&& Int64.toUInt64 63)).toInt64).toInt32) &&& (255 : Int32)) h) fun z5 =>
  fX11_feed_39  n l1 (l4 + (-1)) z5.2)
set_option maxHeartbeats 4000000 in
theorem zX11_feed_39 {g : GP} {a : Nat → Nat} {P : PT} {J : JT} {z : Int32 × HT} (hJ : JX g 2 0 0 (PoI g a P z) J) : ∀ (n : Nat) (l1 : Int64) (l4 : Int32) (h : HT), fX11_feed_39 n l1 l4 h = some z → Z g mX11_feed J 0 0 39 [some (.ref (a 0)), some (.long l1), none, none, some (.int l4)] [] (WD g a h P) := by
  intro n
  induction n with
  | zero =>
    intro _ _ _ hf
    cases hf
  | succ n ih =>
    intro l1 l4 h hf
    unfold fX11_feed_39 at hf
    refine Z.iload (n := 41) dX11_feed_39 rfl rfl ?_
    refine Z.if_lt (tgt := 72) (n := 44) dX11_feed_41 rfl rfl (fun c4 => ?_) (fun c4 => ?_)
    · rw [if_pos c4] at hf
      refine Z.aload_n (n := 73) dX11_feed_72 rfl rfl ?_
      refine Z.getf (n := 76) fX11_12 dX11_feed_73 rfl W0 rfl ?_
      refine Z.getf (n := 79) fX11_81 dX11_feed_76 rfl W1 rfl ?_
      refine Z.getf (n := 82) fX11_85 dX11_feed_79 rfl W21 rfl ?_
      have hz := Option.some.inj hf
      subst hz
      exact Z.iret hJ dX11_feed_82 rfl (Nat.le_refl _) (Nat.le_refl _) ⟨rfl, rfl⟩
    · rw [if_neg c4] at hf
      refine Z.aload_n (n := 45) dX11_feed_44 rfl rfl ?_
      refine Z.getf (n := 48) fX11_12 dX11_feed_45 rfl W0 rfl ?_
      refine Z.getf (n := 51) fX11_81 dX11_feed_48 rfl W1 rfl ?_
      refine Z.lload_n (n := 52) dX11_feed_51 rfl rfl ?_
      refine Z.bipush (n := 54) (v := 8) dX11_feed_52 rfl (by decide +kernel) ?_
      refine Z.iload (n := 56) dX11_feed_54 rfl rfl ?_
      refine Z.imul (n := 57) dX11_feed_56 rfl ?_
      refine Z.lushr (n := 58) dX11_feed_57 rfl rfl ?_
      refine Z.l2i (n := 59) dX11_feed_58 rfl rfl ?_
      refine Z.sipush (n := 62) (v := 255) dX11_feed_59 rfl (by decide +kernel) ?_
      refine Z.iand (n := 63) dX11_feed_62 rfl ?_
      obtain ⟨z5, ez5, hf⟩ := Option.bind_eq_some_iff.mp hf
      refine Z.callV (n := 66) vX11_90 (ctX6_put ez5) hJ.rm (Nat.le_of_ble_eq_true rfl) rfl rfl (Nat.le_refl _) (Nat.le_refl _) rfl W21 rfl rfl (Nat.le_of_ble_eq_true rfl) rfl dX11_feed_63 rfl (fun v w hw => ?_)
      obtain ⟨rfl, rfl⟩ := hw
      show Z _ _ _ _ _ _ _ [] _
      refine Z.iinc (n := 69) (v := l4 + (-1)) dX11_feed_66 rfl rfl rfl (by decide) rfl ?_
      refine Z.goto (tgt := 39) dX11_feed_69 rfl ?_
      exact ih _ _ _ hf
def fX11_feed (l1 : Int64) (l3 : Int32) (h : HT) : Option (Int32 × HT) :=
  if l3 < 1 then (fX11_feed_11 h)
  else (if l3 ≤ 8 then (if ((h 21 1) + l3) ≤ 120 then (fX11_feed_39 1000 l1 (l3 - (1 : Int32)) h)
  else (some ((-4), h)))
  else (fX11_feed_11 h))
set_option maxHeartbeats 4000000 in
theorem ctX11_feed {g : GP} {a : Nat → Nat} {P : PT} {h : HT} {z : Int32 × HT} {l1 : Int64} {l3 : Int32} (hf : fX11_feed l1 l3 h = some z) : Ct g 2 0 0 mX11_feed [.ref (a 0), .long l1, .int l3] (WD g a h P) (PoI g a P z) := by
  refine Ct.of (by decide +kernel) (Nat.le_of_ble_eq_true rfl) fun J hJ => ?_
  show Z g mX11_feed J 0 0 0 [some (.ref (a 0)), some (.long l1), none, some (.int l3), none] [] (WD g a h P)
  unfold fX11_feed at hf
  refine Z.iload_n (n := 1) dX11_feed_0 rfl rfl ?_
  refine Z.iconst (n := 2) (v := 1) dX11_feed_1 rfl (by decide +kernel) ?_
  refine Z.icmp_lt (tgt := 11) (n := 5) dX11_feed_2 rfl rfl (fun c1 => ?_) (fun c1 => ?_)
  · rw [if_pos c1] at hf
    refine Z.fg [0, 1, 3] ?_
    exact zX11_feed_11 hJ _ hf
  · rw [if_neg c1] at hf
    refine Z.iload_n (n := 6) dX11_feed_5 rfl rfl ?_
    refine Z.bipush (n := 8) (v := 8) dX11_feed_6 rfl (by decide +kernel) ?_
    refine Z.icmp_le (tgt := 14) (n := 11) dX11_feed_8 rfl rfl (fun c2 => ?_) (fun c2 => ?_)
    · rw [if_pos c2] at hf
      refine Z.aload_n (n := 15) dX11_feed_14 rfl rfl ?_
      refine Z.getf (n := 18) fX11_12 dX11_feed_15 rfl W0 rfl ?_
      refine Z.getf (n := 21) fX11_81 dX11_feed_18 rfl W1 rfl ?_
      refine Z.getf (n := 24) fX11_85 dX11_feed_21 rfl W21 rfl ?_
      refine Z.iload_n (n := 25) dX11_feed_24 rfl rfl ?_
      refine Z.iadd (n := 26) dX11_feed_25 rfl ?_
      refine Z.bipush (n := 28) (v := 120) dX11_feed_26 rfl (by decide +kernel) ?_
      refine Z.icmp_le (tgt := 34) (n := 31) dX11_feed_28 rfl rfl (fun c3 => ?_) (fun c3 => ?_)
      · rw [if_pos c3] at hf
        refine Z.iload_n (n := 35) dX11_feed_34 rfl rfl ?_
        refine Z.iconst (n := 36) (v := 1) dX11_feed_35 rfl (by decide +kernel) ?_
        refine Z.isub (n := 37) dX11_feed_36 rfl ?_
        refine Z.istore (n := 39) dX11_feed_37 rfl (by decide) rfl ?_
        refine Z.fg [3] ?_
        exact zX11_feed_39 hJ _ _ _ _ hf
      · rw [if_neg c3] at hf
        refine Z.bipush (n := 33) (v := -4) dX11_feed_31 rfl (by decide +kernel) ?_
        have hz := Option.some.inj hf
        subst hz
        exact Z.iret hJ dX11_feed_33 rfl (Nat.le_refl _) (Nat.le_refl _) ⟨rfl, rfl⟩
    · rw [if_neg c2] at hf
      refine Z.fg [0, 1, 3] ?_
      exact zX11_feed_11 hJ _ hf
