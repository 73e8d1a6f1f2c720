/-! walks, by program: 16.c6.lean.txt -/
def fX11_all_55 (s0 : Int32) (s1 : Int32) (h : HT) : Option (Int32 × HT) :=
  Option.bind (fX8_number s1 s0 h) fun z7 =>
  some (z7.1, z7.2)
set_option maxHeartbeats 4000000 in
theorem zX11_all_55 {g : GP} {a : Nat → Nat} {P : PT} {J : JT} {z : Int32 × HT} (hJ : JX g 8 0 0 (PoI g a P z) J) (s0 : Int32) (s1 : Int32) (h : HT) (hf : fX11_all_55 s0 s1 h = some z) : Z g mX11_all J 0 0 55 [none, none] [.int s0, .int s1, .ref (a 1), .ref (a 88)] (WD g a h P) := by
  unfold fX11_all_55 at hf
  obtain ⟨z7, ez7, hf⟩ := Option.bind_eq_some_iff.mp hf
  refine Z.callV (n := 58) vX11_177 (ctX8_number ez7) hJ.rm (Nat.le_of_ble_eq_true rfl) rfl rfl (Nat.le_refl _) (Nat.le_refl _) rfl W88 rfl rfl (Nat.le_of_ble_eq_true rfl) rfl dX11_all_55 rfl (fun v w hw => ?_)
  obtain ⟨rfl, rfl⟩ := hw
  show Z _ _ _ _ _ _ _ [.int z7.1] _
  have hz := Option.some.inj hf
  subst hz
  exact Z.iret hJ dX11_all_58 rfl (Nat.le_refl _) (Nat.le_refl _) ⟨rfl, rfl⟩
def fX11_all_45 (l1 : Int32) (s0 : Int32) (h : HT) : Option (Int32 × HT) :=
  if l1 = 2 then (fX11_all_55 1 s0 h)
  else (fX11_all_55 0 s0 h)
set_option maxHeartbeats 4000000 in
theorem zX11_all_45 {g : GP} {a : Nat → Nat} {P : PT} {J : JT} {z : Int32 × HT} (hJ : JX g 8 0 0 (PoI g a P z) J) (l1 : Int32) (s0 : Int32) (h : HT) (hf : fX11_all_45 l1 s0 h = some z) : Z g mX11_all J 0 0 45 [none, some (.int l1)] [.int s0, .ref (a 1), .ref (a 88)] (WD g a h P) := by
  unfold fX11_all_45 at hf
  refine Z.iload_n (n := 46) dX11_all_45 rfl rfl ?_
  refine Z.iconst (n := 47) (v := 2) dX11_all_46 rfl (by decide +kernel) ?_
  refine Z.icmp_ne (tgt := 54) (n := 50) dX11_all_47 rfl rfl (fun c6 => ?_) (fun c6 => ?_)
  · rw [if_neg c6] at hf
    refine Z.iconst (n := 55) (v := 0) dX11_all_54 rfl (by decide +kernel) ?_
    refine Z.fg [1] ?_
    exact zX11_all_55 hJ _ _ _ hf
  · rw [if_pos c6] at hf
    refine Z.iconst (n := 51) (v := 1) dX11_all_50 rfl (by decide +kernel) ?_
    refine Z.goto (tgt := 55) dX11_all_51 rfl ?_
    refine Z.fg [1] ?_
    exact zX11_all_55 hJ _ _ _ hf
def fX11_all (l1 : Int32) (h : HT) : Option (Int32 × HT) :=
  Option.bind (fX11_outside l1 2 h) fun z1 =>
  if z1.1 = 0 then (Option.bind (fX8_fits  z1.2) fun z3 =>
  if z3.1 = 0 then (some ((-9), z3.2))
  else (if l1 < 1 then (fX11_all_45 l1 0 z3.2)
  else (fX11_all_45 l1 1 z3.2)))
  else (some ((-1), z1.2))
set_option maxHeartbeats 4000000 in
theorem ctX11_all {g : GP} {a : Nat → Nat} {P : PT} {h : HT} {z : Int32 × HT} {l1 : Int32} (hf : fX11_all l1 h = some z) : Ct g 8 0 0 mX11_all [.ref (a 0), .int l1] (WD g a h P) (PoI g a P z) := by
  refine Ct.of (by decide +kernel) (Nat.le_of_ble_eq_true rfl) fun J hJ => ?_
  show Z g mX11_all J 0 0 0 [some (.ref (a 0)), some (.int l1)] [] (WD g a h P)
  unfold fX11_all at hf
  refine Z.iload_n (n := 1) dX11_all_0 rfl rfl ?_
  refine Z.iconst (n := 2) (v := 2) dX11_all_1 rfl (by decide +kernel) ?_
  obtain ⟨z1, ez1, hf⟩ := Option.bind_eq_some_iff.mp hf
  refine Z.callS (n := 5) vX11_46 (ctX11_outside ez1) hJ.rm (Nat.le_of_ble_eq_true rfl) rfl rfl (Nat.le_refl _) (Nat.le_refl _) rfl (Nat.le_of_ble_eq_true rfl) rfl dX11_all_2 rfl (fun v w hw => ?_)
  obtain ⟨rfl, rfl⟩ := hw
  show Z _ _ _ _ _ _ _ [.int z1.1] _
  refine Z.if_eq (tgt := 10) (n := 8) dX11_all_5 rfl rfl (fun c2 => ?_) (fun c2 => ?_)
  · rw [if_pos c2] at hf
    refine Z.aload_n (n := 11) dX11_all_10 rfl rfl ?_
    refine Z.getf (n := 14) fX11_35 dX11_all_11 rfl W0 rfl ?_
    refine Z.aload_n (n := 15) dX11_all_14 rfl rfl ?_
    refine Z.getf (n := 18) fX11_12 dX11_all_15 rfl W0 rfl ?_
    obtain ⟨z3, ez3, hf⟩ := Option.bind_eq_some_iff.mp hf
    refine Z.callV (n := 21) vX11_173 (ctX8_fits ez3) hJ.rm (Nat.le_of_ble_eq_true rfl) rfl rfl (Nat.le_refl _) (Nat.le_refl _) rfl W88 rfl rfl (Nat.le_of_ble_eq_true rfl) rfl dX11_all_18 rfl (fun v w hw => ?_)
    obtain ⟨rfl, rfl⟩ := hw
    show Z _ _ _ _ _ _ _ [.int z3.1] _
    refine Z.if_ne (tgt := 27) (n := 24) dX11_all_21 rfl rfl (fun c4 => ?_) (fun c4 => ?_)
    · rw [if_neg c4] at hf
      refine Z.aload_n (n := 28) dX11_all_27 rfl rfl ?_
      refine Z.getf (n := 31) fX11_35 dX11_all_28 rfl W0 rfl ?_
      refine Z.aload_n (n := 32) dX11_all_31 rfl rfl ?_
      refine Z.getf (n := 35) fX11_12 dX11_all_32 rfl W0 rfl ?_
      refine Z.iload_n (n := 36) dX11_all_35 rfl rfl ?_
      refine Z.iconst (n := 37) (v := 1) dX11_all_36 rfl (by decide +kernel) ?_
      refine Z.icmp_lt (tgt := 44) (n := 40) dX11_all_37 rfl rfl (fun c5 => ?_) (fun c5 => ?_)
      · rw [if_pos c5] at hf
        refine Z.iconst (n := 45) (v := 0) dX11_all_44 rfl (by decide +kernel) ?_
        refine Z.fg [0] ?_
        exact zX11_all_45 hJ _ _ _ hf
      · rw [if_neg c5] at hf
        refine Z.iconst (n := 41) (v := 1) dX11_all_40 rfl (by decide +kernel) ?_
        refine Z.goto (tgt := 45) dX11_all_41 rfl ?_
        refine Z.fg [0] ?_
        exact zX11_all_45 hJ _ _ _ hf
    · rw [if_pos c4] at hf
      refine Z.bipush (n := 26) (v := -9) dX11_all_24 rfl (by decide +kernel) ?_
      have hz := Option.some.inj hf
      subst hz
      exact Z.iret hJ dX11_all_26 rfl (Nat.le_refl _) (Nat.le_refl _) ⟨rfl, rfl⟩
  · rw [if_neg c2] at hf
    refine Z.iconst (n := 9) (v := -1) dX11_all_8 rfl (by decide +kernel) ?_
    have hz := Option.some.inj hf
    subst hz
    exact Z.iret hJ dX11_all_9 rfl (Nat.le_refl _) (Nat.le_refl _) ⟨rfl, rfl⟩
def fX11_quiet_22 (h : HT) : Option (Int32 × HT) :=
  some ((-1), h)
set_option maxHeartbeats 4000000 in
theorem zX11_quiet_22 {g : GP} {a : Nat → Nat} {P : PT} {J : JT} {z : Int32 × HT} (hJ : JX g 8 0 0 (PoI g a P z) J) (h : HT) (hf : fX11_quiet_22 h = some z) : Z g mX11_quiet J 0 0 22 [none, none, none, none] [] (WD g a h P) := by
  unfold fX11_quiet_22 at hf
  refine Z.iconst (n := 23) (v := -1) dX11_quiet_22 rfl (by decide +kernel) ?_
  have hz := Option.some.inj hf
  subst hz
  exact Z.iret hJ dX11_quiet_23 rfl (Nat.le_refl _) (Nat.le_refl _) ⟨rfl, rfl⟩
def fX11_quiet_73 (s0 : Int32) (h : HT) : Option (Int32 × HT) :=
  some (s0, h)
set_option maxHeartbeats 4000000 in
theorem zX11_quiet_73 {g : GP} {a : Nat → Nat} {P : PT} {J : JT} {z : Int32 × HT} (hJ : JX g 8 0 0 (PoI g a P z) J) (s0 : Int32) (h : HT) (hf : fX11_quiet_73 s0 h = some z) : Z g mX11_quiet J 0 0 73 [none, none, none, none] [.int s0] (WD g a h P) := by
  unfold fX11_quiet_73 at hf
  have hz := Option.some.inj hf
  subst hz
  exact Z.iret hJ dX11_quiet_73 rfl (Nat.le_refl _) (Nat.le_refl _) ⟨rfl, rfl⟩
def fX11_quiet (l1 : Int32) (l2 : Int32) (l3 : Int32) (h : HT) : Option (Int32 × HT) :=
  Option.bind (fX3_has l2 h) fun z1 =>
  if z1.1 = 0 then (fX11_quiet_22 z1.2)
  else (Option.bind (fX3_lives l2 z1.2) fun z3 =>
  if z3.1 = 0 then (fX11_quiet_22 z3.2)
  else (Option.bind (fX8_fits  z3.2) fun z5 =>
  if z5.1 = 0 then (some ((-9), z5.2))
  else (Option.bind (fX8_find l1 l3 z5.2) fun z7 =>
  if z7.1 = 0 then (fX11_quiet_73 (-1) z7.2)
  else (Option.bind (fX8_blockOf l2 z7.2) fun z9 =>
  fX11_quiet_73 z9.1 z9.2))))
set_option maxHeartbeats 4000000 in
theorem ctX11_quiet {g : GP} {a : Nat → Nat} {P : PT} {h : HT} {z : Int32 × HT} {l1 : Int32} {l2 : Int32} {l3 : Int32} (hf : fX11_quiet l1 l2 l3 h = some z) : Ct g 8 0 0 mX11_quiet [.ref (a 0), .int l1, .int l2, .int l3] (WD g a h P) (PoI g a P z) := by
  refine Ct.of (by decide +kernel) (Nat.le_of_ble_eq_true rfl) fun J hJ => ?_
  show Z g mX11_quiet J 0 0 0 [some (.ref (a 0)), some (.int l1), some (.int l2), some (.int l3)] [] (WD g a h P)
  unfold fX11_quiet at hf
  refine Z.aload_n (n := 1) dX11_quiet_0 rfl rfl ?_
  refine Z.getf (n := 4) fX11_12 dX11_quiet_1 rfl W0 rfl ?_
  refine Z.iload_n (n := 5) dX11_quiet_4 rfl rfl ?_
  obtain ⟨z1, ez1, hf⟩ := Option.bind_eq_some_iff.mp hf
  refine Z.callV (n := 8) vX11_58 (ctX3_has ez1) hJ.rm (Nat.le_of_ble_eq_true rfl) rfl rfl (Nat.le_refl _) (Nat.le_refl _) rfl W1 rfl rfl (Nat.le_of_ble_eq_true rfl) rfl dX11_quiet_5 rfl (fun v w hw => ?_)
  obtain ⟨rfl, rfl⟩ := hw
  show Z _ _ _ _ _ _ _ [.int z1.1] _
  refine Z.if_eq (tgt := 22) (n := 11) dX11_quiet_8 rfl rfl (fun c2 => ?_) (fun c2 => ?_)
  · rw [if_pos c2] at hf
    refine Z.fg [0, 1, 2, 3] ?_
    exact zX11_quiet_22 hJ _ hf
  · rw [if_neg c2] at hf
    refine Z.aload_n (n := 12) dX11_quiet_11 rfl rfl ?_
    refine Z.getf (n := 15) fX11_12 dX11_quiet_12 rfl W0 rfl ?_
    refine Z.iload_n (n := 16) dX11_quiet_15 rfl rfl ?_
    obtain ⟨z3, ez3, hf⟩ := Option.bind_eq_some_iff.mp hf
    refine Z.callV (n := 19) vX11_68 (ctX3_lives ez3) hJ.rm (Nat.le_of_ble_eq_true rfl) rfl rfl (Nat.le_refl _) (Nat.le_refl _) rfl W1 rfl rfl (Nat.le_of_ble_eq_true rfl) rfl dX11_quiet_16 rfl (fun v w hw => ?_)
    obtain ⟨rfl, rfl⟩ := hw
    show Z _ _ _ _ _ _ _ [.int z3.1] _
    refine Z.if_ne (tgt := 24) (n := 22) dX11_quiet_19 rfl rfl (fun c4 => ?_) (fun c4 => ?_)
    · rw [if_neg c4] at hf
      refine Z.aload_n (n := 25) dX11_quiet_24 rfl rfl ?_
      refine Z.getf (n := 28) fX11_35 dX11_quiet_25 rfl W0 rfl ?_
      refine Z.aload_n (n := 29) dX11_quiet_28 rfl rfl ?_
      refine Z.getf (n := 32) fX11_12 dX11_quiet_29 rfl W0 rfl ?_
      obtain ⟨z5, ez5, hf⟩ := Option.bind_eq_some_iff.mp hf
      refine Z.callV (n := 35) vX11_173 (ctX8_fits ez5) hJ.rm (Nat.le_of_ble_eq_true rfl) rfl rfl (Nat.le_refl _) (Nat.le_refl _) rfl W88 rfl rfl (Nat.le_of_ble_eq_true rfl) rfl dX11_quiet_32 rfl (fun v w hw => ?_)
      obtain ⟨rfl, rfl⟩ := hw
      show Z _ _ _ _ _ _ _ [.int z5.1] _
      refine Z.if_ne (tgt := 41) (n := 38) dX11_quiet_35 rfl rfl (fun c6 => ?_) (fun c6 => ?_)
      · rw [if_neg c6] at hf
        refine Z.aload_n (n := 42) dX11_quiet_41 rfl rfl ?_
        refine Z.getf (n := 45) fX11_35 dX11_quiet_42 rfl W0 rfl ?_
        refine Z.aload_n (n := 46) dX11_quiet_45 rfl rfl ?_
        refine Z.getf (n := 49) fX11_12 dX11_quiet_46 rfl W0 rfl ?_
        refine Z.iload_n (n := 50) dX11_quiet_49 rfl rfl ?_
        refine Z.iload_n (n := 51) dX11_quiet_50 rfl rfl ?_
        obtain ⟨z7, ez7, hf⟩ := Option.bind_eq_some_iff.mp hf
        refine Z.callV (n := 54) vX11_181 (ctX8_find ez7) hJ.rm (Nat.le_of_ble_eq_true rfl) rfl rfl (Nat.le_refl _) (Nat.le_refl _) rfl W88 rfl rfl (Nat.le_of_ble_eq_true rfl) rfl dX11_quiet_51 rfl (fun v w hw => ?_)
        obtain ⟨rfl, rfl⟩ := hw
        show Z _ _ _ _ _ _ _ [.int z7.1] _
        refine Z.if_eq (tgt := 72) (n := 57) dX11_quiet_54 rfl rfl (fun c8 => ?_) (fun c8 => ?_)
        · rw [if_pos c8] at hf
          refine Z.iconst (n := 73) (v := -1) dX11_quiet_72 rfl (by decide +kernel) ?_
          refine Z.fg [0, 1, 2, 3] ?_
          exact zX11_quiet_73 hJ _ _ hf
        · rw [if_neg c8] at hf
          refine Z.aload_n (n := 58) dX11_quiet_57 rfl rfl ?_
          refine Z.getf (n := 61) fX11_35 dX11_quiet_58 rfl W0 rfl ?_
          refine Z.aload_n (n := 62) dX11_quiet_61 rfl rfl ?_
          refine Z.getf (n := 65) fX11_12 dX11_quiet_62 rfl W0 rfl ?_
          refine Z.iload_n (n := 66) dX11_quiet_65 rfl rfl ?_
          obtain ⟨z9, ez9, hf⟩ := Option.bind_eq_some_iff.mp hf
          refine Z.callV (n := 69) vX11_185 (ctX8_blockOf ez9) hJ.rm (Nat.le_of_ble_eq_true rfl) rfl rfl (Nat.le_refl _) (Nat.le_refl _) rfl W88 rfl rfl (Nat.le_of_ble_eq_true rfl) rfl dX11_quiet_66 rfl (fun v w hw => ?_)
          obtain ⟨rfl, rfl⟩ := hw
          show Z _ _ _ _ _ _ _ [.int z9.1] _
          refine Z.goto (tgt := 73) dX11_quiet_69 rfl ?_
          refine Z.fg [0, 1, 2, 3] ?_
          exact zX11_quiet_73 hJ _ _ hf
      · rw [if_pos c6] at hf
        refine Z.bipush (n := 40) (v := -9) dX11_quiet_38 rfl (by decide +kernel) ?_
        have hz := Option.some.inj hf
        subst hz
        exact Z.iret hJ dX11_quiet_40 rfl (Nat.le_refl _) (Nat.le_refl _) ⟨rfl, rfl⟩
    · rw [if_pos c4] at hf
      refine Z.fg [0, 1, 2, 3] ?_
      exact zX11_quiet_22 hJ _ hf
