/-! walks, by program: 16.c1.lean.txt -/
def fX11_image (P : PT) (h : HT) : Option (Int32 × HT) :=
  Option.bind (fX3_become_h41_h1 P h) fun z1 =>
  some ((hu z1.2 0 2 1) 1 0, hu z1.2 0 2 1)
set_option maxHeartbeats 4000000 in
theorem ctX11_image {g : GP} {a : Nat → Nat} {P : PT} {h : HT} {z : Int32 × HT} (hPo : PoolOK P) (hf : fX11_image P h = some z) : Ct g 3 0 0 mX11_image [.ref (a 0)] (WD g a h P) (PoI g a P z) := by
  refine Ct.of (by decide +kernel) (Nat.le_of_ble_eq_true rfl) fun J hJ => ?_
  show Z g mX11_image J 0 0 0 [some (.ref (a 0))] [] (WD g a h P)
  unfold fX11_image at hf
  refine Z.aload_n (n := 1) dX11_image_0 rfl rfl ?_
  refine Z.getf (n := 4) fX11_18 dX11_image_1 rfl W0 rfl ?_
  refine Z.aload_n (n := 5) dX11_image_4 rfl rfl ?_
  refine Z.getf (n := 8) fX11_12 dX11_image_5 rfl W0 rfl ?_
  obtain ⟨z1, ez1, hf⟩ := Option.bind_eq_some_iff.mp hf
  refine Z.callV (n := 11) vX11_224 (ctX3_become_h41_h1 hPo ez1) hJ.rm (Nat.le_of_ble_eq_true rfl) rfl rfl (Nat.le_refl _) (Nat.le_refl _) rfl W41 rfl rfl (Nat.le_of_ble_eq_true rfl) rfl dX11_image_8 rfl (fun v w hw => ?_)
  obtain ⟨rfl, rfl⟩ := hw
  show Z _ _ _ _ _ _ _ [] _
  refine Z.aload_n (n := 12) dX11_image_11 rfl rfl ?_
  refine Z.iconst (n := 13) (v := 1) dX11_image_12 rfl (by decide +kernel) ?_
  refine Z.putf (n := 16) pX11_21 dX11_image_13 rfl W0 (Nat.le_of_ble_eq_true rfl) rfl rfl W0s_2 ?_
  refine Z.aload_n (n := 17) dX11_image_16 rfl rfl ?_
  refine Z.getf (n := 20) fX11_12 dX11_image_17 rfl W0 rfl ?_
  refine Z.getf (n := 23) fX11_50 dX11_image_20 rfl W1 rfl ?_
  have hz := Option.some.inj hf
  subst hz
  exact Z.iret hJ dX11_image_23 rfl (Nat.le_refl _) (Nat.le_refl _) ⟨rfl, rfl⟩
def fX11_undo (P : PT) (h : HT) : Option (Int32 × HT) :=
  if (h 0 2) = 0 then (some ((-3), h))
  else (Option.bind (fX3_become_h1_h41 P h) fun z2 =>
  some (z2.2 1 0, z2.2))
set_option maxHeartbeats 4000000 in
theorem ctX11_undo {g : GP} {a : Nat → Nat} {P : PT} {h : HT} {z : Int32 × HT} (hPo : PoolOK P) (hf : fX11_undo P h = some z) : Ct g 3 0 0 mX11_undo [.ref (a 0)] (WD g a h P) (PoI g a P z) := by
  refine Ct.of (by decide +kernel) (Nat.le_of_ble_eq_true rfl) fun J hJ => ?_
  show Z g mX11_undo J 0 0 0 [some (.ref (a 0))] [] (WD g a h P)
  unfold fX11_undo at hf
  refine Z.aload_n (n := 1) dX11_undo_0 rfl rfl ?_
  refine Z.getf (n := 4) fX11_21 dX11_undo_1 rfl W0 rfl ?_
  refine Z.if_ne (tgt := 10) (n := 7) dX11_undo_4 rfl rfl (fun c1 => ?_) (fun c1 => ?_)
  · rw [if_neg c1] at hf
    refine Z.aload_n (n := 11) dX11_undo_10 rfl rfl ?_
    refine Z.getf (n := 14) fX11_12 dX11_undo_11 rfl W0 rfl ?_
    refine Z.aload_n (n := 15) dX11_undo_14 rfl rfl ?_
    refine Z.getf (n := 18) fX11_18 dX11_undo_15 rfl W0 rfl ?_
    obtain ⟨z2, ez2, hf⟩ := Option.bind_eq_some_iff.mp hf
    refine Z.callV (n := 21) vX11_224 (ctX3_become_h1_h41 hPo ez2) hJ.rm (Nat.le_of_ble_eq_true rfl) rfl rfl (Nat.le_refl _) (Nat.le_refl _) rfl W1 rfl rfl (Nat.le_of_ble_eq_true rfl) rfl dX11_undo_18 rfl (fun v w hw => ?_)
    obtain ⟨rfl, rfl⟩ := hw
    show Z _ _ _ _ _ _ _ [] _
    refine Z.aload_n (n := 22) dX11_undo_21 rfl rfl ?_
    refine Z.getf (n := 25) fX11_12 dX11_undo_22 rfl W0 rfl ?_
    refine Z.getf (n := 28) fX11_50 dX11_undo_25 rfl W1 rfl ?_
    have hz := Option.some.inj hf
    subst hz
    exact Z.iret hJ dX11_undo_28 rfl (Nat.le_refl _) (Nat.le_refl _) ⟨rfl, rfl⟩
  · rw [if_pos c1] at hf
    refine Z.bipush (n := 9) (v := -3) dX11_undo_7 rfl (by decide +kernel) ?_
    have hz := Option.some.inj hf
    subst hz
    exact Z.iret hJ dX11_undo_9 rfl (Nat.le_refl _) (Nat.le_refl _) ⟨rfl, rfl⟩
def fX11_count (l1 : Int32) (h : HT) : Option (Int32 × HT) :=
  if l1 = 0 then (some (h 1 0, h))
  else if l1 = 1 then (Option.bind (fJ6_bitCount_0f7a4 (h 1 1) h) fun z3 =>
  some (z3.1, z3.2))
  else if l1 = 2 then (some (h 1 2, h))
  else if l1 = 3 then (some (h 1 3, h))
  else if l1 = 4 then (some (h 21 1, h))
  else if l1 = 5 then (some (h 91 0, h))
  else if l1 = 6 then (some (h 1 4, h))
  else (some ((-1), h))
set_option maxHeartbeats 4000000 in
theorem ctX11_count {g : GP} {a : Nat → Nat} {P : PT} {h : HT} {z : Int32 × HT} {l1 : Int32} (hf : fX11_count l1 h = some z) : Ct g 2 0 0 mX11_count [.ref (a 0), .int l1] (WD g a h P) (PoI g a P z) := by
  refine Ct.of (by decide +kernel) (Nat.le_of_ble_eq_true rfl) fun J hJ => ?_
  show Z g mX11_count J 0 0 0 [some (.ref (a 0)), some (.int l1)] [] (WD g a h P)
  unfold fX11_count at hf
  refine Z.iload_n (n := 1) dX11_count_0 rfl rfl ?_
  by_cases c1 : l1 = 0
  · rw [if_pos c1] at hf
    refine Z.tswI (off := 43) (tgt := 44) dX11_count_1 c1 (by decide +kernel) (by decide +kernel) (by decide +kernel) rfl ?_
    refine Z.aload_n (n := 45) dX11_count_44 rfl rfl ?_
    refine Z.getf (n := 48) fX11_12 dX11_count_45 rfl W0 rfl ?_
    refine Z.getf (n := 51) fX11_50 dX11_count_48 rfl W1 rfl ?_
    have hz := Option.some.inj hf
    subst hz
    exact Z.iret hJ dX11_count_51 rfl (Nat.le_refl _) (Nat.le_refl _) ⟨rfl, rfl⟩
  rw [if_neg c1] at hf
  by_cases c2 : l1 = 1
  · rw [if_pos c2] at hf
    refine Z.tswI (off := 51) (tgt := 52) dX11_count_1 c2 (by decide +kernel) (by decide +kernel) (by decide +kernel) rfl ?_
    refine Z.aload_n (n := 53) dX11_count_52 rfl rfl ?_
    refine Z.getf (n := 56) fX11_12 dX11_count_53 rfl W0 rfl ?_
    refine Z.getf (n := 59) fX11_227 dX11_count_56 rfl W1 rfl ?_
    obtain ⟨z3, ez3, hf⟩ := Option.bind_eq_some_iff.mp hf
    refine Z.callS (n := 62) vX11_230 (ctJ6_bitCount_0f7a4 ez3) hJ.rm (Nat.le_of_ble_eq_true rfl) rfl rfl (Nat.le_refl _) (Nat.le_refl _) rfl (Nat.le_of_ble_eq_true rfl) rfl dX11_count_59 rfl (fun v w hw => ?_)
    obtain ⟨rfl, rfl⟩ := hw
    show Z _ _ _ _ _ _ _ [.int z3.1] _
    have hz := Option.some.inj hf
    subst hz
    exact Z.iret hJ dX11_count_62 rfl (Nat.le_refl _) (Nat.le_refl _) ⟨rfl, rfl⟩
  rw [if_neg c2] at hf
  by_cases c4 : l1 = 2
  · rw [if_pos c4] at hf
    refine Z.tswI (off := 62) (tgt := 63) dX11_count_1 c4 (by decide +kernel) (by decide +kernel) (by decide +kernel) rfl ?_
    refine Z.aload_n (n := 64) dX11_count_63 rfl rfl ?_
    refine Z.getf (n := 67) fX11_12 dX11_count_64 rfl W0 rfl ?_
    refine Z.getf (n := 70) fX11_105 dX11_count_67 rfl W1 rfl ?_
    have hz := Option.some.inj hf
    subst hz
    exact Z.iret hJ dX11_count_70 rfl (Nat.le_refl _) (Nat.le_refl _) ⟨rfl, rfl⟩
  rw [if_neg c4] at hf
  by_cases c5 : l1 = 3
  · rw [if_pos c5] at hf
    refine Z.tswI (off := 70) (tgt := 71) dX11_count_1 c5 (by decide +kernel) (by decide +kernel) (by decide +kernel) rfl ?_
    refine Z.aload_n (n := 72) dX11_count_71 rfl rfl ?_
    refine Z.getf (n := 75) fX11_12 dX11_count_72 rfl W0 rfl ?_
    refine Z.getf (n := 78) fX11_115 dX11_count_75 rfl W1 rfl ?_
    have hz := Option.some.inj hf
    subst hz
    exact Z.iret hJ dX11_count_78 rfl (Nat.le_refl _) (Nat.le_refl _) ⟨rfl, rfl⟩
  rw [if_neg c5] at hf
  by_cases c6 : l1 = 4
  · rw [if_pos c6] at hf
    refine Z.tswI (off := 78) (tgt := 79) dX11_count_1 c6 (by decide +kernel) (by decide +kernel) (by decide +kernel) rfl ?_
    refine Z.aload_n (n := 80) dX11_count_79 rfl rfl ?_
    refine Z.getf (n := 83) fX11_12 dX11_count_80 rfl W0 rfl ?_
    refine Z.getf (n := 86) fX11_81 dX11_count_83 rfl W1 rfl ?_
    refine Z.getf (n := 89) fX11_85 dX11_count_86 rfl W21 rfl ?_
    have hz := Option.some.inj hf
    subst hz
    exact Z.iret hJ dX11_count_89 rfl (Nat.le_refl _) (Nat.le_refl _) ⟨rfl, rfl⟩
  rw [if_neg c6] at hf
  by_cases c7 : l1 = 5
  · rw [if_pos c7] at hf
    refine Z.tswI (off := 89) (tgt := 90) dX11_count_1 c7 (by decide +kernel) (by decide +kernel) (by decide +kernel) rfl ?_
    refine Z.aload_n (n := 91) dX11_count_90 rfl rfl ?_
    refine Z.getf (n := 94) fX11_39 dX11_count_91 rfl W0 rfl ?_
    refine Z.iconst (n := 95) (v := 0) dX11_count_94 rfl (by decide +kernel) ?_
    refine Z.iald (j := 0) (n := 96) dX11_count_95 rfl W91 (by decide +kernel) (by decide) (by decide) ?_
    have hz := Option.some.inj hf
    subst hz
    exact Z.iret hJ dX11_count_96 rfl (Nat.le_refl _) (Nat.le_refl _) ⟨rfl, rfl⟩
  rw [if_neg c7] at hf
  by_cases c8 : l1 = 6
  · rw [if_pos c8] at hf
    refine Z.tswI (off := 96) (tgt := 97) dX11_count_1 c8 (by decide +kernel) (by decide +kernel) (by decide +kernel) rfl ?_
    refine Z.aload_n (n := 98) dX11_count_97 rfl rfl ?_
    refine Z.getf (n := 101) fX11_12 dX11_count_98 rfl W0 rfl ?_
    refine Z.getf (n := 104) fX11_235 dX11_count_101 rfl W1 rfl ?_
    have hz := Option.some.inj hf
    subst hz
    exact Z.iret hJ dX11_count_104 rfl (Nat.le_refl _) (Nat.le_refl _) ⟨rfl, rfl⟩
  rw [if_neg c8] at hf
  have tc1 := lv_neT (k := 0) c1 (a := 0) (by decide +kernel)
  have tc2 := lv_neT (k := 1) c2 (a := 1) (by decide +kernel)
  have tc4 := lv_neT (k := 2) c4 (a := 2) (by decide +kernel)
  have tc5 := lv_neT (k := 3) c5 (a := 3) (by decide +kernel)
  have tc6 := lv_neT (k := 4) c6 (a := 4) (by decide +kernel)
  have tc7 := lv_neT (k := 5) c7 (a := 5) (by decide +kernel)
  have tc8 := lv_neT (k := 6) c8 (a := 6) (by decide +kernel)
  refine Z.tswO (tgt := 105) dX11_count_1 (by omega) rfl ?_
  refine Z.iconst (n := 106) (v := -1) dX11_count_105 rfl (by decide +kernel) ?_
  have hz := Option.some.inj hf
  subst hz
  exact Z.iret hJ dX11_count_106 rfl (Nat.le_refl _) (Nat.le_refl _) ⟨rfl, rfl⟩
def fX11_trace_20 (h : HT) : Option (Int32 × HT) :=
  some ((-1), h)
set_option maxHeartbeats 4000000 in
theorem zX11_trace_20 {g : GP} {a : Nat → Nat} {P : PT} {J : JT} {z : Int32 × HT} (hJ : JX g 1 0 0 (PoI g a P z) J) (h : HT) (hf : fX11_trace_20 h = some z) : Z g mX11_trace J 0 0 20 [none, none] [] (WD g a h P) := by
  unfold fX11_trace_20 at hf
  refine Z.iconst (n := 21) (v := -1) dX11_trace_20 rfl (by decide +kernel) ?_
  have hz := Option.some.inj hf
  subst hz
  exact Z.iret hJ dX11_trace_21 rfl (Nat.le_refl _) (Nat.le_refl _) ⟨rfl, rfl⟩
def fX11_trace (l1 : Int32) (h : HT) : Option (Int32 × HT) :=
  if l1 < 0 then (fX11_trace_20 h)
  else (if (h 91 0) ≤ l1 then (fX11_trace_20 h)
  else (if l1 < 20 then (Option.bind (ck 21 (l1 + (1 : Int32))) fun j4 =>
  some (h 91 j4, h))
  else (fX11_trace_20 h)))
set_option maxHeartbeats 4000000 in
theorem ctX11_trace {g : GP} {a : Nat → Nat} {P : PT} {h : HT} {z : Int32 × HT} {l1 : Int32} (hf : fX11_trace l1 h = some z) : Ct g 1 0 0 mX11_trace [.ref (a 0), .int l1] (WD g a h P) (PoI g a P z) := by
  refine Ct.of (by decide +kernel) (Nat.le_of_ble_eq_true rfl) fun J hJ => ?_
  show Z g mX11_trace J 0 0 0 [some (.ref (a 0)), some (.int l1)] [] (WD g a h P)
  unfold fX11_trace at hf
  refine Z.iload_n (n := 1) dX11_trace_0 rfl rfl ?_
  refine Z.if_lt (tgt := 20) (n := 4) dX11_trace_1 rfl rfl (fun c1 => ?_) (fun c1 => ?_)
  · rw [if_pos c1] at hf
    refine Z.fg [0, 1] ?_
    exact zX11_trace_20 hJ _ hf
  · rw [if_neg c1] at hf
    refine Z.iload_n (n := 5) dX11_trace_4 rfl rfl ?_
    refine Z.aload_n (n := 6) dX11_trace_5 rfl rfl ?_
    refine Z.getf (n := 9) fX11_39 dX11_trace_6 rfl W0 rfl ?_
    refine Z.iconst (n := 10) (v := 0) dX11_trace_9 rfl (by decide +kernel) ?_
    refine Z.iald (j := 0) (n := 11) dX11_trace_10 rfl W91 (by decide +kernel) (by decide) (by decide) ?_
    refine Z.icmp_ge (tgt := 20) (n := 14) dX11_trace_11 rfl rfl (fun c2 => ?_) (fun c2 => ?_)
    · rw [if_pos c2] at hf
      refine Z.fg [0, 1] ?_
      exact zX11_trace_20 hJ _ hf
    · rw [if_neg c2] at hf
      refine Z.iload_n (n := 15) dX11_trace_14 rfl rfl ?_
      refine Z.bipush (n := 17) (v := 20) dX11_trace_15 rfl (by decide +kernel) ?_
      refine Z.icmp_lt (tgt := 22) (n := 20) dX11_trace_17 rfl rfl (fun c3 => ?_) (fun c3 => ?_)
      · rw [if_pos c3] at hf
        refine Z.aload_n (n := 23) dX11_trace_22 rfl rfl ?_
        refine Z.getf (n := 26) fX11_39 dX11_trace_23 rfl W0 rfl ?_
        refine Z.iload_n (n := 27) dX11_trace_26 rfl rfl ?_
        refine Z.iconst (n := 28) (v := 1) dX11_trace_27 rfl (by decide +kernel) ?_
        refine Z.iadd (n := 29) dX11_trace_28 rfl ?_
        obtain ⟨j4, ej4, hf⟩ := Option.bind_eq_some_iff.mp hf
        obtain ⟨hij4, hlj4⟩ := ck_spec ej4
        refine Z.iald (j := j4) (n := 30) dX11_trace_29 rfl W91 hij4 hlj4 (by decide) ?_
        have hz := Option.some.inj hf
        subst hz
        exact Z.iret hJ dX11_trace_30 rfl (Nat.le_refl _) (Nat.le_refl _) ⟨rfl, rfl⟩
      · rw [if_neg c3] at hf
        refine Z.fg [0, 1] ?_
        exact zX11_trace_20 hJ _ hf
def fX11_force (l1 : Int32) (l2 : Int32) (h : HT) : Option (Int32 × HT) :=
  Option.bind (fX3_has l1 h) fun z1 =>
  if z1.1 = 0 then (some ((-1), z1.2))
  else (Option.bind (fX11_outside l2 40 z1.2) fun z3 =>
  if z3.1 = 0 then (Option.bind (fX3_forceAt l1 l2 z3.2) fun z5 =>
  some (z5.1, z5.2))
  else (some ((-2), z3.2)))
set_option maxHeartbeats 4000000 in
theorem ctX11_force {g : GP} {a : Nat → Nat} {P : PT} {h : HT} {z : Int32 × HT} {l1 : Int32} {l2 : Int32} (hf : fX11_force l1 l2 h = some z) : Ct g 2 0 0 mX11_force [.ref (a 0), .int l1, .int l2] (WD g a h P) (PoI g a P z) := by
  refine Ct.of (by decide +kernel) (Nat.le_of_ble_eq_true rfl) fun J hJ => ?_
  show Z g mX11_force J 0 0 0 [some (.ref (a 0)), some (.int l1), some (.int l2)] [] (WD g a h P)
  unfold fX11_force at hf
  refine Z.aload_n (n := 1) dX11_force_0 rfl rfl ?_
  refine Z.getf (n := 4) fX11_12 dX11_force_1 rfl W0 rfl ?_
  refine Z.iload_n (n := 5) dX11_force_4 rfl rfl ?_
  obtain ⟨z1, ez1, hf⟩ := Option.bind_eq_some_iff.mp hf
  refine Z.callV (n := 8) vX11_58 (ctX3_has ez1) hJ.rm (Nat.le_of_ble_eq_true rfl) rfl rfl (Nat.le_refl _) (Nat.le_refl _) rfl W1 rfl rfl (Nat.le_of_ble_eq_true rfl) rfl dX11_force_5 rfl (fun v w hw => ?_)
  obtain ⟨rfl, rfl⟩ := hw
  show Z _ _ _ _ _ _ _ [.int z1.1] _
  refine Z.if_ne (tgt := 13) (n := 11) dX11_force_8 rfl rfl (fun c2 => ?_) (fun c2 => ?_)
  · rw [if_neg c2] at hf
    refine Z.iload_n (n := 14) dX11_force_13 rfl rfl ?_
    refine Z.bipush (n := 16) (v := 40) dX11_force_14 rfl (by decide +kernel) ?_
    obtain ⟨z3, ez3, hf⟩ := Option.bind_eq_some_iff.mp hf
    refine Z.callS (n := 19) vX11_46 (ctX11_outside ez3) hJ.rm (Nat.le_of_ble_eq_true rfl) rfl rfl (Nat.le_refl _) (Nat.le_refl _) rfl (Nat.le_of_ble_eq_true rfl) rfl dX11_force_16 rfl (fun v w hw => ?_)
    obtain ⟨rfl, rfl⟩ := hw
    show Z _ _ _ _ _ _ _ [.int z3.1] _
    refine Z.if_eq (tgt := 25) (n := 22) dX11_force_19 rfl rfl (fun c4 => ?_) (fun c4 => ?_)
    · rw [if_pos c4] at hf
      refine Z.aload_n (n := 26) dX11_force_25 rfl rfl ?_
      refine Z.getf (n := 29) fX11_12 dX11_force_26 rfl W0 rfl ?_
      refine Z.iload_n (n := 30) dX11_force_29 rfl rfl ?_
      refine Z.iload_n (n := 31) dX11_force_30 rfl rfl ?_
      obtain ⟨z5, ez5, hf⟩ := Option.bind_eq_some_iff.mp hf
      refine Z.callV (n := 34) vX11_112 (ctX3_forceAt ez5) hJ.rm (Nat.le_of_ble_eq_true rfl) rfl rfl (Nat.le_refl _) (Nat.le_refl _) rfl W1 rfl rfl (Nat.le_of_ble_eq_true rfl) rfl dX11_force_31 rfl (fun v w hw => ?_)
      obtain ⟨rfl, rfl⟩ := hw
      show Z _ _ _ _ _ _ _ [.int z5.1] _
      have hz := Option.some.inj hf
      subst hz
      exact Z.iret hJ dX11_force_34 rfl (Nat.le_refl _) (Nat.le_refl _) ⟨rfl, rfl⟩
    · rw [if_neg c4] at hf
      refine Z.bipush (n := 24) (v := -2) dX11_force_22 rfl (by decide +kernel) ?_
      have hz := Option.some.inj hf
      subst hz
      exact Z.iret hJ dX11_force_24 rfl (Nat.le_refl _) (Nat.le_refl _) ⟨rfl, rfl⟩
  · rw [if_pos c2] at hf
    refine Z.iconst (n := 12) (v := -1) dX11_force_11 rfl (by decide +kernel) ?_
    have hz := Option.some.inj hf
    subst hz
    exact Z.iret hJ dX11_force_12 rfl (Nat.le_refl _) (Nat.le_refl _) ⟨rfl, rfl⟩
def fX11_cost_22 (h : HT) : Option (Int32 × HT) :=
  some ((-1), h)
set_option maxHeartbeats 4000000 in
theorem zX11_cost_22 {g : GP} {a : Nat → Nat} {P : PT} {J : JT} {z : Int32 × HT} (hJ : JX g 2 0 0 (PoI g a P z) J) (h : HT) (hf : fX11_cost_22 h = some z) : Z g mX11_cost J 0 0 22 [none, none, none] [] (WD g a h P) := by
  unfold fX11_cost_22 at hf
  refine Z.iconst (n := 23) (v := -1) dX11_cost_22 rfl (by decide +kernel) ?_
  have hz := Option.some.inj hf
  subst hz
  exact Z.iret hJ dX11_cost_23 rfl (Nat.le_refl _) (Nat.le_refl _) ⟨rfl, rfl⟩
def fX11_cost (l1 : Int32) (l2 : Int32) (h : HT) : Option (Int32 × HT) :=
  Option.bind (fX3_has l1 h) fun z1 =>
  if z1.1 = 0 then (fX11_cost_22 z1.2)
  else (Option.bind (fX3_has l2 z1.2) fun z3 =>
  if z3.1 = 0 then (fX11_cost_22 z3.2)
  else (if l1 = l2 then (some ((-2), z3.2))
  else (Option.bind (fX10_costOf l1 l2 z3.2) fun z6 =>
  some (z6.1, z6.2))))
set_option maxHeartbeats 4000000 in
theorem ctX11_cost {g : GP} {a : Nat → Nat} {P : PT} {h : HT} {z : Int32 × HT} {l1 : Int32} {l2 : Int32} (hf : fX11_cost l1 l2 h = some z) : Ct g 2 0 0 mX11_cost [.ref (a 0), .int l1, .int l2] (WD g a h P) (PoI g a P z) := by
  refine Ct.of (by decide +kernel) (Nat.le_of_ble_eq_true rfl) fun J hJ => ?_
  show Z g mX11_cost J 0 0 0 [some (.ref (a 0)), some (.int l1), some (.int l2)] [] (WD g a h P)
  unfold fX11_cost at hf
  refine Z.aload_n (n := 1) dX11_cost_0 rfl rfl ?_
  refine Z.getf (n := 4) fX11_12 dX11_cost_1 rfl W0 rfl ?_
  refine Z.iload_n (n := 5) dX11_cost_4 rfl rfl ?_
  obtain ⟨z1, ez1, hf⟩ := Option.bind_eq_some_iff.mp hf
  refine Z.callV (n := 8) vX11_58 (ctX3_has ez1) hJ.rm (Nat.le_of_ble_eq_true rfl) rfl rfl (Nat.le_refl _) (Nat.le_refl _) rfl W1 rfl rfl (Nat.le_of_ble_eq_true rfl) rfl dX11_cost_5 rfl (fun v w hw => ?_)
  obtain ⟨rfl, rfl⟩ := hw
  show Z _ _ _ _ _ _ _ [.int z1.1] _
  refine Z.if_eq (tgt := 22) (n := 11) dX11_cost_8 rfl rfl (fun c2 => ?_) (fun c2 => ?_)
  · rw [if_pos c2] at hf
    refine Z.fg [0, 1, 2] ?_
    exact zX11_cost_22 hJ _ hf
  · rw [if_neg c2] at hf
    refine Z.aload_n (n := 12) dX11_cost_11 rfl rfl ?_
    refine Z.getf (n := 15) fX11_12 dX11_cost_12 rfl W0 rfl ?_
    refine Z.iload_n (n := 16) dX11_cost_15 rfl rfl ?_
    obtain ⟨z3, ez3, hf⟩ := Option.bind_eq_some_iff.mp hf
    refine Z.callV (n := 19) vX11_58 (ctX3_has ez3) hJ.rm (Nat.le_of_ble_eq_true rfl) rfl rfl (Nat.le_refl _) (Nat.le_refl _) rfl W1 rfl rfl (Nat.le_of_ble_eq_true rfl) rfl dX11_cost_16 rfl (fun v w hw => ?_)
    obtain ⟨rfl, rfl⟩ := hw
    show Z _ _ _ _ _ _ _ [.int z3.1] _
    refine Z.if_ne (tgt := 24) (n := 22) dX11_cost_19 rfl rfl (fun c4 => ?_) (fun c4 => ?_)
    · rw [if_neg c4] at hf
      refine Z.iload_n (n := 25) dX11_cost_24 rfl rfl ?_
      refine Z.iload_n (n := 26) dX11_cost_25 rfl rfl ?_
      refine Z.icmp_ne (tgt := 32) (n := 29) dX11_cost_26 rfl rfl (fun c5 => ?_) (fun c5 => ?_)
      · rw [if_neg c5] at hf
        refine Z.aload_n (n := 33) dX11_cost_32 rfl rfl ?_
        refine Z.getf (n := 36) fX11_12 dX11_cost_33 rfl W0 rfl ?_
        refine Z.getf (n := 39) fX11_98 dX11_cost_36 rfl W1 rfl ?_
        refine Z.aload_n (n := 40) dX11_cost_39 rfl rfl ?_
        refine Z.getf (n := 43) fX11_12 dX11_cost_40 rfl W0 rfl ?_
        refine Z.iload_n (n := 44) dX11_cost_43 rfl rfl ?_
        refine Z.iload_n (n := 45) dX11_cost_44 rfl rfl ?_
        obtain ⟨z6, ez6, hf⟩ := Option.bind_eq_some_iff.mp hf
        refine Z.callV (n := 48) vX11_108 (ctX10_costOf ez6) hJ.rm (Nat.le_of_ble_eq_true rfl) rfl rfl (Nat.le_refl _) (Nat.le_refl _) rfl W23 rfl rfl (Nat.le_of_ble_eq_true rfl) rfl dX11_cost_45 rfl (fun v w hw => ?_)
        obtain ⟨rfl, rfl⟩ := hw
        show Z _ _ _ _ _ _ _ [.int z6.1] _
        have hz := Option.some.inj hf
        subst hz
        exact Z.iret hJ dX11_cost_48 rfl (Nat.le_refl _) (Nat.le_refl _) ⟨rfl, rfl⟩
      · rw [if_pos c5] at hf
        refine Z.bipush (n := 31) (v := -2) dX11_cost_29 rfl (by decide +kernel) ?_
        have hz := Option.some.inj hf
        subst hz
        exact Z.iret hJ dX11_cost_31 rfl (Nat.le_refl _) (Nat.le_refl _) ⟨rfl, rfl⟩
    · rw [if_pos c4] at hf
      refine Z.fg [0, 1, 2] ?_
      exact zX11_cost_22 hJ _ hf
