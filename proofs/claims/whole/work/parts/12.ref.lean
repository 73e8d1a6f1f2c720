/-! walks, by program: 12.ref.lean.txt -/
def fX12_in_15 (s0 : Int32) (h : HT) : Option (Int32 × HT) :=
  Option.bind (cb s0) fun u2 =>
  some (s0, h)
set_option maxHeartbeats 4000000 in
theorem zX12_in_15 {g : GP} {a : Nat → Nat} {P : PT} {J : JT} {z : Int32 × HT} (hJ : JX g 1 0 0 (PoI g a P z) J) (s0 : Int32) (h : HT) (hf : fX12_in_15 s0 h = some z) : Z g mX12_in J 0 0 15 [none, none, none] [.int s0] (WD g a h P) := by
  unfold fX12_in_15 at hf
  obtain ⟨u2, eu2, hf⟩ := Option.bind_eq_some_iff.mp hf
  have hz := Option.some.inj hf
  subst hz
  exact Z.zret hJ dX12_in_15 rfl (cb_nar eu2) (Nat.le_refl _) (Nat.le_refl _) ⟨rfl, rfl⟩
def fX12_in_14 (h : HT) : Option (Int32 × HT) :=
  fX12_in_15 0 h
set_option maxHeartbeats 4000000 in
theorem zX12_in_14 {g : GP} {a : Nat → Nat} {P : PT} {J : JT} {z : Int32 × HT} (hJ : JX g 1 0 0 (PoI g a P z) J) (h : HT) (hf : fX12_in_14 h = some z) : Z g mX12_in J 0 0 14 [none, none, none] [] (WD g a h P) := by
  unfold fX12_in_14 at hf
  refine Z.iconst (n := 15) (v := 0) dX12_in_14 rfl (by decide +kernel) ?_
  exact zX12_in_15 hJ _ _ hf
def fX12_in (l0 : Int32) (l1 : Int32) (l2 : Int32) (h : HT) : Option (Int32 × HT) :=
  if l0 < l1 then (fX12_in_14 h)
  else (if l2 < l0 then (fX12_in_14 h)
  else (fX12_in_15 1 h))
set_option maxHeartbeats 4000000 in
theorem ctX12_in {g : GP} {a : Nat → Nat} {P : PT} {h : HT} {z : Int32 × HT} {l0 : Int32} {l1 : Int32} {l2 : Int32} (hf : fX12_in l0 l1 l2 h = some z) : Ct g 1 0 0 mX12_in [.int l0, .int l1, .int l2] (WD g a h P) (PoI g a P z) := by
  refine Ct.of (by decide +kernel) (Nat.le_of_ble_eq_true rfl) fun J hJ => ?_
  show Z g mX12_in J 0 0 0 [some (.int l0), some (.int l1), some (.int l2)] [] (WD g a h P)
  unfold fX12_in at hf
  refine Z.iload_n (n := 1) dX12_in_0 rfl rfl ?_
  refine Z.iload_n (n := 2) dX12_in_1 rfl rfl ?_
  refine Z.icmp_lt (tgt := 14) (n := 5) dX12_in_2 rfl rfl (fun c1 => ?_) (fun c1 => ?_)
  · rw [if_pos c1] at hf
    refine Z.fg [0, 1, 2] ?_
    exact zX12_in_14 hJ _ hf
  · rw [if_neg c1] at hf
    refine Z.iload_n (n := 6) dX12_in_5 rfl rfl ?_
    refine Z.iload_n (n := 7) dX12_in_6 rfl rfl ?_
    refine Z.icmp_gt (tgt := 14) (n := 10) dX12_in_7 rfl rfl (fun c3 => ?_) (fun c3 => ?_)
    · rw [if_pos c3] at hf
      refine Z.fg [0, 1, 2] ?_
      exact zX12_in_14 hJ _ hf
    · rw [if_neg c3] at hf
      refine Z.iconst (n := 11) (v := 1) dX12_in_10 rfl (by decide +kernel) ?_
      refine Z.goto (tgt := 15) dX12_in_11 rfl ?_
      refine Z.fg [0, 1, 2] ?_
      exact zX12_in_15 hJ _ _ hf
def fX12_king_20 (h : HT) : Option (Int32 × HT) :=
  some ((-2), h)
set_option maxHeartbeats 4000000 in
theorem zX12_king_20 {g : GP} {a : Nat → Nat} {P : PT} {J : JT} {z : Int32 × HT} (hJ : JX g 2 0 0 (PoI g a P z) J) (h : HT) (hf : fX12_king_20 h = some z) : Z g mX12_king J 0 0 20 [none, none, none, none, none] [] (WD g a h P) := by
  unfold fX12_king_20 at hf
  refine Z.bipush (n := 22) (v := -2) dX12_king_20 rfl (by decide +kernel) ?_
  have hz := Option.some.inj hf
  subst hz
  exact Z.iret hJ dX12_king_22 rfl (Nat.le_refl _) (Nat.le_refl _) ⟨rfl, rfl⟩
def fX12_king_91 : Nat → Int32 → Int32 → HT → Option (Int32 × HT)
  | 0, _, _, _ => none
  | n + 1, l3, l4, h =>
  if 7 ≤ l4 then (some (l3, hu h 94 0 ((h 94 0) + (1 : Int32))))
  else (Option.bind (ck 490 (((310 : Int32) + ((7 : Int32) * l3)) + l4)) fun j11 =>
  Option.bind (ck 490 (((360 : Int32) + ((7 : Int32) * l3)) + l4)) fun j12 =>
  fX12_king_91  n l3 (l4 + 1) (hu (hu h 94 j11 10) 94 j12 0))
set_option maxHeartbeats 4000000 in
theorem zX12_king_91 {g : GP} {a : Nat → Nat} {P : PT} {J : JT} {z : Int32 × HT} (hJ : JX g 2 0 0 (PoI g a P z) J) : ∀ (n : Nat) (l3 : Int32) (l4 : Int32) (h : HT), fX12_king_91 n l3 l4 h = some z → Z g mX12_king J 0 0 91 [some (.ref (a 93)), none, none, some (.int l3), some (.int l4)] [] (WD g a h P) := by
  intro n
  induction n with
  | zero =>
    intro _ _ _ hf
    cases hf
  | succ n ih =>
    intro l3 l4 h hf
    unfold fX12_king_91 at hf
    refine Z.iload (n := 93) dX12_king_91 rfl rfl ?_
    refine Z.bipush (n := 95) (v := 7) dX12_king_93 rfl (by decide +kernel) ?_
    refine Z.icmp_ge (tgt := 139) (n := 98) dX12_king_95 rfl rfl (fun c10 => ?_) (fun c10 => ?_)
    · rw [if_pos c10] at hf
      refine Z.aload_n (n := 140) dX12_king_139 rfl rfl ?_
      refine Z.getf (n := 143) fX12_9 dX12_king_140 rfl W93 rfl ?_
      refine Z.iconst (n := 144) (v := 0) dX12_king_143 rfl (by decide +kernel) ?_
      refine Z.dup2 (n := 145) dX12_king_144 rfl rfl rfl ?_
      refine Z.iald (j := 0) (n := 146) dX12_king_145 rfl W94 (by decide +kernel) (by decide) (by decide) ?_
      refine Z.iconst (n := 147) (v := 1) dX12_king_146 rfl (by decide +kernel) ?_
      refine Z.iadd (n := 148) dX12_king_147 rfl ?_
      refine Z.iast (j := 0) (n := 149) dX12_king_148 rfl W94 (by decide +kernel) (by decide) (by decide) W94s ?_
      refine Z.iload_n (n := 150) dX12_king_149 rfl rfl ?_
      have hz := Option.some.inj hf
      subst hz
      exact Z.iret hJ dX12_king_150 rfl (Nat.le_refl _) (Nat.le_refl _) ⟨rfl, rfl⟩
    · rw [if_neg c10] at hf
      refine Z.aload_n (n := 99) dX12_king_98 rfl rfl ?_
      refine Z.getf (n := 102) fX12_9 dX12_king_99 rfl W93 rfl ?_
      refine Z.sipush (n := 105) (v := 310) dX12_king_102 rfl (by decide +kernel) ?_
      refine Z.bipush (n := 107) (v := 7) dX12_king_105 rfl (by decide +kernel) ?_
      refine Z.iload_n (n := 108) dX12_king_107 rfl rfl ?_
      refine Z.imul (n := 109) dX12_king_108 rfl ?_
      refine Z.iadd (n := 110) dX12_king_109 rfl ?_
      refine Z.iload (n := 112) dX12_king_110 rfl rfl ?_
      refine Z.iadd (n := 113) dX12_king_112 rfl ?_
      refine Z.bipush (n := 115) (v := 10) dX12_king_113 rfl (by decide +kernel) ?_
      obtain ⟨j11, ej11, hf⟩ := Option.bind_eq_some_iff.mp hf
      obtain ⟨hij11, hlj11⟩ := ck_spec ej11
      refine Z.iast (j := j11) (n := 116) dX12_king_115 rfl W94 hij11 hlj11 (by decide) W94s ?_
      refine Z.aload_n (n := 117) dX12_king_116 rfl rfl ?_
      refine Z.getf (n := 120) fX12_9 dX12_king_117 rfl W93 rfl ?_
      refine Z.sipush (n := 123) (v := 360) dX12_king_120 rfl (by decide +kernel) ?_
      refine Z.bipush (n := 125) (v := 7) dX12_king_123 rfl (by decide +kernel) ?_
      refine Z.iload_n (n := 126) dX12_king_125 rfl rfl ?_
      refine Z.imul (n := 127) dX12_king_126 rfl ?_
      refine Z.iadd (n := 128) dX12_king_127 rfl ?_
      refine Z.iload (n := 130) dX12_king_128 rfl rfl ?_
      refine Z.iadd (n := 131) dX12_king_130 rfl ?_
      refine Z.iconst (n := 132) (v := 0) dX12_king_131 rfl (by decide +kernel) ?_
      obtain ⟨j12, ej12, hf⟩ := Option.bind_eq_some_iff.mp hf
      obtain ⟨hij12, hlj12⟩ := ck_spec ej12
      refine Z.iast (j := j12) (n := 133) dX12_king_132 rfl W94 hij12 hlj12 (by decide) W94s ?_
      refine Z.iinc (n := 136) (v := l4 + 1) dX12_king_133 rfl rfl rfl (by decide) rfl ?_
      refine Z.goto (tgt := 91) dX12_king_136 rfl ?_
      exact ih _ _ _ hf
def fX12_king (l1 : Int32) (l2 : Int32) (h : HT) : Option (Int32 × HT) :=
  Option.bind (fX12_in l1 0 99 h) fun z1 =>
  if z1.1 = 0 then (fX12_king_20 z1.2)
  else (Option.bind (fX12_in l2 0 40 z1.2) fun z3 =>
  if z3.1 = 0 then (fX12_king_20 z3.2)
  else (if (z3.2 94 0) = 7 then (some ((-4), z3.2))
  else (Option.bind (ck 490 ((270 : Int32) + (z3.2 94 0))) fun j6 =>
  Option.bind (ck 490 ((280 : Int32) + (z3.2 94 0))) fun j7 =>
  Option.bind (ck 490 ((290 : Int32) + (z3.2 94 0))) fun j8 =>
  Option.bind (ck 490 ((300 : Int32) + (z3.2 94 0))) fun j9 =>
  fX12_king_91 1000 (z3.2 94 0) 0 (hu (hu (hu (hu z3.2 94 j6 l1) 94 j7 l2) 94 j8 0) 94 j9 (z3.2 94 0)))))
set_option maxHeartbeats 4000000 in
theorem ctX12_king {g : GP} {a : Nat → Nat} {P : PT} {h : HT} {z : Int32 × HT} {l1 : Int32} {l2 : Int32} (hf : fX12_king l1 l2 h = some z) : Ct g 2 0 0 mX12_king [.ref (a 93), .int l1, .int l2] (WD g a h P) (PoI g a P z) := by
  refine Ct.of (by decide +kernel) (Nat.le_of_ble_eq_true rfl) fun J hJ => ?_
  show Z g mX12_king J 0 0 0 [some (.ref (a 93)), some (.int l1), some (.int l2), none, none] [] (WD g a h P)
  unfold fX12_king at hf
  refine Z.iload_n (n := 1) dX12_king_0 rfl rfl ?_
  refine Z.iconst (n := 2) (v := 0) dX12_king_1 rfl (by decide +kernel) ?_
  refine Z.bipush (n := 4) (v := 99) dX12_king_2 rfl (by decide +kernel) ?_
  obtain ⟨z1, ez1, hf⟩ := Option.bind_eq_some_iff.mp hf
  refine Z.callS (n := 7) vX12_41 (ctX12_in ez1) hJ.rm (Nat.le_of_ble_eq_true rfl) rfl rfl (Nat.le_refl _) (Nat.le_refl _) rfl (Nat.le_of_ble_eq_true rfl) rfl dX12_king_4 rfl (fun v w hw => ?_)
  obtain ⟨rfl, rfl⟩ := hw
  show Z _ _ _ _ _ _ _ [.int z1.1] _
  refine Z.if_eq (tgt := 20) (n := 10) dX12_king_7 rfl rfl (fun c2 => ?_) (fun c2 => ?_)
  · rw [if_pos c2] at hf
    refine Z.fg [0, 1, 2] ?_
    exact zX12_king_20 hJ _ hf
  · rw [if_neg c2] at hf
    refine Z.iload_n (n := 11) dX12_king_10 rfl rfl ?_
    refine Z.iconst (n := 12) (v := 0) dX12_king_11 rfl (by decide +kernel) ?_
    refine Z.bipush (n := 14) (v := 40) dX12_king_12 rfl (by decide +kernel) ?_
    obtain ⟨z3, ez3, hf⟩ := Option.bind_eq_some_iff.mp hf
    refine Z.callS (n := 17) vX12_41 (ctX12_in ez3) hJ.rm (Nat.le_of_ble_eq_true rfl) rfl rfl (Nat.le_refl _) (Nat.le_refl _) rfl (Nat.le_of_ble_eq_true rfl) rfl dX12_king_14 rfl (fun v w hw => ?_)
    obtain ⟨rfl, rfl⟩ := hw
    show Z _ _ _ _ _ _ _ [.int z3.1] _
    refine Z.if_ne (tgt := 23) (n := 20) dX12_king_17 rfl rfl (fun c4 => ?_) (fun c4 => ?_)
    · rw [if_neg c4] at hf
      refine Z.aload_n (n := 24) dX12_king_23 rfl rfl ?_
      refine Z.getf (n := 27) fX12_9 dX12_king_24 rfl W93 rfl ?_
      refine Z.iconst (n := 28) (v := 0) dX12_king_27 rfl (by decide +kernel) ?_
      refine Z.iald (j := 0) (n := 29) dX12_king_28 rfl W94 (by decide +kernel) (by decide) (by decide) ?_
      refine Z.bipush (n := 31) (v := 7) dX12_king_29 rfl (by decide +kernel) ?_
      refine Z.icmp_ne (tgt := 37) (n := 34) dX12_king_31 rfl rfl (fun c5 => ?_) (fun c5 => ?_)
      · rw [if_neg c5] at hf
        refine Z.aload_n (n := 38) dX12_king_37 rfl rfl ?_
        refine Z.getf (n := 41) fX12_9 dX12_king_38 rfl W93 rfl ?_
        refine Z.iconst (n := 42) (v := 0) dX12_king_41 rfl (by decide +kernel) ?_
        refine Z.iald (j := 0) (n := 43) dX12_king_42 rfl W94 (by decide +kernel) (by decide) (by decide) ?_
        refine Z.istore_n (n := 44) dX12_king_43 rfl (by decide) rfl ?_
        refine Z.aload_n (n := 45) dX12_king_44 rfl rfl ?_
        refine Z.getf (n := 48) fX12_9 dX12_king_45 rfl W93 rfl ?_
        refine Z.sipush (n := 51) (v := 270) dX12_king_48 rfl (by decide +kernel) ?_
        refine Z.iload_n (n := 52) dX12_king_51 rfl rfl ?_
        refine Z.iadd (n := 53) dX12_king_52 rfl ?_
        refine Z.iload_n (n := 54) dX12_king_53 rfl rfl ?_
        obtain ⟨j6, ej6, hf⟩ := Option.bind_eq_some_iff.mp hf
        obtain ⟨hij6, hlj6⟩ := ck_spec ej6
        refine Z.iast (j := j6) (n := 55) dX12_king_54 rfl W94 hij6 hlj6 (by decide) W94s ?_
        refine Z.aload_n (n := 56) dX12_king_55 rfl rfl ?_
        refine Z.getf (n := 59) fX12_9 dX12_king_56 rfl W93 rfl ?_
        refine Z.sipush (n := 62) (v := 280) dX12_king_59 rfl (by decide +kernel) ?_
        refine Z.iload_n (n := 63) dX12_king_62 rfl rfl ?_
        refine Z.iadd (n := 64) dX12_king_63 rfl ?_
        refine Z.iload_n (n := 65) dX12_king_64 rfl rfl ?_
        obtain ⟨j7, ej7, hf⟩ := Option.bind_eq_some_iff.mp hf
        obtain ⟨hij7, hlj7⟩ := ck_spec ej7
        refine Z.iast (j := j7) (n := 66) dX12_king_65 rfl W94 hij7 hlj7 (by decide) W94s ?_
        refine Z.aload_n (n := 67) dX12_king_66 rfl rfl ?_
        refine Z.getf (n := 70) fX12_9 dX12_king_67 rfl W93 rfl ?_
        refine Z.sipush (n := 73) (v := 290) dX12_king_70 rfl (by decide +kernel) ?_
        refine Z.iload_n (n := 74) dX12_king_73 rfl rfl ?_
        refine Z.iadd (n := 75) dX12_king_74 rfl ?_
        refine Z.iconst (n := 76) (v := 0) dX12_king_75 rfl (by decide +kernel) ?_
        obtain ⟨j8, ej8, hf⟩ := Option.bind_eq_some_iff.mp hf
        obtain ⟨hij8, hlj8⟩ := ck_spec ej8
        refine Z.iast (j := j8) (n := 77) dX12_king_76 rfl W94 hij8 hlj8 (by decide) W94s ?_
        refine Z.aload_n (n := 78) dX12_king_77 rfl rfl ?_
        refine Z.getf (n := 81) fX12_9 dX12_king_78 rfl W93 rfl ?_
        refine Z.sipush (n := 84) (v := 300) dX12_king_81 rfl (by decide +kernel) ?_
        refine Z.iload_n (n := 85) dX12_king_84 rfl rfl ?_
        refine Z.iadd (n := 86) dX12_king_85 rfl ?_
        refine Z.iload_n (n := 87) dX12_king_86 rfl rfl ?_
        obtain ⟨j9, ej9, hf⟩ := Option.bind_eq_some_iff.mp hf
        obtain ⟨hij9, hlj9⟩ := ck_spec ej9
        refine Z.iast (j := j9) (n := 88) dX12_king_87 rfl W94 hij9 hlj9 (by decide) W94s ?_
        refine Z.iconst (n := 89) (v := 0) dX12_king_88 rfl (by decide +kernel) ?_
        refine Z.istore (n := 91) dX12_king_89 rfl (by decide) rfl ?_
        refine Z.fg [1, 2] ?_
        exact zX12_king_91 hJ _ _ _ _ hf
      · rw [if_pos c5] at hf
        refine Z.bipush (n := 36) (v := -4) dX12_king_34 rfl (by decide +kernel) ?_
        have hz := Option.some.inj hf
        subst hz
        exact Z.iret hJ dX12_king_36 rfl (Nat.le_refl _) (Nat.le_refl _) ⟨rfl, rfl⟩
    · rw [if_pos c4] at hf
      refine Z.fg [0, 1, 2] ?_
      exact zX12_king_20 hJ _ hf
def fX12_isKing (l1 : Int32) (h : HT) : Option (Int32 × HT) :=
  Option.bind (fX12_in l1 0 ((h 94 0) - (1 : Int32)) h) fun z1 =>
  Option.bind (cb z1.1) fun u2 =>
  some (z1.1, z1.2)
set_option maxHeartbeats 4000000 in
theorem ctX12_isKing {g : GP} {a : Nat → Nat} {P : PT} {h : HT} {z : Int32 × HT} {l1 : Int32} (hf : fX12_isKing l1 h = some z) : Ct g 2 0 0 mX12_isKing [.ref (a 93), .int l1] (WD g a h P) (PoI g a P z) := by
  refine Ct.of (by decide +kernel) (Nat.le_of_ble_eq_true rfl) fun J hJ => ?_
  show Z g mX12_isKing J 0 0 0 [some (.ref (a 93)), some (.int l1)] [] (WD g a h P)
  unfold fX12_isKing at hf
  refine Z.iload_n (n := 1) dX12_isKing_0 rfl rfl ?_
  refine Z.iconst (n := 2) (v := 0) dX12_isKing_1 rfl (by decide +kernel) ?_
  refine Z.aload_n (n := 3) dX12_isKing_2 rfl rfl ?_
  refine Z.getf (n := 6) fX12_9 dX12_isKing_3 rfl W93 rfl ?_
  refine Z.iconst (n := 7) (v := 0) dX12_isKing_6 rfl (by decide +kernel) ?_
  refine Z.iald (j := 0) (n := 8) dX12_isKing_7 rfl W94 (by decide +kernel) (by decide) (by decide) ?_
  refine Z.iconst (n := 9) (v := 1) dX12_isKing_8 rfl (by decide +kernel) ?_
  refine Z.isub (n := 10) dX12_isKing_9 rfl ?_
  obtain ⟨z1, ez1, hf⟩ := Option.bind_eq_some_iff.mp hf
  refine Z.callS (n := 13) vX12_41 (ctX12_in ez1) hJ.rm (Nat.le_of_ble_eq_true rfl) rfl rfl (Nat.le_refl _) (Nat.le_refl _) rfl (Nat.le_of_ble_eq_true rfl) rfl dX12_isKing_10 rfl (fun v w hw => ?_)
  obtain ⟨rfl, rfl⟩ := hw
  show Z _ _ _ _ _ _ _ [.int z1.1] _
  obtain ⟨u2, eu2, hf⟩ := Option.bind_eq_some_iff.mp hf
  have hz := Option.some.inj hf
  subst hz
  exact Z.zret hJ dX12_isKing_13 rfl (cb_nar eu2) (Nat.le_refl _) (Nat.le_refl _) ⟨rfl, rfl⟩
def fX12_of (l1 : Int32) (l2 : Int32) (h : HT) : Option (Int32 × HT) :=
  Option.bind (fX12_isKing l1 h) fun z1 =>
  if z1.1 = 0 then (some ((-1), z1.2))
  else (if l2 = 0 then (Option.bind (ck 490 ((270 : Int32) + l1)) fun j4 =>
  some (z1.2 94 j4, z1.2))
  else if l2 = 1 then (Option.bind (ck 490 ((280 : Int32) + l1)) fun j6 =>
  some (z1.2 94 j6, z1.2))
  else if l2 = 2 then (Option.bind (ck 490 ((290 : Int32) + l1)) fun j8 =>
  some (z1.2 94 j8, z1.2))
  else if l2 = 3 then (Option.bind (ck 490 ((300 : Int32) + l1)) fun j10 =>
  some (z1.2 94 j10, z1.2))
  else (some ((-1), z1.2)))
set_option maxHeartbeats 4000000 in
theorem ctX12_of {g : GP} {a : Nat → Nat} {P : PT} {h : HT} {z : Int32 × HT} {l1 : Int32} {l2 : Int32} (hf : fX12_of l1 l2 h = some z) : Ct g 3 0 0 mX12_of [.ref (a 93), .int l1, .int l2] (WD g a h P) (PoI g a P z) := by
  refine Ct.of (by decide +kernel) (Nat.le_of_ble_eq_true rfl) fun J hJ => ?_
  show Z g mX12_of J 0 0 0 [some (.ref (a 93)), some (.int l1), some (.int l2)] [] (WD g a h P)
  unfold fX12_of at hf
  refine Z.aload_n (n := 1) dX12_of_0 rfl rfl ?_
  refine Z.iload_n (n := 2) dX12_of_1 rfl rfl ?_
  obtain ⟨z1, ez1, hf⟩ := Option.bind_eq_some_iff.mp hf
  refine Z.callV (n := 5) vX12_45 (ctX12_isKing ez1) hJ.rm (Nat.le_of_ble_eq_true rfl) rfl rfl (Nat.le_refl _) (Nat.le_refl _) rfl W93 rfl rfl (Nat.le_of_ble_eq_true rfl) rfl dX12_of_2 rfl (fun v w hw => ?_)
  obtain ⟨rfl, rfl⟩ := hw
  show Z _ _ _ _ _ _ _ [.int z1.1] _
  refine Z.if_ne (tgt := 10) (n := 8) dX12_of_5 rfl rfl (fun c2 => ?_) (fun c2 => ?_)
  · rw [if_neg c2] at hf
    refine Z.iload_n (n := 11) dX12_of_10 rfl rfl ?_
    by_cases c3 : l2 = 0
    · rw [if_pos c3] at hf
      refine Z.tswI (off := 29) (tgt := 40) dX12_of_11 c3 (by decide +kernel) (by decide +kernel) (by decide +kernel) rfl ?_
      refine Z.aload_n (n := 41) dX12_of_40 rfl rfl ?_
      refine Z.getf (n := 44) fX12_9 dX12_of_41 rfl W93 rfl ?_
      refine Z.sipush (n := 47) (v := 270) dX12_of_44 rfl (by decide +kernel) ?_
      refine Z.iload_n (n := 48) dX12_of_47 rfl rfl ?_
      refine Z.iadd (n := 49) dX12_of_48 rfl ?_
      obtain ⟨j4, ej4, hf⟩ := Option.bind_eq_some_iff.mp hf
      obtain ⟨hij4, hlj4⟩ := ck_spec ej4
      refine Z.iald (j := j4) (n := 50) dX12_of_49 rfl W94 hij4 hlj4 (by decide) ?_
      have hz := Option.some.inj hf
      subst hz
      exact Z.iret hJ dX12_of_50 rfl (Nat.le_refl _) (Nat.le_refl _) ⟨rfl, rfl⟩
    rw [if_neg c3] at hf
    by_cases c5 : l2 = 1
    · rw [if_pos c5] at hf
      refine Z.tswI (off := 40) (tgt := 51) dX12_of_11 c5 (by decide +kernel) (by decide +kernel) (by decide +kernel) rfl ?_
      refine Z.aload_n (n := 52) dX12_of_51 rfl rfl ?_
      refine Z.getf (n := 55) fX12_9 dX12_of_52 rfl W93 rfl ?_
      refine Z.sipush (n := 58) (v := 280) dX12_of_55 rfl (by decide +kernel) ?_
      refine Z.iload_n (n := 59) dX12_of_58 rfl rfl ?_
      refine Z.iadd (n := 60) dX12_of_59 rfl ?_
      obtain ⟨j6, ej6, hf⟩ := Option.bind_eq_some_iff.mp hf
      obtain ⟨hij6, hlj6⟩ := ck_spec ej6
      refine Z.iald (j := j6) (n := 61) dX12_of_60 rfl W94 hij6 hlj6 (by decide) ?_
      have hz := Option.some.inj hf
      subst hz
      exact Z.iret hJ dX12_of_61 rfl (Nat.le_refl _) (Nat.le_refl _) ⟨rfl, rfl⟩
    rw [if_neg c5] at hf
    by_cases c7 : l2 = 2
    · rw [if_pos c7] at hf
      refine Z.tswI (off := 51) (tgt := 62) dX12_of_11 c7 (by decide +kernel) (by decide +kernel) (by decide +kernel) rfl ?_
      refine Z.aload_n (n := 63) dX12_of_62 rfl rfl ?_
      refine Z.getf (n := 66) fX12_9 dX12_of_63 rfl W93 rfl ?_
      refine Z.sipush (n := 69) (v := 290) dX12_of_66 rfl (by decide +kernel) ?_
      refine Z.iload_n (n := 70) dX12_of_69 rfl rfl ?_
      refine Z.iadd (n := 71) dX12_of_70 rfl ?_
      obtain ⟨j8, ej8, hf⟩ := Option.bind_eq_some_iff.mp hf
      obtain ⟨hij8, hlj8⟩ := ck_spec ej8
      refine Z.iald (j := j8) (n := 72) dX12_of_71 rfl W94 hij8 hlj8 (by decide) ?_
      have hz := Option.some.inj hf
      subst hz
      exact Z.iret hJ dX12_of_72 rfl (Nat.le_refl _) (Nat.le_refl _) ⟨rfl, rfl⟩
    rw [if_neg c7] at hf
    by_cases c9 : l2 = 3
    · rw [if_pos c9] at hf
      refine Z.tswI (off := 62) (tgt := 73) dX12_of_11 c9 (by decide +kernel) (by decide +kernel) (by decide +kernel) rfl ?_
      refine Z.aload_n (n := 74) dX12_of_73 rfl rfl ?_
      refine Z.getf (n := 77) fX12_9 dX12_of_74 rfl W93 rfl ?_
      refine Z.sipush (n := 80) (v := 300) dX12_of_77 rfl (by decide +kernel) ?_
      refine Z.iload_n (n := 81) dX12_of_80 rfl rfl ?_
      refine Z.iadd (n := 82) dX12_of_81 rfl ?_
      obtain ⟨j10, ej10, hf⟩ := Option.bind_eq_some_iff.mp hf
      obtain ⟨hij10, hlj10⟩ := ck_spec ej10
      refine Z.iald (j := j10) (n := 83) dX12_of_82 rfl W94 hij10 hlj10 (by decide) ?_
      have hz := Option.some.inj hf
      subst hz
      exact Z.iret hJ dX12_of_83 rfl (Nat.le_refl _) (Nat.le_refl _) ⟨rfl, rfl⟩
    rw [if_neg c9] at hf
    have tc3 := lv_neT (k := 0) c3 (a := 0) (by decide +kernel)
    have tc5 := lv_neT (k := 1) c5 (a := 1) (by decide +kernel)
    have tc7 := lv_neT (k := 2) c7 (a := 2) (by decide +kernel)
    have tc9 := lv_neT (k := 3) c9 (a := 3) (by decide +kernel)
    refine Z.tswO (tgt := 84) dX12_of_11 (by omega) rfl ?_
    refine Z.iconst (n := 85) (v := -1) dX12_of_84 rfl (by decide +kernel) ?_
    have hz := Option.some.inj hf
    subst hz
    exact Z.iret hJ dX12_of_85 rfl (Nat.le_refl _) (Nat.le_refl _) ⟨rfl, rfl⟩
  · rw [if_pos c2] at hf
    refine Z.iconst (n := 9) (v := -1) dX12_of_8 rfl (by decide +kernel) ?_
    have hz := Option.some.inj hf
    subst hz
    exact Z.iret hJ dX12_of_9 rfl (Nat.le_refl _) (Nat.le_refl _) ⟨rfl, rfl⟩
def fX12_isAlive_26 (s0 : Int32) (h : HT) : Option (Int32 × HT) :=
  Option.bind (cb s0) fun u3 =>
  some (s0, h)
set_option maxHeartbeats 4000000 in
theorem zX12_isAlive_26 {g : GP} {a : Nat → Nat} {P : PT} {J : JT} {z : Int32 × HT} (hJ : JX g 3 0 0 (PoI g a P z) J) (s0 : Int32) (h : HT) (hf : fX12_isAlive_26 s0 h = some z) : Z g mX12_isAlive J 0 0 26 [none, none] [.int s0] (WD g a h P) := by
  unfold fX12_isAlive_26 at hf
  obtain ⟨u3, eu3, hf⟩ := Option.bind_eq_some_iff.mp hf
  have hz := Option.some.inj hf
  subst hz
  exact Z.zret hJ dX12_isAlive_26 rfl (cb_nar eu3) (Nat.le_refl _) (Nat.le_refl _) ⟨rfl, rfl⟩
def fX12_isAlive_25 (h : HT) : Option (Int32 × HT) :=
  fX12_isAlive_26 0 h
set_option maxHeartbeats 4000000 in
theorem zX12_isAlive_25 {g : GP} {a : Nat → Nat} {P : PT} {J : JT} {z : Int32 × HT} (hJ : JX g 3 0 0 (PoI g a P z) J) (h : HT) (hf : fX12_isAlive_25 h = some z) : Z g mX12_isAlive J 0 0 25 [none, none] [] (WD g a h P) := by
  unfold fX12_isAlive_25 at hf
  refine Z.iconst (n := 26) (v := 0) dX12_isAlive_25 rfl (by decide +kernel) ?_
  exact zX12_isAlive_26 hJ _ _ hf
def fX12_isAlive (l1 : Int32) (h : HT) : Option (Int32 × HT) :=
  Option.bind (fX12_isKing l1 h) fun z1 =>
  if z1.1 = 0 then (fX12_isAlive_25 z1.2)
  else (Option.bind (ck 490 ((290 : Int32) + l1)) fun j4 =>
  if (z1.2 94 j4) = 0 then (fX12_isAlive_26 1 z1.2)
  else (fX12_isAlive_25 z1.2))
set_option maxHeartbeats 4000000 in
theorem ctX12_isAlive {g : GP} {a : Nat → Nat} {P : PT} {h : HT} {z : Int32 × HT} {l1 : Int32} (hf : fX12_isAlive l1 h = some z) : Ct g 3 0 0 mX12_isAlive [.ref (a 93), .int l1] (WD g a h P) (PoI g a P z) := by
  refine Ct.of (by decide +kernel) (Nat.le_of_ble_eq_true rfl) fun J hJ => ?_
  show Z g mX12_isAlive J 0 0 0 [some (.ref (a 93)), some (.int l1)] [] (WD g a h P)
  unfold fX12_isAlive at hf
  refine Z.aload_n (n := 1) dX12_isAlive_0 rfl rfl ?_
  refine Z.iload_n (n := 2) dX12_isAlive_1 rfl rfl ?_
  obtain ⟨z1, ez1, hf⟩ := Option.bind_eq_some_iff.mp hf
  refine Z.callV (n := 5) vX12_45 (ctX12_isKing ez1) hJ.rm (Nat.le_of_ble_eq_true rfl) rfl rfl (Nat.le_refl _) (Nat.le_refl _) rfl W93 rfl rfl (Nat.le_of_ble_eq_true rfl) rfl dX12_isAlive_2 rfl (fun v w hw => ?_)
  obtain ⟨rfl, rfl⟩ := hw
  show Z _ _ _ _ _ _ _ [.int z1.1] _
  refine Z.if_eq (tgt := 25) (n := 8) dX12_isAlive_5 rfl rfl (fun c2 => ?_) (fun c2 => ?_)
  · rw [if_pos c2] at hf
    refine Z.fg [0, 1] ?_
    exact zX12_isAlive_25 hJ _ hf
  · rw [if_neg c2] at hf
    refine Z.aload_n (n := 9) dX12_isAlive_8 rfl rfl ?_
    refine Z.getf (n := 12) fX12_9 dX12_isAlive_9 rfl W93 rfl ?_
    refine Z.sipush (n := 15) (v := 290) dX12_isAlive_12 rfl (by decide +kernel) ?_
    refine Z.iload_n (n := 16) dX12_isAlive_15 rfl rfl ?_
    refine Z.iadd (n := 17) dX12_isAlive_16 rfl ?_
    obtain ⟨j4, ej4, hf⟩ := Option.bind_eq_some_iff.mp hf
    obtain ⟨hij4, hlj4⟩ := ck_spec ej4
    refine Z.iald (j := j4) (n := 18) dX12_isAlive_17 rfl W94 hij4 hlj4 (by decide) ?_
    refine Z.if_ne (tgt := 25) (n := 21) dX12_isAlive_18 rfl rfl (fun c5 => ?_) (fun c5 => ?_)
    · rw [if_neg c5] at hf
      refine Z.fg [0, 1] ?_
      exact zX12_isAlive_25 hJ _ hf
    · rw [if_pos c5] at hf
      refine Z.iconst (n := 22) (v := 1) dX12_isAlive_21 rfl (by decide +kernel) ?_
      refine Z.goto (tgt := 26) dX12_isAlive_22 rfl ?_
      refine Z.fg [0, 1] ?_
      exact zX12_isAlive_26 hJ _ _ hf
def fX12_arm (l1 : Int32) (l2 : Int32) (h : HT) : Option (Int32 × HT) :=
  Option.bind (fX12_isKing l1 h) fun z1 =>
  if z1.1 = 0 then (some ((-1), z1.2))
  else (Option.bind (fX12_in l2 0 99 z1.2) fun z3 =>
  if z3.1 = 0 then (some ((-2), z3.2))
  else (Option.bind (fX12_isAlive l1 z3.2) fun z5 =>
  if z5.1 = 0 then (some ((-3), z5.2))
  else (Option.bind (ck 490 ((270 : Int32) + l1)) fun j7 =>
  Option.bind (ck 490 ((270 : Int32) + l1)) fun j8 =>
  some (z5.2 94 j7, hu z5.2 94 j8 l2))))
set_option maxHeartbeats 4000000 in
theorem ctX12_arm {g : GP} {a : Nat → Nat} {P : PT} {h : HT} {z : Int32 × HT} {l1 : Int32} {l2 : Int32} (hf : fX12_arm l1 l2 h = some z) : Ct g 4 0 0 mX12_arm [.ref (a 93), .int l1, .int l2] (WD g a h P) (PoI g a P z) := by
  refine Ct.of (by decide +kernel) (Nat.le_of_ble_eq_true rfl) fun J hJ => ?_
  show Z g mX12_arm J 0 0 0 [some (.ref (a 93)), some (.int l1), some (.int l2), none] [] (WD g a h P)
  unfold fX12_arm at hf
  refine Z.aload_n (n := 1) dX12_arm_0 rfl rfl ?_
  refine Z.iload_n (n := 2) dX12_arm_1 rfl rfl ?_
  obtain ⟨z1, ez1, hf⟩ := Option.bind_eq_some_iff.mp hf
  refine Z.callV (n := 5) vX12_45 (ctX12_isKing ez1) hJ.rm (Nat.le_of_ble_eq_true rfl) rfl rfl (Nat.le_refl _) (Nat.le_refl _) rfl W93 rfl rfl (Nat.le_of_ble_eq_true rfl) rfl dX12_arm_2 rfl (fun v w hw => ?_)
  obtain ⟨rfl, rfl⟩ := hw
  show Z _ _ _ _ _ _ _ [.int z1.1] _
  refine Z.if_ne (tgt := 10) (n := 8) dX12_arm_5 rfl rfl (fun c2 => ?_) (fun c2 => ?_)
  · rw [if_neg c2] at hf
    refine Z.iload_n (n := 11) dX12_arm_10 rfl rfl ?_
    refine Z.iconst (n := 12) (v := 0) dX12_arm_11 rfl (by decide +kernel) ?_
    refine Z.bipush (n := 14) (v := 99) dX12_arm_12 rfl (by decide +kernel) ?_
    obtain ⟨z3, ez3, hf⟩ := Option.bind_eq_some_iff.mp hf
    refine Z.callS (n := 17) vX12_41 (ctX12_in ez3) hJ.rm (Nat.le_of_ble_eq_true rfl) rfl rfl (Nat.le_refl _) (Nat.le_refl _) rfl (Nat.le_of_ble_eq_true rfl) rfl dX12_arm_14 rfl (fun v w hw => ?_)
    obtain ⟨rfl, rfl⟩ := hw
    show Z _ _ _ _ _ _ _ [.int z3.1] _
    refine Z.if_ne (tgt := 23) (n := 20) dX12_arm_17 rfl rfl (fun c4 => ?_) (fun c4 => ?_)
    · rw [if_neg c4] at hf
      refine Z.aload_n (n := 24) dX12_arm_23 rfl rfl ?_
      refine Z.iload_n (n := 25) dX12_arm_24 rfl rfl ?_
      obtain ⟨z5, ez5, hf⟩ := Option.bind_eq_some_iff.mp hf
      refine Z.callV (n := 28) vX12_49 (ctX12_isAlive ez5) hJ.rm (Nat.le_of_ble_eq_true rfl) rfl rfl (Nat.le_refl _) (Nat.le_refl _) rfl W93 rfl rfl (Nat.le_of_ble_eq_true rfl) rfl dX12_arm_25 rfl (fun v w hw => ?_)
      obtain ⟨rfl, rfl⟩ := hw
      show Z _ _ _ _ _ _ _ [.int z5.1] _
      refine Z.if_ne (tgt := 34) (n := 31) dX12_arm_28 rfl rfl (fun c6 => ?_) (fun c6 => ?_)
      · rw [if_neg c6] at hf
        refine Z.aload_n (n := 35) dX12_arm_34 rfl rfl ?_
        refine Z.getf (n := 38) fX12_9 dX12_arm_35 rfl W93 rfl ?_
        refine Z.sipush (n := 41) (v := 270) dX12_arm_38 rfl (by decide +kernel) ?_
        refine Z.iload_n (n := 42) dX12_arm_41 rfl rfl ?_
        refine Z.iadd (n := 43) dX12_arm_42 rfl ?_
        obtain ⟨j7, ej7, hf⟩ := Option.bind_eq_some_iff.mp hf
        obtain ⟨hij7, hlj7⟩ := ck_spec ej7
        refine Z.iald (j := j7) (n := 44) dX12_arm_43 rfl W94 hij7 hlj7 (by decide) ?_
        refine Z.istore_n (n := 45) dX12_arm_44 rfl (by decide) rfl ?_
        refine Z.aload_n (n := 46) dX12_arm_45 rfl rfl ?_
        refine Z.getf (n := 49) fX12_9 dX12_arm_46 rfl W93 rfl ?_
        refine Z.sipush (n := 52) (v := 270) dX12_arm_49 rfl (by decide +kernel) ?_
        refine Z.iload_n (n := 53) dX12_arm_52 rfl rfl ?_
        refine Z.iadd (n := 54) dX12_arm_53 rfl ?_
        refine Z.iload_n (n := 55) dX12_arm_54 rfl rfl ?_
        obtain ⟨j8, ej8, hf⟩ := Option.bind_eq_some_iff.mp hf
        obtain ⟨hij8, hlj8⟩ := ck_spec ej8
        refine Z.iast (j := j8) (n := 56) dX12_arm_55 rfl W94 hij8 hlj8 (by decide) W94s ?_
        refine Z.iload_n (n := 57) dX12_arm_56 rfl rfl ?_
        have hz := Option.some.inj hf
        subst hz
        exact Z.iret hJ dX12_arm_57 rfl (Nat.le_refl _) (Nat.le_refl _) ⟨rfl, rfl⟩
      · rw [if_pos c6] at hf
        refine Z.bipush (n := 33) (v := -3) dX12_arm_31 rfl (by decide +kernel) ?_
        have hz := Option.some.inj hf
        subst hz
        exact Z.iret hJ dX12_arm_33 rfl (Nat.le_refl _) (Nat.le_refl _) ⟨rfl, rfl⟩
    · rw [if_pos c4] at hf
      refine Z.bipush (n := 22) (v := -2) dX12_arm_20 rfl (by decide +kernel) ?_
      have hz := Option.some.inj hf
      subst hz
      exact Z.iret hJ dX12_arm_22 rfl (Nat.le_refl _) (Nat.le_refl _) ⟨rfl, rfl⟩
  · rw [if_pos c2] at hf
    refine Z.iconst (n := 9) (v := -1) dX12_arm_8 rfl (by decide +kernel) ?_
    have hz := Option.some.inj hf
    subst hz
    exact Z.iret hJ dX12_arm_9 rfl (Nat.le_refl _) (Nat.le_refl _) ⟨rfl, rfl⟩
def fX12_worth_16 (h : HT) : Option (Int32 × HT) :=
  some ((-1), h)
set_option maxHeartbeats 4000000 in
theorem zX12_worth_16 {g : GP} {a : Nat → Nat} {P : PT} {J : JT} {z : Int32 × HT} (hJ : JX g 3 0 0 (PoI g a P z) J) (h : HT) (hf : fX12_worth_16 h = some z) : Z g mX12_worth J 0 0 16 [none, none, none, none, none] [] (WD g a h P) := by
  unfold fX12_worth_16 at hf
  refine Z.iconst (n := 17) (v := -1) dX12_worth_16 rfl (by decide +kernel) ?_
  have hz := Option.some.inj hf
  subst hz
  exact Z.iret hJ dX12_worth_17 rfl (Nat.le_refl _) (Nat.le_refl _) ⟨rfl, rfl⟩
def fX12_worth_33 (h : HT) : Option (Int32 × HT) :=
  some ((-2), h)
set_option maxHeartbeats 4000000 in
theorem zX12_worth_33 {g : GP} {a : Nat → Nat} {P : PT} {J : JT} {z : Int32 × HT} (hJ : JX g 3 0 0 (PoI g a P z) J) (h : HT) (hf : fX12_worth_33 h = some z) : Z g mX12_worth J 0 0 33 [none, none, none, none, none] [] (WD g a h P) := by
  unfold fX12_worth_33 at hf
  refine Z.bipush (n := 35) (v := -2) dX12_worth_33 rfl (by decide +kernel) ?_
  have hz := Option.some.inj hf
  subst hz
  exact Z.iret hJ dX12_worth_35 rfl (Nat.le_refl _) (Nat.le_refl _) ⟨rfl, rfl⟩
def fX12_worth (l1 : Int32) (l2 : Int32) (l3 : Int32) (h : HT) : Option (Int32 × HT) :=
  Option.bind (fX12_isKing l1 h) fun z1 =>
  if z1.1 = 0 then (fX12_worth_16 z1.2)
  else (Option.bind (fX12_isKing l2 z1.2) fun z3 =>
  if z3.1 = 0 then (fX12_worth_16 z3.2)
  else (if l1 = l2 then (fX12_worth_33 z3.2)
  else (Option.bind (fX12_in l3 0 99 z3.2) fun z6 =>
  if z6.1 = 0 then (fX12_worth_33 z6.2)
  else (Option.bind (ck 490 (((310 : Int32) + ((7 : Int32) * l1)) + l2)) fun j8 =>
  Option.bind (ck 490 (((310 : Int32) + ((7 : Int32) * l1)) + l2)) fun j9 =>
  some (z6.2 94 j8, hu z6.2 94 j9 l3)))))
set_option maxHeartbeats 4000000 in
theorem ctX12_worth {g : GP} {a : Nat → Nat} {P : PT} {h : HT} {z : Int32 × HT} {l1 : Int32} {l2 : Int32} {l3 : Int32} (hf : fX12_worth l1 l2 l3 h = some z) : Ct g 3 0 0 mX12_worth [.ref (a 93), .int l1, .int l2, .int l3] (WD g a h P) (PoI g a P z) := by
  refine Ct.of (by decide +kernel) (Nat.le_of_ble_eq_true rfl) fun J hJ => ?_
  show Z g mX12_worth J 0 0 0 [some (.ref (a 93)), some (.int l1), some (.int l2), some (.int l3), none] [] (WD g a h P)
  unfold fX12_worth at hf
  refine Z.aload_n (n := 1) dX12_worth_0 rfl rfl ?_
  refine Z.iload_n (n := 2) dX12_worth_1 rfl rfl ?_
  obtain ⟨z1, ez1, hf⟩ := Option.bind_eq_some_iff.mp hf
  refine Z.callV (n := 5) vX12_45 (ctX12_isKing ez1) hJ.rm (Nat.le_of_ble_eq_true rfl) rfl rfl (Nat.le_refl _) (Nat.le_refl _) rfl W93 rfl rfl (Nat.le_of_ble_eq_true rfl) rfl dX12_worth_2 rfl (fun v w hw => ?_)
  obtain ⟨rfl, rfl⟩ := hw
  show Z _ _ _ _ _ _ _ [.int z1.1] _
  refine Z.if_eq (tgt := 16) (n := 8) dX12_worth_5 rfl rfl (fun c2 => ?_) (fun c2 => ?_)
  · rw [if_pos c2] at hf
    refine Z.fg [0, 1, 2, 3] ?_
    exact zX12_worth_16 hJ _ hf
  · rw [if_neg c2] at hf
    refine Z.aload_n (n := 9) dX12_worth_8 rfl rfl ?_
    refine Z.iload_n (n := 10) dX12_worth_9 rfl rfl ?_
    obtain ⟨z3, ez3, hf⟩ := Option.bind_eq_some_iff.mp hf
    refine Z.callV (n := 13) vX12_45 (ctX12_isKing ez3) hJ.rm (Nat.le_of_ble_eq_true rfl) rfl rfl (Nat.le_refl _) (Nat.le_refl _) rfl W93 rfl rfl (Nat.le_of_ble_eq_true rfl) rfl dX12_worth_10 rfl (fun v w hw => ?_)
    obtain ⟨rfl, rfl⟩ := hw
    show Z _ _ _ _ _ _ _ [.int z3.1] _
    refine Z.if_ne (tgt := 18) (n := 16) dX12_worth_13 rfl rfl (fun c4 => ?_) (fun c4 => ?_)
    · rw [if_neg c4] at hf
      refine Z.iload_n (n := 19) dX12_worth_18 rfl rfl ?_
      refine Z.iload_n (n := 20) dX12_worth_19 rfl rfl ?_
      refine Z.icmp_eq (tgt := 33) (n := 23) dX12_worth_20 rfl rfl (fun c5 => ?_) (fun c5 => ?_)
      · rw [if_pos c5] at hf
        refine Z.fg [0, 1, 2, 3] ?_
        exact zX12_worth_33 hJ _ hf
      · rw [if_neg c5] at hf
        refine Z.iload_n (n := 24) dX12_worth_23 rfl rfl ?_
        refine Z.iconst (n := 25) (v := 0) dX12_worth_24 rfl (by decide +kernel) ?_
        refine Z.bipush (n := 27) (v := 99) dX12_worth_25 rfl (by decide +kernel) ?_
        obtain ⟨z6, ez6, hf⟩ := Option.bind_eq_some_iff.mp hf
        refine Z.callS (n := 30) vX12_41 (ctX12_in ez6) hJ.rm (Nat.le_of_ble_eq_true rfl) rfl rfl (Nat.le_refl _) (Nat.le_refl _) rfl (Nat.le_of_ble_eq_true rfl) rfl dX12_worth_27 rfl (fun v w hw => ?_)
        obtain ⟨rfl, rfl⟩ := hw
        show Z _ _ _ _ _ _ _ [.int z6.1] _
        refine Z.if_ne (tgt := 36) (n := 33) dX12_worth_30 rfl rfl (fun c7 => ?_) (fun c7 => ?_)
        · rw [if_neg c7] at hf
          refine Z.aload_n (n := 37) dX12_worth_36 rfl rfl ?_
          refine Z.getf (n := 40) fX12_9 dX12_worth_37 rfl W93 rfl ?_
          refine Z.sipush (n := 43) (v := 310) dX12_worth_40 rfl (by decide +kernel) ?_
          refine Z.bipush (n := 45) (v := 7) dX12_worth_43 rfl (by decide +kernel) ?_
          refine Z.iload_n (n := 46) dX12_worth_45 rfl rfl ?_
          refine Z.imul (n := 47) dX12_worth_46 rfl ?_
          refine Z.iadd (n := 48) dX12_worth_47 rfl ?_
          refine Z.iload_n (n := 49) dX12_worth_48 rfl rfl ?_
          refine Z.iadd (n := 50) dX12_worth_49 rfl ?_
          obtain ⟨j8, ej8, hf⟩ := Option.bind_eq_some_iff.mp hf
          obtain ⟨hij8, hlj8⟩ := ck_spec ej8
          refine Z.iald (j := j8) (n := 51) dX12_worth_50 rfl W94 hij8 hlj8 (by decide) ?_
          refine Z.istore (n := 53) dX12_worth_51 rfl (by decide) rfl ?_
          refine Z.aload_n (n := 54) dX12_worth_53 rfl rfl ?_
          refine Z.getf (n := 57) fX12_9 dX12_worth_54 rfl W93 rfl ?_
          refine Z.sipush (n := 60) (v := 310) dX12_worth_57 rfl (by decide +kernel) ?_
          refine Z.bipush (n := 62) (v := 7) dX12_worth_60 rfl (by decide +kernel) ?_
          refine Z.iload_n (n := 63) dX12_worth_62 rfl rfl ?_
          refine Z.imul (n := 64) dX12_worth_63 rfl ?_
          refine Z.iadd (n := 65) dX12_worth_64 rfl ?_
          refine Z.iload_n (n := 66) dX12_worth_65 rfl rfl ?_
          refine Z.iadd (n := 67) dX12_worth_66 rfl ?_
          refine Z.iload_n (n := 68) dX12_worth_67 rfl rfl ?_
          obtain ⟨j9, ej9, hf⟩ := Option.bind_eq_some_iff.mp hf
          obtain ⟨hij9, hlj9⟩ := ck_spec ej9
          refine Z.iast (j := j9) (n := 69) dX12_worth_68 rfl W94 hij9 hlj9 (by decide) W94s ?_
          refine Z.iload (n := 71) dX12_worth_69 rfl rfl ?_
          have hz := Option.some.inj hf
          subst hz
          exact Z.iret hJ dX12_worth_71 rfl (Nat.le_refl _) (Nat.le_refl _) ⟨rfl, rfl⟩
        · rw [if_pos c7] at hf
          refine Z.fg [0, 1, 2, 3] ?_
          exact zX12_worth_33 hJ _ hf
    · rw [if_pos c4] at hf
      refine Z.fg [0, 1, 2, 3] ?_
      exact zX12_worth_16 hJ _ hf
def fX12_pact_16 (h : HT) : Option (Int32 × HT) :=
  some ((-1), h)
set_option maxHeartbeats 4000000 in
theorem zX12_pact_16 {g : GP} {a : Nat → Nat} {P : PT} {J : JT} {z : Int32 × HT} (hJ : JX g 3 0 0 (PoI g a P z) J) (h : HT) (hf : fX12_pact_16 h = some z) : Z g mX12_pact J 0 0 16 [none, none, none, none, none] [] (WD g a h P) := by
  unfold fX12_pact_16 at hf
  refine Z.iconst (n := 17) (v := -1) dX12_pact_16 rfl (by decide +kernel) ?_
  have hz := Option.some.inj hf
  subst hz
  exact Z.iret hJ dX12_pact_17 rfl (Nat.le_refl _) (Nat.le_refl _) ⟨rfl, rfl⟩
def fX12_pact_32 (h : HT) : Option (Int32 × HT) :=
  some ((-2), h)
set_option maxHeartbeats 4000000 in
theorem zX12_pact_32 {g : GP} {a : Nat → Nat} {P : PT} {J : JT} {z : Int32 × HT} (hJ : JX g 3 0 0 (PoI g a P z) J) (h : HT) (hf : fX12_pact_32 h = some z) : Z g mX12_pact J 0 0 32 [none, none, none, none, none] [] (WD g a h P) := by
  unfold fX12_pact_32 at hf
  refine Z.bipush (n := 34) (v := -2) dX12_pact_32 rfl (by decide +kernel) ?_
  have hz := Option.some.inj hf
  subst hz
  exact Z.iret hJ dX12_pact_34 rfl (Nat.le_refl _) (Nat.le_refl _) ⟨rfl, rfl⟩
def fX12_pact (l1 : Int32) (l2 : Int32) (l3 : Int32) (h : HT) : Option (Int32 × HT) :=
  Option.bind (fX12_isKing l1 h) fun z1 =>
  if z1.1 = 0 then (fX12_pact_16 z1.2)
  else (Option.bind (fX12_isKing l2 z1.2) fun z3 =>
  if z3.1 = 0 then (fX12_pact_16 z3.2)
  else (if l1 = l2 then (fX12_pact_32 z3.2)
  else (Option.bind (fX12_in l3 0 3 z3.2) fun z6 =>
  if z6.1 = 0 then (fX12_pact_32 z6.2)
  else (Option.bind (ck 490 (((360 : Int32) + ((7 : Int32) * l1)) + l2)) fun j8 =>
  Option.bind (ck 490 (((360 : Int32) + ((7 : Int32) * l1)) + l2)) fun j9 =>
  some (z6.2 94 j8, hu z6.2 94 j9 l3)))))
set_option maxHeartbeats 4000000 in
theorem ctX12_pact {g : GP} {a : Nat → Nat} {P : PT} {h : HT} {z : Int32 × HT} {l1 : Int32} {l2 : Int32} {l3 : Int32} (hf : fX12_pact l1 l2 l3 h = some z) : Ct g 3 0 0 mX12_pact [.ref (a 93), .int l1, .int l2, .int l3] (WD g a h P) (PoI g a P z) := by
  refine Ct.of (by decide +kernel) (Nat.le_of_ble_eq_true rfl) fun J hJ => ?_
  show Z g mX12_pact J 0 0 0 [some (.ref (a 93)), some (.int l1), some (.int l2), some (.int l3), none] [] (WD g a h P)
  unfold fX12_pact at hf
  refine Z.aload_n (n := 1) dX12_pact_0 rfl rfl ?_
  refine Z.iload_n (n := 2) dX12_pact_1 rfl rfl ?_
  obtain ⟨z1, ez1, hf⟩ := Option.bind_eq_some_iff.mp hf
  refine Z.callV (n := 5) vX12_45 (ctX12_isKing ez1) hJ.rm (Nat.le_of_ble_eq_true rfl) rfl rfl (Nat.le_refl _) (Nat.le_refl _) rfl W93 rfl rfl (Nat.le_of_ble_eq_true rfl) rfl dX12_pact_2 rfl (fun v w hw => ?_)
  obtain ⟨rfl, rfl⟩ := hw
  show Z _ _ _ _ _ _ _ [.int z1.1] _
  refine Z.if_eq (tgt := 16) (n := 8) dX12_pact_5 rfl rfl (fun c2 => ?_) (fun c2 => ?_)
  · rw [if_pos c2] at hf
    refine Z.fg [0, 1, 2, 3] ?_
    exact zX12_pact_16 hJ _ hf
  · rw [if_neg c2] at hf
    refine Z.aload_n (n := 9) dX12_pact_8 rfl rfl ?_
    refine Z.iload_n (n := 10) dX12_pact_9 rfl rfl ?_
    obtain ⟨z3, ez3, hf⟩ := Option.bind_eq_some_iff.mp hf
    refine Z.callV (n := 13) vX12_45 (ctX12_isKing ez3) hJ.rm (Nat.le_of_ble_eq_true rfl) rfl rfl (Nat.le_refl _) (Nat.le_refl _) rfl W93 rfl rfl (Nat.le_of_ble_eq_true rfl) rfl dX12_pact_10 rfl (fun v w hw => ?_)
    obtain ⟨rfl, rfl⟩ := hw
    show Z _ _ _ _ _ _ _ [.int z3.1] _
    refine Z.if_ne (tgt := 18) (n := 16) dX12_pact_13 rfl rfl (fun c4 => ?_) (fun c4 => ?_)
    · rw [if_neg c4] at hf
      refine Z.iload_n (n := 19) dX12_pact_18 rfl rfl ?_
      refine Z.iload_n (n := 20) dX12_pact_19 rfl rfl ?_
      refine Z.icmp_eq (tgt := 32) (n := 23) dX12_pact_20 rfl rfl (fun c5 => ?_) (fun c5 => ?_)
      · rw [if_pos c5] at hf
        refine Z.fg [0, 1, 2, 3] ?_
        exact zX12_pact_32 hJ _ hf
      · rw [if_neg c5] at hf
        refine Z.iload_n (n := 24) dX12_pact_23 rfl rfl ?_
        refine Z.iconst (n := 25) (v := 0) dX12_pact_24 rfl (by decide +kernel) ?_
        refine Z.iconst (n := 26) (v := 3) dX12_pact_25 rfl (by decide +kernel) ?_
        obtain ⟨z6, ez6, hf⟩ := Option.bind_eq_some_iff.mp hf
        refine Z.callS (n := 29) vX12_41 (ctX12_in ez6) hJ.rm (Nat.le_of_ble_eq_true rfl) rfl rfl (Nat.le_refl _) (Nat.le_refl _) rfl (Nat.le_of_ble_eq_true rfl) rfl dX12_pact_26 rfl (fun v w hw => ?_)
        obtain ⟨rfl, rfl⟩ := hw
        show Z _ _ _ _ _ _ _ [.int z6.1] _
        refine Z.if_ne (tgt := 35) (n := 32) dX12_pact_29 rfl rfl (fun c7 => ?_) (fun c7 => ?_)
        · rw [if_neg c7] at hf
          refine Z.aload_n (n := 36) dX12_pact_35 rfl rfl ?_
          refine Z.getf (n := 39) fX12_9 dX12_pact_36 rfl W93 rfl ?_
          refine Z.sipush (n := 42) (v := 360) dX12_pact_39 rfl (by decide +kernel) ?_
          refine Z.bipush (n := 44) (v := 7) dX12_pact_42 rfl (by decide +kernel) ?_
          refine Z.iload_n (n := 45) dX12_pact_44 rfl rfl ?_
          refine Z.imul (n := 46) dX12_pact_45 rfl ?_
          refine Z.iadd (n := 47) dX12_pact_46 rfl ?_
          refine Z.iload_n (n := 48) dX12_pact_47 rfl rfl ?_
          refine Z.iadd (n := 49) dX12_pact_48 rfl ?_
          obtain ⟨j8, ej8, hf⟩ := Option.bind_eq_some_iff.mp hf
          obtain ⟨hij8, hlj8⟩ := ck_spec ej8
          refine Z.iald (j := j8) (n := 50) dX12_pact_49 rfl W94 hij8 hlj8 (by decide) ?_
          refine Z.istore (n := 52) dX12_pact_50 rfl (by decide) rfl ?_
          refine Z.aload_n (n := 53) dX12_pact_52 rfl rfl ?_
          refine Z.getf (n := 56) fX12_9 dX12_pact_53 rfl W93 rfl ?_
          refine Z.sipush (n := 59) (v := 360) dX12_pact_56 rfl (by decide +kernel) ?_
          refine Z.bipush (n := 61) (v := 7) dX12_pact_59 rfl (by decide +kernel) ?_
          refine Z.iload_n (n := 62) dX12_pact_61 rfl rfl ?_
          refine Z.imul (n := 63) dX12_pact_62 rfl ?_
          refine Z.iadd (n := 64) dX12_pact_63 rfl ?_
          refine Z.iload_n (n := 65) dX12_pact_64 rfl rfl ?_
          refine Z.iadd (n := 66) dX12_pact_65 rfl ?_
          refine Z.iload_n (n := 67) dX12_pact_66 rfl rfl ?_
          obtain ⟨j9, ej9, hf⟩ := Option.bind_eq_some_iff.mp hf
          obtain ⟨hij9, hlj9⟩ := ck_spec ej9
          refine Z.iast (j := j9) (n := 68) dX12_pact_67 rfl W94 hij9 hlj9 (by decide) W94s ?_
          refine Z.iload (n := 70) dX12_pact_68 rfl rfl ?_
          have hz := Option.some.inj hf
          subst hz
          exact Z.iret hJ dX12_pact_70 rfl (Nat.le_refl _) (Nat.le_refl _) ⟨rfl, rfl⟩
        · rw [if_pos c7] at hf
          refine Z.fg [0, 1, 2, 3] ?_
          exact zX12_pact_32 hJ _ hf
    · rw [if_pos c4] at hf
      refine Z.fg [0, 1, 2, 3] ?_
      exact zX12_pact_16 hJ _ hf
def fX12_feed_34 : Nat → Int64 → Int32 → HT → Option (Int32 × HT)
  | 0, _, _, _ => none
  | n + 1, l1, l4, h =>
  if l4 < 0 then (some (h 94 3, h))
  else (Option.bind (ck 490 ((10 : Int32) + (h 94 3))) fun j5 =>
  fX12_feed_34  n l1 (l4 + (-1)) (hu (hu h 94 j5 (((l1 >>> (((8 : Int32) * l4).toInt64 &&& 63)) &&& (255 : Int64)).toInt32)) 94 3 (((hu h 94 j5 (((l1 >>> (((8 : Int32) * l4).toInt64 &&& 63)) &&& (255 : Int64)).toInt32)) 94 3) + (1 : Int32))))
set_option maxHeartbeats 4000000 in
theorem zX12_feed_34 {g : GP} {a : Nat → Nat} {P : PT} {J : JT} {z : Int32 × HT} (hJ : JX g 2 0 0 (PoI g a P z) J) : ∀ (n : Nat) (l1 : Int64) (l4 : Int32) (h : HT), fX12_feed_34 n l1 l4 h = some z → Z g mX12_feed J 0 0 34 [some (.ref (a 93)), some (.long l1), none, none, some (.int l4)] [] (WD g a h P) := by
  intro n
  induction n with
  | zero =>
    intro _ _ _ hf
    cases hf
  | succ n ih =>
    intro l1 l4 h hf
    unfold fX12_feed_34 at hf
    refine Z.iload (n := 36) dX12_feed_34 rfl rfl ?_
    refine Z.if_lt (tgt := 81) (n := 39) dX12_feed_36 rfl rfl (fun c4 => ?_) (fun c4 => ?_)
    · rw [if_pos c4] at hf
      refine Z.aload_n (n := 82) dX12_feed_81 rfl rfl ?_
      refine Z.getf (n := 85) fX12_9 dX12_feed_82 rfl W93 rfl ?_
      refine Z.iconst (n := 86) (v := 3) dX12_feed_85 rfl (by decide +kernel) ?_
      refine Z.iald (j := 3) (n := 87) dX12_feed_86 rfl W94 (by decide +kernel) (by decide) (by decide) ?_
      have hz := Option.some.inj hf
      subst hz
      exact Z.iret hJ dX12_feed_87 rfl (Nat.le_refl _) (Nat.le_refl _) ⟨rfl, rfl⟩
    · rw [if_neg c4] at hf
      refine Z.aload_n (n := 40) dX12_feed_39 rfl rfl ?_
      refine Z.getf (n := 43) fX12_9 dX12_feed_40 rfl W93 rfl ?_
      refine Z.bipush (n := 45) (v := 10) dX12_feed_43 rfl (by decide +kernel) ?_
      refine Z.aload_n (n := 46) dX12_feed_45 rfl rfl ?_
      refine Z.getf (n := 49) fX12_9 dX12_feed_46 rfl W93 rfl ?_
      refine Z.iconst (n := 50) (v := 3) dX12_feed_49 rfl (by decide +kernel) ?_
      refine Z.iald (j := 3) (n := 51) dX12_feed_50 rfl W94 (by decide +kernel) (by decide) (by decide) ?_
      refine Z.iadd (n := 52) dX12_feed_51 rfl ?_
      refine Z.lload_n (n := 53) dX12_feed_52 rfl rfl ?_
      refine Z.bipush (n := 55) (v := 8) dX12_feed_53 rfl (by decide +kernel) ?_
      refine Z.iload (n := 57) dX12_feed_55 rfl rfl ?_
      refine Z.imul (n := 58) dX12_feed_57 rfl ?_
      refine Z.lshr (n := 59) dX12_feed_58 rfl rfl ?_
      refine Z.ldc2 (n := 62) (v := 255) dX12_feed_59 rfl wX12_52 ?_
      refine Z.land (n := 63) dX12_feed_62 rfl ?_
      refine Z.l2i (n := 64) dX12_feed_63 rfl rfl ?_
      obtain ⟨j5, ej5, hf⟩ := Option.bind_eq_some_iff.mp hf
      obtain ⟨hij5, hlj5⟩ := ck_spec ej5
      refine Z.iast (j := j5) (n := 65) dX12_feed_64 rfl W94 hij5 hlj5 (by decide) W94s ?_
      refine Z.aload_n (n := 66) dX12_feed_65 rfl rfl ?_
      refine Z.getf (n := 69) fX12_9 dX12_feed_66 rfl W93 rfl ?_
      refine Z.iconst (n := 70) (v := 3) dX12_feed_69 rfl (by decide +kernel) ?_
      refine Z.dup2 (n := 71) dX12_feed_70 rfl rfl rfl ?_
      refine Z.iald (j := 3) (n := 72) dX12_feed_71 rfl W94 (by decide +kernel) (by decide) (by decide) ?_
      refine Z.iconst (n := 73) (v := 1) dX12_feed_72 rfl (by decide +kernel) ?_
      refine Z.iadd (n := 74) dX12_feed_73 rfl ?_
      refine Z.iast (j := 3) (n := 75) dX12_feed_74 rfl W94 (by decide +kernel) (by decide) (by decide) W94s ?_
      refine Z.iinc (n := 78) (v := l4 + (-1)) dX12_feed_75 rfl rfl rfl (by decide) rfl ?_
      refine Z.goto (tgt := 34) dX12_feed_78 rfl ?_
      exact ih _ _ _ hf
def fX12_feed (l1 : Int64) (l3 : Int32) (h : HT) : Option (Int32 × HT) :=
  Option.bind (fX12_in l3 1 8 h) fun z1 =>
  if z1.1 = 0 then (some ((-2), z1.2))
  else (if ((z1.2 94 3) + l3) ≤ 120 then (fX12_feed_34 1000 l1 (l3 - (1 : Int32)) z1.2)
  else (some ((-4), z1.2)))
set_option maxHeartbeats 4000000 in
theorem ctX12_feed {g : GP} {a : Nat → Nat} {P : PT} {h : HT} {z : Int32 × HT} {l1 : Int64} {l3 : Int32} (hf : fX12_feed l1 l3 h = some z) : Ct g 2 0 0 mX12_feed [.ref (a 93), .long l1, .int l3] (WD g a h P) (PoI g a P z) := by
  refine Ct.of (by decide +kernel) (Nat.le_of_ble_eq_true rfl) fun J hJ => ?_
  show Z g mX12_feed J 0 0 0 [some (.ref (a 93)), some (.long l1), none, some (.int l3), none] [] (WD g a h P)
  unfold fX12_feed at hf
  refine Z.iload_n (n := 1) dX12_feed_0 rfl rfl ?_
  refine Z.iconst (n := 2) (v := 1) dX12_feed_1 rfl (by decide +kernel) ?_
  refine Z.bipush (n := 4) (v := 8) dX12_feed_2 rfl (by decide +kernel) ?_
  obtain ⟨z1, ez1, hf⟩ := Option.bind_eq_some_iff.mp hf
  refine Z.callS (n := 7) vX12_41 (ctX12_in ez1) hJ.rm (Nat.le_of_ble_eq_true rfl) rfl rfl (Nat.le_refl _) (Nat.le_refl _) rfl (Nat.le_of_ble_eq_true rfl) rfl dX12_feed_4 rfl (fun v w hw => ?_)
  obtain ⟨rfl, rfl⟩ := hw
  show Z _ _ _ _ _ _ _ [.int z1.1] _
  refine Z.if_ne (tgt := 13) (n := 10) dX12_feed_7 rfl rfl (fun c2 => ?_) (fun c2 => ?_)
  · rw [if_neg c2] at hf
    refine Z.aload_n (n := 14) dX12_feed_13 rfl rfl ?_
    refine Z.getf (n := 17) fX12_9 dX12_feed_14 rfl W93 rfl ?_
    refine Z.iconst (n := 18) (v := 3) dX12_feed_17 rfl (by decide +kernel) ?_
    refine Z.iald (j := 3) (n := 19) dX12_feed_18 rfl W94 (by decide +kernel) (by decide) (by decide) ?_
    refine Z.iload_n (n := 20) dX12_feed_19 rfl rfl ?_
    refine Z.iadd (n := 21) dX12_feed_20 rfl ?_
    refine Z.bipush (n := 23) (v := 120) dX12_feed_21 rfl (by decide +kernel) ?_
    refine Z.icmp_le (tgt := 29) (n := 26) dX12_feed_23 rfl rfl (fun c3 => ?_) (fun c3 => ?_)
    · rw [if_pos c3] at hf
      refine Z.iload_n (n := 30) dX12_feed_29 rfl rfl ?_
      refine Z.iconst (n := 31) (v := 1) dX12_feed_30 rfl (by decide +kernel) ?_
      refine Z.isub (n := 32) dX12_feed_31 rfl ?_
      refine Z.istore (n := 34) dX12_feed_32 rfl (by decide) rfl ?_
      refine Z.fg [3] ?_
      exact zX12_feed_34 hJ _ _ _ _ hf
    · rw [if_neg c3] at hf
      refine Z.bipush (n := 28) (v := -4) dX12_feed_26 rfl (by decide +kernel) ?_
      have hz := Option.some.inj hf
      subst hz
      exact Z.iret hJ dX12_feed_28 rfl (Nat.le_refl _) (Nat.le_refl _) ⟨rfl, rfl⟩
  · rw [if_pos c2] at hf
    refine Z.bipush (n := 12) (v := -2) dX12_feed_10 rfl (by decide +kernel) ?_
    have hz := Option.some.inj hf
    subst hz
    exact Z.iret hJ dX12_feed_12 rfl (Nat.le_refl _) (Nat.le_refl _) ⟨rfl, rfl⟩
def fX12_here_27 (s0 : Int32) (h : HT) : Option (Int32 × HT) :=
  some (s0, h)
set_option maxHeartbeats 4000000 in
theorem zX12_here_27 {g : GP} {a : Nat → Nat} {P : PT} {J : JT} {z : Int32 × HT} (hJ : JX g 1 0 0 (PoI g a P z) J) (s0 : Int32) (h : HT) (hf : fX12_here_27 s0 h = some z) : Z g mX12_here J 0 0 27 [none] [.int s0] (WD g a h P) := by
  unfold fX12_here_27 at hf
  have hz := Option.some.inj hf
  subst hz
  exact Z.iret hJ dX12_here_27 rfl (Nat.le_refl _) (Nat.le_refl _) ⟨rfl, rfl⟩
def fX12_here (h : HT) : Option (Int32 × HT) :=
  if (h 93 5) ≤ (h 93 4) then (fX12_here_27 (-1) h)
  else (Option.bind (ck 490 ((10 : Int32) + (h 93 4))) fun j2 =>
  fX12_here_27 (h 94 j2) h)
set_option maxHeartbeats 4000000 in
theorem ctX12_here {g : GP} {a : Nat → Nat} {P : PT} {h : HT} {z : Int32 × HT} (hf : fX12_here h = some z) : Ct g 1 0 0 mX12_here [.ref (a 93)] (WD g a h P) (PoI g a P z) := by
  refine Ct.of (by decide +kernel) (Nat.le_of_ble_eq_true rfl) fun J hJ => ?_
  show Z g mX12_here J 0 0 0 [some (.ref (a 93))] [] (WD g a h P)
  unfold fX12_here at hf
  refine Z.aload_n (n := 1) dX12_here_0 rfl rfl ?_
  refine Z.getf (n := 4) fX12_54 dX12_here_1 rfl W93 rfl ?_
  refine Z.aload_n (n := 5) dX12_here_4 rfl rfl ?_
  refine Z.getf (n := 8) fX12_57 dX12_here_5 rfl W93 rfl ?_
  refine Z.icmp_ge (tgt := 26) (n := 11) dX12_here_8 rfl rfl (fun c1 => ?_) (fun c1 => ?_)
  · rw [if_pos c1] at hf
    refine Z.iconst (n := 27) (v := -1) dX12_here_26 rfl (by decide +kernel) ?_
    refine Z.fg [0] ?_
    exact zX12_here_27 hJ _ _ hf
  · rw [if_neg c1] at hf
    refine Z.aload_n (n := 12) dX12_here_11 rfl rfl ?_
    refine Z.getf (n := 15) fX12_9 dX12_here_12 rfl W93 rfl ?_
    refine Z.bipush (n := 17) (v := 10) dX12_here_15 rfl (by decide +kernel) ?_
    refine Z.aload_n (n := 18) dX12_here_17 rfl rfl ?_
    refine Z.getf (n := 21) fX12_54 dX12_here_18 rfl W93 rfl ?_
    refine Z.iadd (n := 22) dX12_here_21 rfl ?_
    obtain ⟨j2, ej2, hf⟩ := Option.bind_eq_some_iff.mp hf
    obtain ⟨hij2, hlj2⟩ := ck_spec ej2
    refine Z.iald (j := j2) (n := 23) dX12_here_22 rfl W94 hij2 hlj2 (by decide) ?_
    refine Z.goto (tgt := 27) dX12_here_23 rfl ?_
    refine Z.fg [0] ?_
    exact zX12_here_27 hJ _ _ hf
def fX12_must_41 (s0 : Int32) (s1 : Int32) (h : HT) : Option (Int32 × HT) :=
  some (0, hu h 93 4 (s1 + s0))
set_option maxHeartbeats 4000000 in
theorem zX12_must_41 {g : GP} {a : Nat → Nat} {P : PT} {J : JT} {z : Int32 × HT} (hJ : JX g 2 0 0 (PoV g a P z) J) (s0 : Int32) (s1 : Int32) (h : HT) (hf : fX12_must_41 s0 s1 h = some z) : Z g mX12_must J 0 0 41 [none, none] [.int s0, .int s1, .ref (a 93)] (WD g a h P) := by
  unfold fX12_must_41 at hf
  refine Z.iadd (n := 42) dX12_must_41 rfl ?_
  refine Z.putf (n := 45) pX12_54 dX12_must_42 rfl W93 (Nat.le_of_ble_eq_true rfl) rfl rfl W93s_4 ?_
  have hz := Option.some.inj hf
  subst hz
  exact Z.vret hJ dX12_must_45 rfl (Nat.le_refl _) (Nat.le_refl _) ⟨rfl, rfl⟩
def fX12_must_21 (s0 : Int32) (h : HT) : Option (Int32 × HT) :=
  Option.bind (cb s0) fun u2 =>
  if ((hu h 93 6 s0) 93 6) = 0 then (fX12_must_41 1 ((hu h 93 6 s0) 93 4) (hu h 93 6 s0))
  else (fX12_must_41 0 ((hu h 93 6 s0) 93 4) (hu h 93 6 s0))
set_option maxHeartbeats 4000000 in
theorem zX12_must_21 {g : GP} {a : Nat → Nat} {P : PT} {J : JT} {z : Int32 × HT} (hJ : JX g 2 0 0 (PoV g a P z) J) (s0 : Int32) (h : HT) (hf : fX12_must_21 s0 h = some z) : Z g mX12_must J 0 0 21 [some (.ref (a 93)), none] [.int s0, .ref (a 93)] (WD g a h P) := by
  unfold fX12_must_21 at hf
  obtain ⟨u2, eu2, hf⟩ := Option.bind_eq_some_iff.mp hf
  refine Z.putf (n := 24) pX12_60 dX12_must_21 rfl W93 (Nat.le_of_ble_eq_true rfl) (cb_nar eu2) (cb_fit eu2) W93s_6 ?_
  refine Z.aload_n (n := 25) dX12_must_24 rfl rfl ?_
  refine Z.dup (n := 26) dX12_must_25 rfl rfl ?_
  refine Z.getf (n := 29) fX12_54 dX12_must_26 rfl W93 rfl ?_
  refine Z.aload_n (n := 30) dX12_must_29 rfl rfl ?_
  refine Z.getf (n := 33) fX12_60 dX12_must_30 rfl W93 rfl ?_
  refine Z.if_eq (tgt := 40) (n := 36) dX12_must_33 rfl rfl (fun c3 => ?_) (fun c3 => ?_)
  · rw [if_pos c3] at hf
    refine Z.iconst (n := 41) (v := 1) dX12_must_40 rfl (by decide +kernel) ?_
    refine Z.fg [0] ?_
    exact zX12_must_41 hJ _ _ _ hf
  · rw [if_neg c3] at hf
    refine Z.iconst (n := 37) (v := 0) dX12_must_36 rfl (by decide +kernel) ?_
    refine Z.goto (tgt := 41) dX12_must_37 rfl ?_
    refine Z.fg [0] ?_
    exact zX12_must_41 hJ _ _ _ hf
def fX12_must_16 (h : HT) : Option (Int32 × HT) :=
  fX12_must_21 1 h
set_option maxHeartbeats 4000000 in
theorem zX12_must_16 {g : GP} {a : Nat → Nat} {P : PT} {J : JT} {z : Int32 × HT} (hJ : JX g 2 0 0 (PoV g a P z) J) (h : HT) (hf : fX12_must_16 h = some z) : Z g mX12_must J 0 0 16 [some (.ref (a 93)), none] [.ref (a 93)] (WD g a h P) := by
  unfold fX12_must_16 at hf
  refine Z.iconst (n := 17) (v := 1) dX12_must_16 rfl (by decide +kernel) ?_
  refine Z.goto (tgt := 21) dX12_must_17 rfl ?_
  exact zX12_must_21 hJ _ _ hf
def fX12_must (l1 : Int32) (h : HT) : Option (Int32 × HT) :=
  if (h 93 6) = 0 then (Option.bind (fX12_here  h) fun z4 =>
  if z4.1 = l1 then (fX12_must_21 0 z4.2)
  else (fX12_must_16 z4.2))
  else (fX12_must_16 h)
set_option maxHeartbeats 4000000 in
theorem ctX12_must {g : GP} {a : Nat → Nat} {P : PT} {h : HT} {z : Int32 × HT} {l1 : Int32} (hf : fX12_must l1 h = some z) : Ct g 2 0 0 mX12_must [.ref (a 93), .int l1] (WD g a h P) (PoV g a P z) := by
  refine Ct.of (by decide +kernel) (Nat.le_of_ble_eq_true rfl) fun J hJ => ?_
  show Z g mX12_must J 0 0 0 [some (.ref (a 93)), some (.int l1)] [] (WD g a h P)
  unfold fX12_must at hf
  refine Z.aload_n (n := 1) dX12_must_0 rfl rfl ?_
  refine Z.aload_n (n := 2) dX12_must_1 rfl rfl ?_
  refine Z.getf (n := 5) fX12_60 dX12_must_2 rfl W93 rfl ?_
  refine Z.if_ne (tgt := 16) (n := 8) dX12_must_5 rfl rfl (fun c1 => ?_) (fun c1 => ?_)
  · rw [if_neg c1] at hf
    refine Z.fg [1] ?_
    exact zX12_must_16 hJ _ hf
  · rw [if_pos c1] at hf
    refine Z.aload_n (n := 9) dX12_must_8 rfl rfl ?_
    obtain ⟨z4, ez4, hf⟩ := Option.bind_eq_some_iff.mp hf
    refine Z.callV (n := 12) vX12_64 (ctX12_here ez4) hJ.rm (Nat.le_of_ble_eq_true rfl) rfl rfl (Nat.le_refl _) (Nat.le_refl _) rfl W93 rfl rfl (Nat.le_of_ble_eq_true rfl) rfl dX12_must_9 rfl (fun v w hw => ?_)
    obtain ⟨rfl, rfl⟩ := hw
    show Z _ _ _ _ _ _ _ [.int z4.1, .ref (a 93)] _
    refine Z.iload_n (n := 13) dX12_must_12 rfl rfl ?_
    refine Z.icmp_eq (tgt := 20) (n := 16) dX12_must_13 rfl rfl (fun c5 => ?_) (fun c5 => ?_)
    · rw [if_pos c5] at hf
      refine Z.iconst (n := 21) (v := 0) dX12_must_20 rfl (by decide +kernel) ?_
      refine Z.fg [1] ?_
      exact zX12_must_21 hJ _ _ hf
    · rw [if_neg c5] at hf
      refine Z.fg [1] ?_
      exact zX12_must_16 hJ _ hf
def fX12_spells_2 (si : Nat) : Nat → Int32 → HT → Option (Int32 × HT)
  | 0, _, _ => none
  | n + 1, l2, h =>
  Option.bind (fJ0_length_8abf5 si h) fun z1 =>
  if z1.1 ≤ l2 then (some (0, z1.2))
  else (Option.bind (fJ0_charAt_5068e si l2 z1.2) fun z3 =>
  Option.bind (fX12_must z3.1 z3.2) fun z4 =>
  fX12_spells_2 si  n (l2 + 1) z4.2)
set_option maxHeartbeats 4000000 in
theorem zX12_spells_2 {g : GP} {a : Nat → Nat} {P : PT} {J : JT} {z : Int32 × HT} {si : Nat} (hJ : JX g 5 0 0 (PoV g a P z) J) (hsi : si < 18) : ∀ (n : Nat) (l2 : Int32) (h : HT), fX12_spells_2 si n l2 h = some z → Z g mX12_spells J 0 0 2 [some (.ref (a 93)), some (.ref (gK g si)), some (.int l2)] [] (WD g a h P) := by
  intro n
  induction n with
  | zero =>
    intro _ _ hf
    cases hf
  | succ n ih =>
    intro l2 h hf
    unfold fX12_spells_2 at hf
    refine Z.iload_n (n := 3) dX12_spells_2 rfl rfl ?_
    refine Z.aload_n (n := 4) dX12_spells_3 rfl rfl ?_
    obtain ⟨z1, ez1, hf⟩ := Option.bind_eq_some_iff.mp hf
    refine Z.callK (n := 7) vX12_68 (ctJ0_length_8abf5 hsi ez1) hJ.rm (Nat.le_of_ble_eq_true rfl) rfl rfl (Nat.le_refl _) (Nat.le_refl _) rfl hsi rfl rfl (Nat.le_of_ble_eq_true rfl) rfl dX12_spells_4 rfl (fun v w hw => ?_)
    obtain ⟨rfl, rfl⟩ := hw
    show Z _ _ _ _ _ _ _ [.int z1.1, .int l2] _
    refine Z.icmp_ge (tgt := 25) (n := 10) dX12_spells_7 rfl rfl (fun c2 => ?_) (fun c2 => ?_)
    · rw [if_pos c2] at hf
      have hz := Option.some.inj hf
      subst hz
      exact Z.vret hJ dX12_spells_25 rfl (Nat.le_refl _) (Nat.le_refl _) ⟨rfl, rfl⟩
    · rw [if_neg c2] at hf
      refine Z.aload_n (n := 11) dX12_spells_10 rfl rfl ?_
      refine Z.aload_n (n := 12) dX12_spells_11 rfl rfl ?_
      refine Z.iload_n (n := 13) dX12_spells_12 rfl rfl ?_
      obtain ⟨z3, ez3, hf⟩ := Option.bind_eq_some_iff.mp hf
      refine Z.callK (n := 16) vX12_73 (ctJ0_charAt_5068e hsi ez3) hJ.rm (Nat.le_of_ble_eq_true rfl) rfl rfl (Nat.le_refl _) (Nat.le_refl _) rfl hsi rfl rfl (Nat.le_of_ble_eq_true rfl) rfl dX12_spells_13 rfl (fun v w hw => ?_)
      obtain ⟨rfl, rfl⟩ := hw
      show Z _ _ _ _ _ _ _ [.int z3.1, .ref (a 93)] _
      obtain ⟨z4, ez4, hf⟩ := Option.bind_eq_some_iff.mp hf
      refine Z.callV (n := 19) vX12_77 (ctX12_must ez4) hJ.rm (Nat.le_of_ble_eq_true rfl) rfl rfl (Nat.le_refl _) (Nat.le_refl _) rfl W93 rfl rfl (Nat.le_of_ble_eq_true rfl) rfl dX12_spells_16 rfl (fun v w hw => ?_)
      obtain ⟨rfl, rfl⟩ := hw
      show Z _ _ _ _ _ _ _ [] _
      refine Z.iinc (n := 22) (v := l2 + 1) dX12_spells_19 rfl rfl rfl (by decide) rfl ?_
      refine Z.goto (tgt := 2) dX12_spells_22 rfl ?_
      exact ih _ _ hf
def fX12_spells (si : Nat) (h : HT) : Option (Int32 × HT) :=
  fX12_spells_2 si 1000 0 h
set_option maxHeartbeats 4000000 in
theorem ctX12_spells {g : GP} {a : Nat → Nat} {P : PT} {h : HT} {z : Int32 × HT} {si : Nat} (hsi : si < 18) (hf : fX12_spells si h = some z) : Ct g 5 0 0 mX12_spells [.ref (a 93), .ref (gK g si)] (WD g a h P) (PoV g a P z) := by
  refine Ct.of (by decide +kernel) (Nat.le_of_ble_eq_true rfl) fun J hJ => ?_
  show Z g mX12_spells J 0 0 0 [some (.ref (a 93)), some (.ref (gK g si)), none] [] (WD g a h P)
  unfold fX12_spells at hf
  refine Z.iconst (n := 1) (v := 0) dX12_spells_0 rfl (by decide +kernel) ?_
  refine Z.istore_n (n := 2) dX12_spells_1 rfl (by decide) rfl ?_
  exact zX12_spells_2 hJ hsi _ _ _ hf
def fX12_figures_97 (l1 : Int32) (h : HT) : Option (Int32 × HT) :=
  some (l1, h)
set_option maxHeartbeats 4000000 in
theorem zX12_figures_97 {g : GP} {a : Nat → Nat} {P : PT} {J : JT} {z : Int32 × HT} (hJ : JX g 2 0 0 (PoI g a P z) J) (l1 : Int32) (h : HT) (hf : fX12_figures_97 l1 h = some z) : Z g mX12_figures J 0 0 97 [none, some (.int l1), none] [] (WD g a h P) := by
  unfold fX12_figures_97 at hf
  refine Z.iload_n (n := 98) dX12_figures_97 rfl rfl ?_
  have hz := Option.some.inj hf
  subst hz
  exact Z.iret hJ dX12_figures_98 rfl (Nat.le_refl _) (Nat.le_refl _) ⟨rfl, rfl⟩
def fX12_figures_68 (k34_ : Int32 → Int32 → HT → Option (Int32 × HT)) (l1 : Int32) (l2 : Int32) (h : HT) : Option (Int32 × HT) :=
  Option.bind (fX12_here  h) fun z9 =>
  k34_ ((((10 : Int32) * l1) + z9.1) - (48 : Int32)) (l2 + 1) (hu z9.2 93 4 ((z9.2 93 4) + (1 : Int32)))
set_option maxHeartbeats 4000000 in
theorem zX12_figures_68 {g : GP} {a : Nat → Nat} {P : PT} {J : JT} {z : Int32 × HT} {k34_ : Int32 → Int32 → HT → Option (Int32 × HT)} (hJ : JX g 2 0 0 (PoI g a P z) J) (hk34 : ∀ (l1 : Int32) (l2 : Int32) (h : HT), k34_ l1 l2 h = some z → Z g mX12_figures J 0 0 34 [some (.ref (a 93)), some (.int l1), some (.int l2)] [] (WD g a h P)) (l1 : Int32) (l2 : Int32) (h : HT) (hf : fX12_figures_68 k34_ l1 l2 h = some z) : Z g mX12_figures J 0 0 68 [some (.ref (a 93)), some (.int l1), some (.int l2)] [] (WD g a h P) := by
  unfold fX12_figures_68 at hf
  refine Z.bipush (n := 70) (v := 10) dX12_figures_68 rfl (by decide +kernel) ?_
  refine Z.iload_n (n := 71) dX12_figures_70 rfl rfl ?_
  refine Z.imul (n := 72) dX12_figures_71 rfl ?_
  refine Z.aload_n (n := 73) dX12_figures_72 rfl rfl ?_
  obtain ⟨z9, ez9, hf⟩ := Option.bind_eq_some_iff.mp hf
  refine Z.callV (n := 76) vX12_64 (ctX12_here ez9) hJ.rm (Nat.le_of_ble_eq_true rfl) rfl rfl (Nat.le_refl _) (Nat.le_refl _) rfl W93 rfl rfl (Nat.le_of_ble_eq_true rfl) rfl dX12_figures_73 rfl (fun v w hw => ?_)
  obtain ⟨rfl, rfl⟩ := hw
  show Z _ _ _ _ _ _ _ [.int z9.1, .int ((10 : Int32) * l1)] _
  refine Z.iadd (n := 77) dX12_figures_76 rfl ?_
  refine Z.bipush (n := 79) (v := 48) dX12_figures_77 rfl (by decide +kernel) ?_
  refine Z.isub (n := 80) dX12_figures_79 rfl ?_
  refine Z.istore_n (n := 81) dX12_figures_80 rfl (by decide) rfl ?_
  refine Z.aload_n (n := 82) dX12_figures_81 rfl rfl ?_
  refine Z.dup (n := 83) dX12_figures_82 rfl rfl ?_
  refine Z.getf (n := 86) fX12_54 dX12_figures_83 rfl W93 rfl ?_
  refine Z.iconst (n := 87) (v := 1) dX12_figures_86 rfl (by decide +kernel) ?_
  refine Z.iadd (n := 88) dX12_figures_87 rfl ?_
  refine Z.putf (n := 91) pX12_54 dX12_figures_88 rfl W93 (Nat.le_of_ble_eq_true rfl) rfl rfl W93s_4 ?_
  refine Z.iinc (n := 94) (v := l2 + 1) dX12_figures_91 rfl rfl rfl (by decide) rfl ?_
  refine Z.goto (tgt := 34) dX12_figures_94 rfl ?_
  exact hk34 _ _ _ hf
def fX12_figures_34 : Nat → Int32 → Int32 → HT → Option (Int32 × HT)
  | 0, _, _, _ => none
  | n + 1, l1, l2, h =>
  if 3 ≤ l2 then (fX12_figures_97 l1 h)
  else (if (h 93 6) = 0 then (Option.bind (fX12_here  h) fun z5 =>
  Option.bind (fX12_in z5.1 48 57 z5.2) fun z6 =>
  if z6.1 = 0 then (fX12_figures_97 l1 z6.2)
  else (if l2 = 0 then (fX12_figures_68 (fX12_figures_34  n) l1 l2 z6.2)
  else (if l1 ≤ 0 then (fX12_figures_97 l1 z6.2)
  else (fX12_figures_68 (fX12_figures_34  n) l1 l2 z6.2))))
  else (fX12_figures_97 l1 h))
set_option maxHeartbeats 4000000 in
theorem zX12_figures_34 {g : GP} {a : Nat → Nat} {P : PT} {J : JT} {z : Int32 × HT} (hJ : JX g 2 0 0 (PoI g a P z) J) : ∀ (n : Nat) (l1 : Int32) (l2 : Int32) (h : HT), fX12_figures_34 n l1 l2 h = some z → Z g mX12_figures J 0 0 34 [some (.ref (a 93)), some (.int l1), some (.int l2)] [] (WD g a h P) := by
  intro n
  induction n with
  | zero =>
    intro _ _ _ hf
    cases hf
  | succ n ih =>
    intro l1 l2 h hf
    unfold fX12_figures_34 at hf
    refine Z.iload_n (n := 35) dX12_figures_34 rfl rfl ?_
    refine Z.iconst (n := 36) (v := 3) dX12_figures_35 rfl (by decide +kernel) ?_
    refine Z.icmp_ge (tgt := 97) (n := 39) dX12_figures_36 rfl rfl (fun c3 => ?_) (fun c3 => ?_)
    · rw [if_pos c3] at hf
      refine Z.fg [0, 2] ?_
      exact zX12_figures_97 hJ _ _ hf
    · rw [if_neg c3] at hf
      refine Z.aload_n (n := 40) dX12_figures_39 rfl rfl ?_
      refine Z.getf (n := 43) fX12_60 dX12_figures_40 rfl W93 rfl ?_
      refine Z.if_ne (tgt := 97) (n := 46) dX12_figures_43 rfl rfl (fun c4 => ?_) (fun c4 => ?_)
      · rw [if_neg c4] at hf
        refine Z.fg [0, 2] ?_
        exact zX12_figures_97 hJ _ _ hf
      · rw [if_pos c4] at hf
        refine Z.aload_n (n := 47) dX12_figures_46 rfl rfl ?_
        obtain ⟨z5, ez5, hf⟩ := Option.bind_eq_some_iff.mp hf
        refine Z.callV (n := 50) vX12_64 (ctX12_here ez5) hJ.rm (Nat.le_of_ble_eq_true rfl) rfl rfl (Nat.le_refl _) (Nat.le_refl _) rfl W93 rfl rfl (Nat.le_of_ble_eq_true rfl) rfl dX12_figures_47 rfl (fun v w hw => ?_)
        obtain ⟨rfl, rfl⟩ := hw
        show Z _ _ _ _ _ _ _ [.int z5.1] _
        refine Z.bipush (n := 52) (v := 48) dX12_figures_50 rfl (by decide +kernel) ?_
        refine Z.bipush (n := 54) (v := 57) dX12_figures_52 rfl (by decide +kernel) ?_
        obtain ⟨z6, ez6, hf⟩ := Option.bind_eq_some_iff.mp hf
        refine Z.callS (n := 57) vX12_41 (ctX12_in ez6) hJ.rm (Nat.le_of_ble_eq_true rfl) rfl rfl (Nat.le_refl _) (Nat.le_refl _) rfl (Nat.le_of_ble_eq_true rfl) rfl dX12_figures_54 rfl (fun v w hw => ?_)
        obtain ⟨rfl, rfl⟩ := hw
        show Z _ _ _ _ _ _ _ [.int z6.1] _
        refine Z.if_eq (tgt := 97) (n := 60) dX12_figures_57 rfl rfl (fun c7 => ?_) (fun c7 => ?_)
        · rw [if_pos c7] at hf
          refine Z.fg [0, 2] ?_
          exact zX12_figures_97 hJ _ _ hf
        · rw [if_neg c7] at hf
          refine Z.iload_n (n := 61) dX12_figures_60 rfl rfl ?_
          refine Z.if_eq (tgt := 68) (n := 64) dX12_figures_61 rfl rfl (fun c8 => ?_) (fun c8 => ?_)
          · rw [if_pos c8] at hf
            exact zX12_figures_68 hJ ih _ _ _ hf
          · rw [if_neg c8] at hf
            refine Z.iload_n (n := 65) dX12_figures_64 rfl rfl ?_
            refine Z.if_le (tgt := 97) (n := 68) dX12_figures_65 rfl rfl (fun c10 => ?_) (fun c10 => ?_)
            · rw [if_pos c10] at hf
              refine Z.fg [0, 2] ?_
              exact zX12_figures_97 hJ _ _ hf
            · rw [if_neg c10] at hf
              exact zX12_figures_68 hJ ih _ _ _ hf
def fX12_figures_27 (s0 : Int32) (h : HT) : Option (Int32 × HT) :=
  Option.bind (cb s0) fun u2 =>
  fX12_figures_34 1000 0 0 (hu h 93 6 s0)
set_option maxHeartbeats 4000000 in
theorem zX12_figures_27 {g : GP} {a : Nat → Nat} {P : PT} {J : JT} {z : Int32 × HT} (hJ : JX g 2 0 0 (PoI g a P z) J) (s0 : Int32) (h : HT) (hf : fX12_figures_27 s0 h = some z) : Z g mX12_figures J 0 0 27 [some (.ref (a 93)), none, none] [.int s0, .ref (a 93)] (WD g a h P) := by
  unfold fX12_figures_27 at hf
  obtain ⟨u2, eu2, hf⟩ := Option.bind_eq_some_iff.mp hf
  refine Z.putf (n := 30) pX12_60 dX12_figures_27 rfl W93 (Nat.le_of_ble_eq_true rfl) (cb_nar eu2) (cb_fit eu2) W93s_6 ?_
  refine Z.iconst (n := 31) (v := 0) dX12_figures_30 rfl (by decide +kernel) ?_
  refine Z.istore_n (n := 32) dX12_figures_31 rfl (by decide) rfl ?_
  refine Z.iconst (n := 33) (v := 0) dX12_figures_32 rfl (by decide +kernel) ?_
  refine Z.istore_n (n := 34) dX12_figures_33 rfl (by decide) rfl ?_
  exact zX12_figures_34 hJ _ _ _ _ hf
def fX12_figures_22 (h : HT) : Option (Int32 × HT) :=
  fX12_figures_27 1 h
set_option maxHeartbeats 4000000 in
theorem zX12_figures_22 {g : GP} {a : Nat → Nat} {P : PT} {J : JT} {z : Int32 × HT} (hJ : JX g 2 0 0 (PoI g a P z) J) (h : HT) (hf : fX12_figures_22 h = some z) : Z g mX12_figures J 0 0 22 [some (.ref (a 93)), none, none] [.ref (a 93)] (WD g a h P) := by
  unfold fX12_figures_22 at hf
  refine Z.iconst (n := 23) (v := 1) dX12_figures_22 rfl (by decide +kernel) ?_
  refine Z.goto (tgt := 27) dX12_figures_23 rfl ?_
  exact zX12_figures_27 hJ _ _ hf
def fX12_figures (h : HT) : Option (Int32 × HT) :=
  if (h 93 6) = 0 then (Option.bind (fX12_here  h) fun z11 =>
  Option.bind (fX12_in z11.1 48 57 z11.2) fun z12 =>
  if z12.1 = 0 then (fX12_figures_22 z12.2)
  else (fX12_figures_27 0 z12.2))
  else (fX12_figures_22 h)
set_option maxHeartbeats 4000000 in
theorem ctX12_figures {g : GP} {a : Nat → Nat} {P : PT} {h : HT} {z : Int32 × HT} (hf : fX12_figures h = some z) : Ct g 2 0 0 mX12_figures [.ref (a 93)] (WD g a h P) (PoI g a P z) := by
  refine Ct.of (by decide +kernel) (Nat.le_of_ble_eq_true rfl) fun J hJ => ?_
  show Z g mX12_figures J 0 0 0 [some (.ref (a 93)), none, none] [] (WD g a h P)
  unfold fX12_figures at hf
  refine Z.aload_n (n := 1) dX12_figures_0 rfl rfl ?_
  refine Z.aload_n (n := 2) dX12_figures_1 rfl rfl ?_
  refine Z.getf (n := 5) fX12_60 dX12_figures_2 rfl W93 rfl ?_
  refine Z.if_ne (tgt := 22) (n := 8) dX12_figures_5 rfl rfl (fun c1 => ?_) (fun c1 => ?_)
  · rw [if_neg c1] at hf
    exact zX12_figures_22 hJ _ hf
  · rw [if_pos c1] at hf
    refine Z.aload_n (n := 9) dX12_figures_8 rfl rfl ?_
    obtain ⟨z11, ez11, hf⟩ := Option.bind_eq_some_iff.mp hf
    refine Z.callV (n := 12) vX12_64 (ctX12_here ez11) hJ.rm (Nat.le_of_ble_eq_true rfl) rfl rfl (Nat.le_refl _) (Nat.le_refl _) rfl W93 rfl rfl (Nat.le_of_ble_eq_true rfl) rfl dX12_figures_9 rfl (fun v w hw => ?_)
    obtain ⟨rfl, rfl⟩ := hw
    show Z _ _ _ _ _ _ _ [.int z11.1, .ref (a 93)] _
    refine Z.bipush (n := 14) (v := 48) dX12_figures_12 rfl (by decide +kernel) ?_
    refine Z.bipush (n := 16) (v := 57) dX12_figures_14 rfl (by decide +kernel) ?_
    obtain ⟨z12, ez12, hf⟩ := Option.bind_eq_some_iff.mp hf
    refine Z.callS (n := 19) vX12_41 (ctX12_in ez12) hJ.rm (Nat.le_of_ble_eq_true rfl) rfl rfl (Nat.le_refl _) (Nat.le_refl _) rfl (Nat.le_of_ble_eq_true rfl) rfl dX12_figures_16 rfl (fun v w hw => ?_)
    obtain ⟨rfl, rfl⟩ := hw
    show Z _ _ _ _ _ _ _ [.int z12.1, .ref (a 93)] _
    refine Z.if_ne (tgt := 26) (n := 22) dX12_figures_19 rfl rfl (fun c13 => ?_) (fun c13 => ?_)
    · rw [if_neg c13] at hf
      refine Z.iconst (n := 27) (v := 0) dX12_figures_26 rfl (by decide +kernel) ?_
      exact zX12_figures_27 hJ _ _ hf
    · rw [if_pos c13] at hf
      exact zX12_figures_22 hJ _ hf
def fX12_emits_27 (h : HT) : Option (Int32 × HT) :=
  some (0, h)
set_option maxHeartbeats 4000000 in
theorem zX12_emits_27 {g : GP} {a : Nat → Nat} {P : PT} {J : JT} {z : Int32 × HT} (hJ : JX g 1 0 0 (PoV g a P z) J) (h : HT) (hf : fX12_emits_27 h = some z) : Z g mX12_emits J 0 0 27 [none, none] [] (WD g a h P) := by
  unfold fX12_emits_27 at hf
  have hz := Option.some.inj hf
  subst hz
  exact Z.vret hJ dX12_emits_27 rfl (Nat.le_refl _) (Nat.le_refl _) ⟨rfl, rfl⟩
def fX12_emits (l1 : Int32) (h : HT) : Option (Int32 × HT) :=
  if (h 93 6) = 0 then (Option.bind (ck 140 (h 93 10)) fun j2 =>
  fX12_emits_27 (hu (hu h 96 j2 l1) 93 10 (((hu h 96 j2 l1) 93 10) + (1 : Int32))))
  else (fX12_emits_27 h)
set_option maxHeartbeats 4000000 in
theorem ctX12_emits {g : GP} {a : Nat → Nat} {P : PT} {h : HT} {z : Int32 × HT} {l1 : Int32} (hf : fX12_emits l1 h = some z) : Ct g 1 0 0 mX12_emits [.ref (a 93), .int l1] (WD g a h P) (PoV g a P z) := by
  refine Ct.of (by decide +kernel) (Nat.le_of_ble_eq_true rfl) fun J hJ => ?_
  show Z g mX12_emits J 0 0 0 [some (.ref (a 93)), some (.int l1)] [] (WD g a h P)
  unfold fX12_emits at hf
  refine Z.aload_n (n := 1) dX12_emits_0 rfl rfl ?_
  refine Z.getf (n := 4) fX12_60 dX12_emits_1 rfl W93 rfl ?_
  refine Z.if_ne (tgt := 27) (n := 7) dX12_emits_4 rfl rfl (fun c1 => ?_) (fun c1 => ?_)
  · rw [if_neg c1] at hf
    refine Z.fg [0, 1] ?_
    exact zX12_emits_27 hJ _ hf
  · rw [if_pos c1] at hf
    refine Z.aload_n (n := 8) dX12_emits_7 rfl rfl ?_
    refine Z.getf (n := 11) fX12_18 dX12_emits_8 rfl W93 rfl ?_
    refine Z.aload_n (n := 12) dX12_emits_11 rfl rfl ?_
    refine Z.getf (n := 15) fX12_81 dX12_emits_12 rfl W93 rfl ?_
    refine Z.iload_n (n := 16) dX12_emits_15 rfl rfl ?_
    obtain ⟨j2, ej2, hf⟩ := Option.bind_eq_some_iff.mp hf
    obtain ⟨hij2, hlj2⟩ := ck_spec ej2
    refine Z.iast (j := j2) (n := 17) dX12_emits_16 rfl W96 hij2 hlj2 (by decide) W96s ?_
    refine Z.aload_n (n := 18) dX12_emits_17 rfl rfl ?_
    refine Z.dup (n := 19) dX12_emits_18 rfl rfl ?_
    refine Z.getf (n := 22) fX12_81 dX12_emits_19 rfl W93 rfl ?_
    refine Z.iconst (n := 23) (v := 1) dX12_emits_22 rfl (by decide +kernel) ?_
    refine Z.iadd (n := 24) dX12_emits_23 rfl ?_
    refine Z.putf (n := 27) pX12_81 dX12_emits_24 rfl W93 (Nat.le_of_ble_eq_true rfl) rfl rfl W93s_10 ?_
    refine Z.fg [0, 1] ?_
    exact zX12_emits_27 hJ _ hf
def fX12_every_43 (rec_X12_factor : HT → Option (Int32 × HT)) (h : HT) : Option (Int32 × HT) :=
  some (0, h)
set_option maxHeartbeats 4000000 in
theorem zX12_every_43 {g : GP} {a : Nat → Nat} {P : PT} {J : JT} {z : Int32 × HT} {rec_X12_factor : HT → Option (Int32 × HT)} {dr : Nat} (hJ : JX g (dr + 2) 0 0 (PoV g a P z) J) (hrec_X12_factor : ∀ (h : HT) (z : Int32 × HT), rec_X12_factor h = some z → Ct g dr 0 0 mX12_factor [.ref (a 93)] (WD g a h P) (PoV g a P z)) (h : HT) (hf : fX12_every_43 rec_X12_factor h = some z) : Z g mX12_every J 0 0 43 [none] [] (WD g a h P) := by
  unfold fX12_every_43 at hf
  have hz := Option.some.inj hf
  subst hz
  exact Z.vret hJ dX12_every_43 rfl (Nat.le_refl _) (Nat.le_refl _) ⟨rfl, rfl⟩
def fX12_every_4 (rec_X12_factor : HT → Option (Int32 × HT)) : Nat → HT → Option (Int32 × HT)
  | 0, _ => none
  | n + 1, h =>
  if (h 93 6) = 0 then (Option.bind (fX12_here  h) fun z3 =>
  if z3.1 = 38 then (Option.bind (rec_X12_factor  (hu z3.2 93 4 ((z3.2 93 4) + (1 : Int32)))) fun z5 =>
  Option.bind (fX12_emits (-2) z5.2) fun z6 =>
  fX12_every_4 rec_X12_factor  n z6.2)
  else (fX12_every_43 rec_X12_factor z3.2))
  else (fX12_every_43 rec_X12_factor h)
set_option maxHeartbeats 4000000 in
theorem zX12_every_4 {g : GP} {a : Nat → Nat} {P : PT} {J : JT} {z : Int32 × HT} {rec_X12_factor : HT → Option (Int32 × HT)} {dr : Nat} (hJ : JX g (dr + 2) 0 0 (PoV g a P z) J) (hrec_X12_factor : ∀ (h : HT) (z : Int32 × HT), rec_X12_factor h = some z → Ct g dr 0 0 mX12_factor [.ref (a 93)] (WD g a h P) (PoV g a P z)) : ∀ (n : Nat) (h : HT), fX12_every_4 rec_X12_factor n h = some z → Z g mX12_every J 0 0 4 [some (.ref (a 93))] [] (WD g a h P) := by
  intro n
  induction n with
  | zero =>
    intro _ hf
    cases hf
  | succ n ih =>
    intro h hf
    unfold fX12_every_4 at hf
    refine Z.aload_n (n := 5) dX12_every_4 rfl rfl ?_
    refine Z.getf (n := 8) fX12_60 dX12_every_5 rfl W93 rfl ?_
    refine Z.if_ne (tgt := 43) (n := 11) dX12_every_8 rfl rfl (fun c2 => ?_) (fun c2 => ?_)
    · rw [if_neg c2] at hf
      refine Z.fg [0] ?_
      exact zX12_every_43 hJ hrec_X12_factor _ hf
    · rw [if_pos c2] at hf
      refine Z.aload_n (n := 12) dX12_every_11 rfl rfl ?_
      obtain ⟨z3, ez3, hf⟩ := Option.bind_eq_some_iff.mp hf
      refine Z.callV (n := 15) vX12_64 (ctX12_here ez3) hJ.rm (Nat.le_of_ble_eq_true rfl) rfl rfl (Nat.le_refl _) (Nat.le_refl _) rfl W93 rfl rfl (Nat.le_of_ble_eq_true rfl) rfl dX12_every_12 rfl (fun v w hw => ?_)
      obtain ⟨rfl, rfl⟩ := hw
      show Z _ _ _ _ _ _ _ [.int z3.1] _
      refine Z.bipush (n := 17) (v := 38) dX12_every_15 rfl (by decide +kernel) ?_
      refine Z.icmp_ne (tgt := 43) (n := 20) dX12_every_17 rfl rfl (fun c4 => ?_) (fun c4 => ?_)
      · rw [if_neg c4] at hf
        refine Z.fg [0] ?_
        exact zX12_every_43 hJ hrec_X12_factor _ hf
      · rw [if_pos c4] at hf
        refine Z.aload_n (n := 21) dX12_every_20 rfl rfl ?_
        refine Z.dup (n := 22) dX12_every_21 rfl rfl ?_
        refine Z.getf (n := 25) fX12_54 dX12_every_22 rfl W93 rfl ?_
        refine Z.iconst (n := 26) (v := 1) dX12_every_25 rfl (by decide +kernel) ?_
        refine Z.iadd (n := 27) dX12_every_26 rfl ?_
        refine Z.putf (n := 30) pX12_54 dX12_every_27 rfl W93 (Nat.le_of_ble_eq_true rfl) rfl rfl W93s_4 ?_
        refine Z.aload_n (n := 31) dX12_every_30 rfl rfl ?_
        obtain ⟨z5, ez5, hf⟩ := Option.bind_eq_some_iff.mp hf
        refine Z.callV (n := 34) vX12_87 (hrec_X12_factor _ _ ez5) hJ.rm (by omega) rfl rfl (Nat.le_refl _) (Nat.le_refl _) rfl W93 rfl rfl (Nat.le_of_ble_eq_true rfl) rfl dX12_every_31 rfl (fun v w hw => ?_)
        obtain ⟨rfl, rfl⟩ := hw
        show Z _ _ _ _ _ _ _ [] _
        refine Z.aload_n (n := 35) dX12_every_34 rfl rfl ?_
        refine Z.bipush (n := 37) (v := -2) dX12_every_35 rfl (by decide +kernel) ?_
        obtain ⟨z6, ez6, hf⟩ := Option.bind_eq_some_iff.mp hf
        refine Z.callV (n := 40) vX12_90 (ctX12_emits ez6) hJ.rm (Nat.le_of_ble_eq_true rfl) rfl rfl (Nat.le_refl _) (Nat.le_refl _) rfl W93 rfl rfl (Nat.le_of_ble_eq_true rfl) rfl dX12_every_37 rfl (fun v w hw => ?_)
        obtain ⟨rfl, rfl⟩ := hw
        show Z _ _ _ _ _ _ _ [] _
        refine Z.goto (tgt := 4) dX12_every_40 rfl ?_
        exact ih _ hf
def fX12_every (rec_X12_factor : HT → Option (Int32 × HT)) (h : HT) : Option (Int32 × HT) :=
  Option.bind (rec_X12_factor  h) fun z1 =>
  fX12_every_4 rec_X12_factor 1000 z1.2
set_option maxHeartbeats 4000000 in
theorem ctX12_every {g : GP} {a : Nat → Nat} {P : PT} {h : HT} {z : Int32 × HT} {rec_X12_factor : HT → Option (Int32 × HT)} {dr : Nat} (hrec_X12_factor : ∀ (h : HT) (z : Int32 × HT), rec_X12_factor h = some z → Ct g dr 0 0 mX12_factor [.ref (a 93)] (WD g a h P) (PoV g a P z)) (hf : fX12_every rec_X12_factor h = some z) : Ct g (dr + 2) 0 0 mX12_every [.ref (a 93)] (WD g a h P) (PoV g a P z) := by
  refine Ct.of (by decide +kernel) (Nat.le_of_ble_eq_true rfl) fun J hJ => ?_
  show Z g mX12_every J 0 0 0 [some (.ref (a 93))] [] (WD g a h P)
  unfold fX12_every at hf
  refine Z.aload_n (n := 1) dX12_every_0 rfl rfl ?_
  obtain ⟨z1, ez1, hf⟩ := Option.bind_eq_some_iff.mp hf
  refine Z.callV (n := 4) vX12_87 (hrec_X12_factor _ _ ez1) hJ.rm (by omega) rfl rfl (Nat.le_refl _) (Nat.le_refl _) rfl W93 rfl rfl (Nat.le_of_ble_eq_true rfl) rfl dX12_every_1 rfl (fun v w hw => ?_)
  obtain ⟨rfl, rfl⟩ := hw
  show Z _ _ _ _ _ _ _ [] _
  exact zX12_every_4 hJ hrec_X12_factor _ _ hf
def fX12_some_43 (rec_X12_factor : HT → Option (Int32 × HT)) (h : HT) : Option (Int32 × HT) :=
  some (0, h)
set_option maxHeartbeats 4000000 in
theorem zX12_some_43 {g : GP} {a : Nat → Nat} {P : PT} {J : JT} {z : Int32 × HT} {rec_X12_factor : HT → Option (Int32 × HT)} {dr : Nat} (hJ : JX g (dr + 3) 0 0 (PoV g a P z) J) (hrec_X12_factor : ∀ (h : HT) (z : Int32 × HT), rec_X12_factor h = some z → Ct g dr 0 0 mX12_factor [.ref (a 93)] (WD g a h P) (PoV g a P z)) (h : HT) (hf : fX12_some_43 rec_X12_factor h = some z) : Z g mX12_some J 0 0 43 [none] [] (WD g a h P) := by
  unfold fX12_some_43 at hf
  have hz := Option.some.inj hf
  subst hz
  exact Z.vret hJ dX12_some_43 rfl (Nat.le_refl _) (Nat.le_refl _) ⟨rfl, rfl⟩
def fX12_some_4 (rec_X12_factor : HT → Option (Int32 × HT)) : Nat → HT → Option (Int32 × HT)
  | 0, _ => none
  | n + 1, h =>
  if (h 93 6) = 0 then (Option.bind (fX12_here  h) fun z3 =>
  if z3.1 = 124 then (Option.bind (fX12_every rec_X12_factor  (hu z3.2 93 4 ((z3.2 93 4) + (1 : Int32)))) fun z5 =>
  Option.bind (fX12_emits (-3) z5.2) fun z6 =>
  fX12_some_4 rec_X12_factor  n z6.2)
  else (fX12_some_43 rec_X12_factor z3.2))
  else (fX12_some_43 rec_X12_factor h)
set_option maxHeartbeats 4000000 in
theorem zX12_some_4 {g : GP} {a : Nat → Nat} {P : PT} {J : JT} {z : Int32 × HT} {rec_X12_factor : HT → Option (Int32 × HT)} {dr : Nat} (hJ : JX g (dr + 3) 0 0 (PoV g a P z) J) (hrec_X12_factor : ∀ (h : HT) (z : Int32 × HT), rec_X12_factor h = some z → Ct g dr 0 0 mX12_factor [.ref (a 93)] (WD g a h P) (PoV g a P z)) : ∀ (n : Nat) (h : HT), fX12_some_4 rec_X12_factor n h = some z → Z g mX12_some J 0 0 4 [some (.ref (a 93))] [] (WD g a h P) := by
  intro n
  induction n with
  | zero =>
    intro _ hf
    cases hf
  | succ n ih =>
    intro h hf
    unfold fX12_some_4 at hf
    refine Z.aload_n (n := 5) dX12_some_4 rfl rfl ?_
    refine Z.getf (n := 8) fX12_60 dX12_some_5 rfl W93 rfl ?_
    refine Z.if_ne (tgt := 43) (n := 11) dX12_some_8 rfl rfl (fun c2 => ?_) (fun c2 => ?_)
    · rw [if_neg c2] at hf
      refine Z.fg [0] ?_
      exact zX12_some_43 hJ hrec_X12_factor _ hf
    · rw [if_pos c2] at hf
      refine Z.aload_n (n := 12) dX12_some_11 rfl rfl ?_
      obtain ⟨z3, ez3, hf⟩ := Option.bind_eq_some_iff.mp hf
      refine Z.callV (n := 15) vX12_64 (ctX12_here ez3) hJ.rm (Nat.le_of_ble_eq_true rfl) rfl rfl (Nat.le_refl _) (Nat.le_refl _) rfl W93 rfl rfl (Nat.le_of_ble_eq_true rfl) rfl dX12_some_12 rfl (fun v w hw => ?_)
      obtain ⟨rfl, rfl⟩ := hw
      show Z _ _ _ _ _ _ _ [.int z3.1] _
      refine Z.bipush (n := 17) (v := 124) dX12_some_15 rfl (by decide +kernel) ?_
      refine Z.icmp_ne (tgt := 43) (n := 20) dX12_some_17 rfl rfl (fun c4 => ?_) (fun c4 => ?_)
      · rw [if_neg c4] at hf
        refine Z.fg [0] ?_
        exact zX12_some_43 hJ hrec_X12_factor _ hf
      · rw [if_pos c4] at hf
        refine Z.aload_n (n := 21) dX12_some_20 rfl rfl ?_
        refine Z.dup (n := 22) dX12_some_21 rfl rfl ?_
        refine Z.getf (n := 25) fX12_54 dX12_some_22 rfl W93 rfl ?_
        refine Z.iconst (n := 26) (v := 1) dX12_some_25 rfl (by decide +kernel) ?_
        refine Z.iadd (n := 27) dX12_some_26 rfl ?_
        refine Z.putf (n := 30) pX12_54 dX12_some_27 rfl W93 (Nat.le_of_ble_eq_true rfl) rfl rfl W93s_4 ?_
        refine Z.aload_n (n := 31) dX12_some_30 rfl rfl ?_
        obtain ⟨z5, ez5, hf⟩ := Option.bind_eq_some_iff.mp hf
        refine Z.callV (n := 34) vX12_99 (ctX12_every hrec_X12_factor ez5) hJ.rm (by omega) rfl rfl (Nat.le_refl _) (Nat.le_refl _) rfl W93 rfl rfl (Nat.le_of_ble_eq_true rfl) rfl dX12_some_31 rfl (fun v w hw => ?_)
        obtain ⟨rfl, rfl⟩ := hw
        show Z _ _ _ _ _ _ _ [] _
        refine Z.aload_n (n := 35) dX12_some_34 rfl rfl ?_
        refine Z.bipush (n := 37) (v := -3) dX12_some_35 rfl (by decide +kernel) ?_
        obtain ⟨z6, ez6, hf⟩ := Option.bind_eq_some_iff.mp hf
        refine Z.callV (n := 40) vX12_90 (ctX12_emits ez6) hJ.rm (Nat.le_of_ble_eq_true rfl) rfl rfl (Nat.le_refl _) (Nat.le_refl _) rfl W93 rfl rfl (Nat.le_of_ble_eq_true rfl) rfl dX12_some_37 rfl (fun v w hw => ?_)
        obtain ⟨rfl, rfl⟩ := hw
        show Z _ _ _ _ _ _ _ [] _
        refine Z.goto (tgt := 4) dX12_some_40 rfl ?_
        exact ih _ hf
def fX12_some (rec_X12_factor : HT → Option (Int32 × HT)) (h : HT) : Option (Int32 × HT) :=
  Option.bind (fX12_every rec_X12_factor  h) fun z1 =>
  fX12_some_4 rec_X12_factor 1000 z1.2
set_option maxHeartbeats 4000000 in
theorem ctX12_some {g : GP} {a : Nat → Nat} {P : PT} {h : HT} {z : Int32 × HT} {rec_X12_factor : HT → Option (Int32 × HT)} {dr : Nat} (hrec_X12_factor : ∀ (h : HT) (z : Int32 × HT), rec_X12_factor h = some z → Ct g dr 0 0 mX12_factor [.ref (a 93)] (WD g a h P) (PoV g a P z)) (hf : fX12_some rec_X12_factor h = some z) : Ct g (dr + 3) 0 0 mX12_some [.ref (a 93)] (WD g a h P) (PoV g a P z) := by
  refine Ct.of (by decide +kernel) (Nat.le_of_ble_eq_true rfl) fun J hJ => ?_
  show Z g mX12_some J 0 0 0 [some (.ref (a 93))] [] (WD g a h P)
  unfold fX12_some at hf
  refine Z.aload_n (n := 1) dX12_some_0 rfl rfl ?_
  obtain ⟨z1, ez1, hf⟩ := Option.bind_eq_some_iff.mp hf
  refine Z.callV (n := 4) vX12_99 (ctX12_every hrec_X12_factor ez1) hJ.rm (by omega) rfl rfl (Nat.le_refl _) (Nat.le_refl _) rfl W93 rfl rfl (Nat.le_of_ble_eq_true rfl) rfl dX12_some_1 rfl (fun v w hw => ?_)
  obtain ⟨rfl, rfl⟩ := hw
  show Z _ _ _ _ _ _ _ [] _
  exact zX12_some_4 hJ hrec_X12_factor _ _ hf
def fX12_factorb_101 (rec_X12_factor : HT → Option (Int32 × HT)) (h : HT) : Option (Int32 × HT) :=
  some (0, hu h 93 7 ((h 93 7) - (1 : Int32)))
set_option maxHeartbeats 4000000 in
theorem zX12_factorb_101 {g : GP} {a : Nat → Nat} {P : PT} {J : JT} {z : Int32 × HT} {rec_X12_factor : HT → Option (Int32 × HT)} {dr : Nat} (hJ : JX g (dr + 4) 0 0 (PoV g a P z) J) (hrec_X12_factor : ∀ (h : HT) (z : Int32 × HT), rec_X12_factor h = some z → Ct g dr 0 0 mX12_factor [.ref (a 93)] (WD g a h P) (PoV g a P z)) (h : HT) (hf : fX12_factorb_101 rec_X12_factor h = some z) : Z g mX12_factor J 0 0 101 [some (.ref (a 93)), none, none, none] [] (WD g a h P) := by
  unfold fX12_factorb_101 at hf
  refine Z.aload_n (n := 102) dX12_factor_101 rfl rfl ?_
  refine Z.dup (n := 103) dX12_factor_102 rfl rfl ?_
  refine Z.getf (n := 106) fX12_84 dX12_factor_103 rfl W93 rfl ?_
  refine Z.iconst (n := 107) (v := 1) dX12_factor_106 rfl (by decide +kernel) ?_
  refine Z.isub (n := 108) dX12_factor_107 rfl ?_
  refine Z.putf (n := 111) pX12_84 dX12_factor_108 rfl W93 (Nat.le_of_ble_eq_true rfl) rfl rfl W93s_7 ?_
  have hz := Option.some.inj hf
  subst hz
  exact Z.vret hJ dX12_factor_111 rfl (Nat.le_refl _) (Nat.le_refl _) ⟨rfl, rfl⟩
def fX12_factorb_69 (rec_X12_factor : HT → Option (Int32 × HT)) (l1 : Int32) (s0 : Int32) (s1 : Int32) (h : HT) : Option (Int32 × HT) :=
  if l1 = 33 then (Option.bind (rec_X12_factor  (hu h 93 4 (s1 + s0))) fun z10 =>
  Option.bind (fX12_emits (-1) z10.2) fun z11 =>
  fX12_factorb_101 rec_X12_factor z11.2)
  else (Option.bind (fX12_some rec_X12_factor  (hu h 93 4 (s1 + s0))) fun z8 =>
  Option.bind (fX12_must 41 z8.2) fun z9 =>
  fX12_factorb_101 rec_X12_factor z9.2)
set_option maxHeartbeats 4000000 in
theorem zX12_factorb_69 {g : GP} {a : Nat → Nat} {P : PT} {J : JT} {z : Int32 × HT} {rec_X12_factor : HT → Option (Int32 × HT)} {dr : Nat} (hJ : JX g (dr + 4) 0 0 (PoV g a P z) J) (hrec_X12_factor : ∀ (h : HT) (z : Int32 × HT), rec_X12_factor h = some z → Ct g dr 0 0 mX12_factor [.ref (a 93)] (WD g a h P) (PoV g a P z)) (l1 : Int32) (s0 : Int32) (s1 : Int32) (h : HT) (hf : fX12_factorb_69 rec_X12_factor l1 s0 s1 h = some z) : Z g mX12_factor J 0 0 69 [some (.ref (a 93)), some (.int l1), none, none] [.int s0, .int s1, .ref (a 93)] (WD g a h P) := by
  unfold fX12_factorb_69 at hf
  refine Z.iadd (n := 70) dX12_factor_69 rfl ?_
  refine Z.putf (n := 73) pX12_54 dX12_factor_70 rfl W93 (Nat.le_of_ble_eq_true rfl) rfl rfl W93s_4 ?_
  refine Z.iload_n (n := 74) dX12_factor_73 rfl rfl ?_
  refine Z.bipush (n := 76) (v := 33) dX12_factor_74 rfl (by decide +kernel) ?_
  refine Z.icmp_ne (tgt := 91) (n := 79) dX12_factor_76 rfl rfl (fun c7 => ?_) (fun c7 => ?_)
  · rw [if_neg c7] at hf
    refine Z.aload_n (n := 92) dX12_factor_91 rfl rfl ?_
    obtain ⟨z8, ez8, hf⟩ := Option.bind_eq_some_iff.mp hf
    refine Z.callV (n := 95) vX12_93 (ctX12_some hrec_X12_factor ez8) hJ.rm (by omega) rfl rfl (Nat.le_refl _) (Nat.le_refl _) rfl W93 rfl rfl (Nat.le_of_ble_eq_true rfl) rfl dX12_factor_92 rfl (fun v w hw => ?_)
    obtain ⟨rfl, rfl⟩ := hw
    show Z _ _ _ _ _ _ _ [] _
    refine Z.aload_n (n := 96) dX12_factor_95 rfl rfl ?_
    refine Z.bipush (n := 98) (v := 41) dX12_factor_96 rfl (by decide +kernel) ?_
    obtain ⟨z9, ez9, hf⟩ := Option.bind_eq_some_iff.mp hf
    refine Z.callV (n := 101) vX12_77 (ctX12_must ez9) hJ.rm (Nat.le_of_ble_eq_true rfl) rfl rfl (Nat.le_refl _) (Nat.le_refl _) rfl W93 rfl rfl (Nat.le_of_ble_eq_true rfl) rfl dX12_factor_98 rfl (fun v w hw => ?_)
    obtain ⟨rfl, rfl⟩ := hw
    show Z _ _ _ _ _ _ _ [] _
    refine Z.fg [1] ?_
    exact zX12_factorb_101 hJ hrec_X12_factor _ hf
  · rw [if_pos c7] at hf
    refine Z.aload_n (n := 80) dX12_factor_79 rfl rfl ?_
    obtain ⟨z10, ez10, hf⟩ := Option.bind_eq_some_iff.mp hf
    refine Z.callV (n := 83) vX12_87 (hrec_X12_factor _ _ ez10) hJ.rm (by omega) rfl rfl (Nat.le_refl _) (Nat.le_refl _) rfl W93 rfl rfl (Nat.le_of_ble_eq_true rfl) rfl dX12_factor_80 rfl (fun v w hw => ?_)
    obtain ⟨rfl, rfl⟩ := hw
    show Z _ _ _ _ _ _ _ [] _
    refine Z.aload_n (n := 84) dX12_factor_83 rfl rfl ?_
    refine Z.iconst (n := 85) (v := -1) dX12_factor_84 rfl (by decide +kernel) ?_
    obtain ⟨z11, ez11, hf⟩ := Option.bind_eq_some_iff.mp hf
    refine Z.callV (n := 88) vX12_90 (ctX12_emits ez11) hJ.rm (Nat.le_of_ble_eq_true rfl) rfl rfl (Nat.le_refl _) (Nat.le_refl _) rfl W93 rfl rfl (Nat.le_of_ble_eq_true rfl) rfl dX12_factor_85 rfl (fun v w hw => ?_)
    obtain ⟨rfl, rfl⟩ := hw
    show Z _ _ _ _ _ _ _ [] _
    refine Z.goto (tgt := 101) dX12_factor_88 rfl ?_
    refine Z.fg [1] ?_
    exact zX12_factorb_101 hJ hrec_X12_factor _ hf
def fX12_factorb_39 (rec_X12_factor : HT → Option (Int32 × HT)) (l1 : Int32) (s0 : Int32) (h : HT) : Option (Int32 × HT) :=
  Option.bind (cb s0) fun u5 =>
  if ((hu (hu h 93 6 s0) 93 7 (((hu h 93 6 s0) 93 7) + (1 : Int32))) 93 6) = 0 then (fX12_factorb_69 rec_X12_factor l1 1 ((hu (hu h 93 6 s0) 93 7 (((hu h 93 6 s0) 93 7) + (1 : Int32))) 93 4) (hu (hu h 93 6 s0) 93 7 (((hu h 93 6 s0) 93 7) + (1 : Int32))))
  else (fX12_factorb_69 rec_X12_factor l1 0 ((hu (hu h 93 6 s0) 93 7 (((hu h 93 6 s0) 93 7) + (1 : Int32))) 93 4) (hu (hu h 93 6 s0) 93 7 (((hu h 93 6 s0) 93 7) + (1 : Int32))))
set_option maxHeartbeats 4000000 in
theorem zX12_factorb_39 {g : GP} {a : Nat → Nat} {P : PT} {J : JT} {z : Int32 × HT} {rec_X12_factor : HT → Option (Int32 × HT)} {dr : Nat} (hJ : JX g (dr + 4) 0 0 (PoV g a P z) J) (hrec_X12_factor : ∀ (h : HT) (z : Int32 × HT), rec_X12_factor h = some z → Ct g dr 0 0 mX12_factor [.ref (a 93)] (WD g a h P) (PoV g a P z)) (l1 : Int32) (s0 : Int32) (h : HT) (hf : fX12_factorb_39 rec_X12_factor l1 s0 h = some z) : Z g mX12_factor J 0 0 39 [some (.ref (a 93)), some (.int l1), none, none] [.int s0, .ref (a 93)] (WD g a h P) := by
  unfold fX12_factorb_39 at hf
  obtain ⟨u5, eu5, hf⟩ := Option.bind_eq_some_iff.mp hf
  refine Z.putf (n := 42) pX12_60 dX12_factor_39 rfl W93 (Nat.le_of_ble_eq_true rfl) (cb_nar eu5) (cb_fit eu5) W93s_6 ?_
  refine Z.aload_n (n := 43) dX12_factor_42 rfl rfl ?_
  refine Z.dup (n := 44) dX12_factor_43 rfl rfl ?_
  refine Z.getf (n := 47) fX12_84 dX12_factor_44 rfl W93 rfl ?_
  refine Z.iconst (n := 48) (v := 1) dX12_factor_47 rfl (by decide +kernel) ?_
  refine Z.iadd (n := 49) dX12_factor_48 rfl ?_
  refine Z.putf (n := 52) pX12_84 dX12_factor_49 rfl W93 (Nat.le_of_ble_eq_true rfl) rfl rfl W93s_7 ?_
  refine Z.aload_n (n := 53) dX12_factor_52 rfl rfl ?_
  refine Z.dup (n := 54) dX12_factor_53 rfl rfl ?_
  refine Z.getf (n := 57) fX12_54 dX12_factor_54 rfl W93 rfl ?_
  refine Z.aload_n (n := 58) dX12_factor_57 rfl rfl ?_
  refine Z.getf (n := 61) fX12_60 dX12_factor_58 rfl W93 rfl ?_
  refine Z.if_eq (tgt := 68) (n := 64) dX12_factor_61 rfl rfl (fun c6 => ?_) (fun c6 => ?_)
  · rw [if_pos c6] at hf
    refine Z.iconst (n := 69) (v := 1) dX12_factor_68 rfl (by decide +kernel) ?_
    exact zX12_factorb_69 hJ hrec_X12_factor _ _ _ _ hf
  · rw [if_neg c6] at hf
    refine Z.iconst (n := 65) (v := 0) dX12_factor_64 rfl (by decide +kernel) ?_
    refine Z.goto (tgt := 69) dX12_factor_65 rfl ?_
    exact zX12_factorb_69 hJ hrec_X12_factor _ _ _ _ hf
def fX12_factorb_25 (rec_X12_factor : HT → Option (Int32 × HT)) (l1 : Int32) (h : HT) : Option (Int32 × HT) :=
  if (h 93 7) = 5 then (fX12_factorb_39 rec_X12_factor l1 1 h)
  else (fX12_factorb_39 rec_X12_factor l1 0 h)
set_option maxHeartbeats 4000000 in
theorem zX12_factorb_25 {g : GP} {a : Nat → Nat} {P : PT} {J : JT} {z : Int32 × HT} {rec_X12_factor : HT → Option (Int32 × HT)} {dr : Nat} (hJ : JX g (dr + 4) 0 0 (PoV g a P z) J) (hrec_X12_factor : ∀ (h : HT) (z : Int32 × HT), rec_X12_factor h = some z → Ct g dr 0 0 mX12_factor [.ref (a 93)] (WD g a h P) (PoV g a P z)) (l1 : Int32) (h : HT) (hf : fX12_factorb_25 rec_X12_factor l1 h = some z) : Z g mX12_factor J 0 0 25 [some (.ref (a 93)), some (.int l1), none, none] [] (WD g a h P) := by
  unfold fX12_factorb_25 at hf
  refine Z.aload_n (n := 26) dX12_factor_25 rfl rfl ?_
  refine Z.aload_n (n := 27) dX12_factor_26 rfl rfl ?_
  refine Z.getf (n := 30) fX12_84 dX12_factor_27 rfl W93 rfl ?_
  refine Z.iconst (n := 31) (v := 5) dX12_factor_30 rfl (by decide +kernel) ?_
  refine Z.icmp_ne (tgt := 38) (n := 34) dX12_factor_31 rfl rfl (fun c4 => ?_) (fun c4 => ?_)
  · rw [if_neg c4] at hf
    refine Z.iconst (n := 39) (v := 0) dX12_factor_38 rfl (by decide +kernel) ?_
    exact zX12_factorb_39 hJ hrec_X12_factor _ _ _ hf
  · rw [if_pos c4] at hf
    refine Z.iconst (n := 35) (v := 1) dX12_factor_34 rfl (by decide +kernel) ?_
    refine Z.goto (tgt := 39) dX12_factor_35 rfl ?_
    exact zX12_factorb_39 hJ hrec_X12_factor _ _ _ hf
def fX12_factorb_285 (rec_X12_factor : HT → Option (Int32 × HT)) (l3 : Int32) (s0 : Int32) (s1 : Int32) (s2 : Int32) (h : HT) : Option (Int32 × HT) :=
  Option.bind (fX12_emits ((s2 + (s1 * s0)) + ((16 : Int32) * l3)) h) fun z26 =>
  some (0, z26.2)
set_option maxHeartbeats 4000000 in
theorem zX12_factorb_285 {g : GP} {a : Nat → Nat} {P : PT} {J : JT} {z : Int32 × HT} {rec_X12_factor : HT → Option (Int32 × HT)} {dr : Nat} (hJ : JX g (dr + 4) 0 0 (PoV g a P z) J) (hrec_X12_factor : ∀ (h : HT) (z : Int32 × HT), rec_X12_factor h = some z → Ct g dr 0 0 mX12_factor [.ref (a 93)] (WD g a h P) (PoV g a P z)) (l3 : Int32) (s0 : Int32) (s1 : Int32) (s2 : Int32) (h : HT) (hf : fX12_factorb_285 rec_X12_factor l3 s0 s1 s2 h = some z) : Z g mX12_factor J 0 0 285 [none, none, none, some (.int l3)] [.int s0, .int s1, .int s2, .ref (a 93)] (WD g a h P) := by
  unfold fX12_factorb_285 at hf
  refine Z.imul (n := 286) dX12_factor_285 rfl ?_
  refine Z.iadd (n := 287) dX12_factor_286 rfl ?_
  refine Z.bipush (n := 289) (v := 16) dX12_factor_287 rfl (by decide +kernel) ?_
  refine Z.iload_n (n := 290) dX12_factor_289 rfl rfl ?_
  refine Z.imul (n := 291) dX12_factor_290 rfl ?_
  refine Z.iadd (n := 292) dX12_factor_291 rfl ?_
  obtain ⟨z26, ez26, hf⟩ := Option.bind_eq_some_iff.mp hf
  refine Z.callV (n := 295) vX12_90 (ctX12_emits ez26) hJ.rm (Nat.le_of_ble_eq_true rfl) rfl rfl (Nat.le_refl _) (Nat.le_refl _) rfl W93 rfl rfl (Nat.le_of_ble_eq_true rfl) rfl dX12_factor_292 rfl (fun v w hw => ?_)
  obtain ⟨rfl, rfl⟩ := hw
  show Z _ _ _ _ _ _ _ [] _
  have hz := Option.some.inj hf
  subst hz
  exact Z.vret hJ dX12_factor_295 rfl (Nat.le_refl _) (Nat.le_refl _) ⟨rfl, rfl⟩
def fX12_factorb_263 (rec_X12_factor : HT → Option (Int32 × HT)) (l2 : Int32) (l3 : Int32) (s0 : Int32) (h : HT) : Option (Int32 × HT) :=
  if l2 = 60 then (fX12_factorb_285 rec_X12_factor l3 0 4 s0 h)
  else (if l2 = 61 then (fX12_factorb_285 rec_X12_factor l3 1 4 s0 h)
  else (fX12_factorb_285 rec_X12_factor l3 2 4 s0 h))
set_option maxHeartbeats 4000000 in
theorem zX12_factorb_263 {g : GP} {a : Nat → Nat} {P : PT} {J : JT} {z : Int32 × HT} {rec_X12_factor : HT → Option (Int32 × HT)} {dr : Nat} (hJ : JX g (dr + 4) 0 0 (PoV g a P z) J) (hrec_X12_factor : ∀ (h : HT) (z : Int32 × HT), rec_X12_factor h = some z → Ct g dr 0 0 mX12_factor [.ref (a 93)] (WD g a h P) (PoV g a P z)) (l2 : Int32) (l3 : Int32) (s0 : Int32) (h : HT) (hf : fX12_factorb_263 rec_X12_factor l2 l3 s0 h = some z) : Z g mX12_factor J 0 0 263 [none, none, some (.int l2), some (.int l3)] [.int s0, .ref (a 93)] (WD g a h P) := by
  unfold fX12_factorb_263 at hf
  refine Z.iconst (n := 264) (v := 4) dX12_factor_263 rfl (by decide +kernel) ?_
  refine Z.iload_n (n := 265) dX12_factor_264 rfl rfl ?_
  refine Z.bipush (n := 267) (v := 60) dX12_factor_265 rfl (by decide +kernel) ?_
  refine Z.icmp_ne (tgt := 274) (n := 270) dX12_factor_267 rfl rfl (fun c24 => ?_) (fun c24 => ?_)
  · rw [if_neg c24] at hf
    refine Z.iload_n (n := 275) dX12_factor_274 rfl rfl ?_
    refine Z.bipush (n := 277) (v := 61) dX12_factor_275 rfl (by decide +kernel) ?_
    refine Z.icmp_ne (tgt := 284) (n := 280) dX12_factor_277 rfl rfl (fun c25 => ?_) (fun c25 => ?_)
    · rw [if_neg c25] at hf
      refine Z.iconst (n := 285) (v := 2) dX12_factor_284 rfl (by decide +kernel) ?_
      refine Z.fg [2] ?_
      exact zX12_factorb_285 hJ hrec_X12_factor _ _ _ _ _ hf
    · rw [if_pos c25] at hf
      refine Z.iconst (n := 281) (v := 1) dX12_factor_280 rfl (by decide +kernel) ?_
      refine Z.goto (tgt := 285) dX12_factor_281 rfl ?_
      refine Z.fg [2] ?_
      exact zX12_factorb_285 hJ hrec_X12_factor _ _ _ _ _ hf
  · rw [if_pos c24] at hf
    refine Z.iconst (n := 271) (v := 0) dX12_factor_270 rfl (by decide +kernel) ?_
    refine Z.goto (tgt := 285) dX12_factor_271 rfl ?_
    refine Z.fg [2] ?_
    exact zX12_factorb_285 hJ hrec_X12_factor _ _ _ _ _ hf
def fX12_factorb_222 (rec_X12_factor : HT → Option (Int32 × HT)) (l1 : Int32) (l2 : Int32) (s0 : Int32) (s1 : Int32) (h : HT) : Option (Int32 × HT) :=
  Option.bind (fX12_figures  (hu h 93 4 (s1 + s0))) fun z20 =>
  if l1 = 109 then (fX12_factorb_263 rec_X12_factor l2 z20.1 0 z20.2)
  else (if l1 = 115 then (fX12_factorb_263 rec_X12_factor l2 z20.1 1 z20.2)
  else (if l1 = 111 then (fX12_factorb_263 rec_X12_factor l2 z20.1 2 z20.2)
  else (fX12_factorb_263 rec_X12_factor l2 z20.1 3 z20.2)))
set_option maxHeartbeats 4000000 in
theorem zX12_factorb_222 {g : GP} {a : Nat → Nat} {P : PT} {J : JT} {z : Int32 × HT} {rec_X12_factor : HT → Option (Int32 × HT)} {dr : Nat} (hJ : JX g (dr + 4) 0 0 (PoV g a P z) J) (hrec_X12_factor : ∀ (h : HT) (z : Int32 × HT), rec_X12_factor h = some z → Ct g dr 0 0 mX12_factor [.ref (a 93)] (WD g a h P) (PoV g a P z)) (l1 : Int32) (l2 : Int32) (s0 : Int32) (s1 : Int32) (h : HT) (hf : fX12_factorb_222 rec_X12_factor l1 l2 s0 s1 h = some z) : Z g mX12_factor J 0 0 222 [some (.ref (a 93)), some (.int l1), some (.int l2), none] [.int s0, .int s1, .ref (a 93)] (WD g a h P) := by
  unfold fX12_factorb_222 at hf
  refine Z.iadd (n := 223) dX12_factor_222 rfl ?_
  refine Z.putf (n := 226) pX12_54 dX12_factor_223 rfl W93 (Nat.le_of_ble_eq_true rfl) rfl rfl W93s_4 ?_
  refine Z.aload_n (n := 227) dX12_factor_226 rfl rfl ?_
  obtain ⟨z20, ez20, hf⟩ := Option.bind_eq_some_iff.mp hf
  refine Z.callV (n := 230) vX12_96 (ctX12_figures ez20) hJ.rm (Nat.le_of_ble_eq_true rfl) rfl rfl (Nat.le_refl _) (Nat.le_refl _) rfl W93 rfl rfl (Nat.le_of_ble_eq_true rfl) rfl dX12_factor_227 rfl (fun v w hw => ?_)
  obtain ⟨rfl, rfl⟩ := hw
  show Z _ _ _ _ _ _ _ [.int z20.1] _
  refine Z.istore_n (n := 231) dX12_factor_230 rfl (by decide) rfl ?_
  refine Z.aload_n (n := 232) dX12_factor_231 rfl rfl ?_
  refine Z.iload_n (n := 233) dX12_factor_232 rfl rfl ?_
  refine Z.bipush (n := 235) (v := 109) dX12_factor_233 rfl (by decide +kernel) ?_
  refine Z.icmp_ne (tgt := 242) (n := 238) dX12_factor_235 rfl rfl (fun c21 => ?_) (fun c21 => ?_)
  · rw [if_neg c21] at hf
    refine Z.iload_n (n := 243) dX12_factor_242 rfl rfl ?_
    refine Z.bipush (n := 245) (v := 115) dX12_factor_243 rfl (by decide +kernel) ?_
    refine Z.icmp_ne (tgt := 252) (n := 248) dX12_factor_245 rfl rfl (fun c22 => ?_) (fun c22 => ?_)
    · rw [if_neg c22] at hf
      refine Z.iload_n (n := 253) dX12_factor_252 rfl rfl ?_
      refine Z.bipush (n := 255) (v := 111) dX12_factor_253 rfl (by decide +kernel) ?_
      refine Z.icmp_ne (tgt := 262) (n := 258) dX12_factor_255 rfl rfl (fun c23 => ?_) (fun c23 => ?_)
      · rw [if_neg c23] at hf
        refine Z.iconst (n := 263) (v := 3) dX12_factor_262 rfl (by decide +kernel) ?_
        refine Z.fg [0, 1] ?_
        exact zX12_factorb_263 hJ hrec_X12_factor _ _ _ _ hf
      · rw [if_pos c23] at hf
        refine Z.iconst (n := 259) (v := 2) dX12_factor_258 rfl (by decide +kernel) ?_
        refine Z.goto (tgt := 263) dX12_factor_259 rfl ?_
        refine Z.fg [0, 1] ?_
        exact zX12_factorb_263 hJ hrec_X12_factor _ _ _ _ hf
    · rw [if_pos c22] at hf
      refine Z.iconst (n := 249) (v := 1) dX12_factor_248 rfl (by decide +kernel) ?_
      refine Z.goto (tgt := 263) dX12_factor_249 rfl ?_
      refine Z.fg [0, 1] ?_
      exact zX12_factorb_263 hJ hrec_X12_factor _ _ _ _ hf
  · rw [if_pos c21] at hf
    refine Z.iconst (n := 239) (v := 0) dX12_factor_238 rfl (by decide +kernel) ?_
    refine Z.goto (tgt := 263) dX12_factor_239 rfl ?_
    refine Z.fg [0, 1] ?_
    exact zX12_factorb_263 hJ hrec_X12_factor _ _ _ _ hf
def fX12_factorb_202 (rec_X12_factor : HT → Option (Int32 × HT)) (l1 : Int32) (l2 : Int32) (s0 : Int32) (h : HT) : Option (Int32 × HT) :=
  Option.bind (cb s0) fun u18 =>
  if ((hu h 93 6 s0) 93 6) = 0 then (fX12_factorb_222 rec_X12_factor l1 l2 1 ((hu h 93 6 s0) 93 4) (hu h 93 6 s0))
  else (fX12_factorb_222 rec_X12_factor l1 l2 0 ((hu h 93 6 s0) 93 4) (hu h 93 6 s0))
set_option maxHeartbeats 4000000 in
theorem zX12_factorb_202 {g : GP} {a : Nat → Nat} {P : PT} {J : JT} {z : Int32 × HT} {rec_X12_factor : HT → Option (Int32 × HT)} {dr : Nat} (hJ : JX g (dr + 4) 0 0 (PoV g a P z) J) (hrec_X12_factor : ∀ (h : HT) (z : Int32 × HT), rec_X12_factor h = some z → Ct g dr 0 0 mX12_factor [.ref (a 93)] (WD g a h P) (PoV g a P z)) (l1 : Int32) (l2 : Int32) (s0 : Int32) (h : HT) (hf : fX12_factorb_202 rec_X12_factor l1 l2 s0 h = some z) : Z g mX12_factor J 0 0 202 [some (.ref (a 93)), some (.int l1), some (.int l2), none] [.int s0, .ref (a 93)] (WD g a h P) := by
  unfold fX12_factorb_202 at hf
  obtain ⟨u18, eu18, hf⟩ := Option.bind_eq_some_iff.mp hf
  refine Z.putf (n := 205) pX12_60 dX12_factor_202 rfl W93 (Nat.le_of_ble_eq_true rfl) (cb_nar eu18) (cb_fit eu18) W93s_6 ?_
  refine Z.aload_n (n := 206) dX12_factor_205 rfl rfl ?_
  refine Z.dup (n := 207) dX12_factor_206 rfl rfl ?_
  refine Z.getf (n := 210) fX12_54 dX12_factor_207 rfl W93 rfl ?_
  refine Z.aload_n (n := 211) dX12_factor_210 rfl rfl ?_
  refine Z.getf (n := 214) fX12_60 dX12_factor_211 rfl W93 rfl ?_
  refine Z.if_eq (tgt := 221) (n := 217) dX12_factor_214 rfl rfl (fun c19 => ?_) (fun c19 => ?_)
  · rw [if_pos c19] at hf
    refine Z.iconst (n := 222) (v := 1) dX12_factor_221 rfl (by decide +kernel) ?_
    exact zX12_factorb_222 hJ hrec_X12_factor _ _ _ _ _ hf
  · rw [if_neg c19] at hf
    refine Z.iconst (n := 218) (v := 0) dX12_factor_217 rfl (by decide +kernel) ?_
    refine Z.goto (tgt := 222) dX12_factor_218 rfl ?_
    exact zX12_factorb_222 hJ hrec_X12_factor _ _ _ _ _ hf
def fX12_factorb_197 (rec_X12_factor : HT → Option (Int32 × HT)) (l1 : Int32) (l2 : Int32) (h : HT) : Option (Int32 × HT) :=
  fX12_factorb_202 rec_X12_factor l1 l2 1 h
set_option maxHeartbeats 4000000 in
theorem zX12_factorb_197 {g : GP} {a : Nat → Nat} {P : PT} {J : JT} {z : Int32 × HT} {rec_X12_factor : HT → Option (Int32 × HT)} {dr : Nat} (hJ : JX g (dr + 4) 0 0 (PoV g a P z) J) (hrec_X12_factor : ∀ (h : HT) (z : Int32 × HT), rec_X12_factor h = some z → Ct g dr 0 0 mX12_factor [.ref (a 93)] (WD g a h P) (PoV g a P z)) (l1 : Int32) (l2 : Int32) (h : HT) (hf : fX12_factorb_197 rec_X12_factor l1 l2 h = some z) : Z g mX12_factor J 0 0 197 [some (.ref (a 93)), some (.int l1), some (.int l2), none] [.ref (a 93)] (WD g a h P) := by
  unfold fX12_factorb_197 at hf
  refine Z.iconst (n := 198) (v := 1) dX12_factor_197 rfl (by decide +kernel) ?_
  refine Z.goto (tgt := 202) dX12_factor_198 rfl ?_
  exact zX12_factorb_202 hJ hrec_X12_factor _ _ _ _ hf
def fX12_factorb_201 (rec_X12_factor : HT → Option (Int32 × HT)) (l1 : Int32) (l2 : Int32) (h : HT) : Option (Int32 × HT) :=
  fX12_factorb_202 rec_X12_factor l1 l2 0 h
set_option maxHeartbeats 4000000 in
theorem zX12_factorb_201 {g : GP} {a : Nat → Nat} {P : PT} {J : JT} {z : Int32 × HT} {rec_X12_factor : HT → Option (Int32 × HT)} {dr : Nat} (hJ : JX g (dr + 4) 0 0 (PoV g a P z) J) (hrec_X12_factor : ∀ (h : HT) (z : Int32 × HT), rec_X12_factor h = some z → Ct g dr 0 0 mX12_factor [.ref (a 93)] (WD g a h P) (PoV g a P z)) (l1 : Int32) (l2 : Int32) (h : HT) (hf : fX12_factorb_201 rec_X12_factor l1 l2 h = some z) : Z g mX12_factor J 0 0 201 [some (.ref (a 93)), some (.int l1), some (.int l2), none] [.ref (a 93)] (WD g a h P) := by
  unfold fX12_factorb_201 at hf
  refine Z.iconst (n := 202) (v := 0) dX12_factor_201 rfl (by decide +kernel) ?_
  exact zX12_factorb_202 hJ hrec_X12_factor _ _ _ _ hf
def fX12_factorb_162 (rec_X12_factor : HT → Option (Int32 × HT)) (l1 : Int32) (s0 : Int32) (s1 : Int32) (h : HT) : Option (Int32 × HT) :=
  Option.bind (fX12_here  (hu h 93 4 (s1 + s0))) fun z16 =>
  if (z16.2 93 6) = 0 then (if z16.1 = 60 then (fX12_factorb_201 rec_X12_factor l1 z16.1 z16.2)
  else (if z16.1 = 61 then (fX12_factorb_201 rec_X12_factor l1 z16.1 z16.2)
  else (if z16.1 = 62 then (fX12_factorb_201 rec_X12_factor l1 z16.1 z16.2)
  else (fX12_factorb_197 rec_X12_factor l1 z16.1 z16.2))))
  else (fX12_factorb_197 rec_X12_factor l1 z16.1 z16.2)
set_option maxHeartbeats 4000000 in
theorem zX12_factorb_162 {g : GP} {a : Nat → Nat} {P : PT} {J : JT} {z : Int32 × HT} {rec_X12_factor : HT → Option (Int32 × HT)} {dr : Nat} (hJ : JX g (dr + 4) 0 0 (PoV g a P z) J) (hrec_X12_factor : ∀ (h : HT) (z : Int32 × HT), rec_X12_factor h = some z → Ct g dr 0 0 mX12_factor [.ref (a 93)] (WD g a h P) (PoV g a P z)) (l1 : Int32) (s0 : Int32) (s1 : Int32) (h : HT) (hf : fX12_factorb_162 rec_X12_factor l1 s0 s1 h = some z) : Z g mX12_factor J 0 0 162 [some (.ref (a 93)), some (.int l1), none, none] [.int s0, .int s1, .ref (a 93)] (WD g a h P) := by
  unfold fX12_factorb_162 at hf
  refine Z.iadd (n := 163) dX12_factor_162 rfl ?_
  refine Z.putf (n := 166) pX12_54 dX12_factor_163 rfl W93 (Nat.le_of_ble_eq_true rfl) rfl rfl W93s_4 ?_
  refine Z.aload_n (n := 167) dX12_factor_166 rfl rfl ?_
  obtain ⟨z16, ez16, hf⟩ := Option.bind_eq_some_iff.mp hf
  refine Z.callV (n := 170) vX12_64 (ctX12_here ez16) hJ.rm (Nat.le_of_ble_eq_true rfl) rfl rfl (Nat.le_refl _) (Nat.le_refl _) rfl W93 rfl rfl (Nat.le_of_ble_eq_true rfl) rfl dX12_factor_167 rfl (fun v w hw => ?_)
  obtain ⟨rfl, rfl⟩ := hw
  show Z _ _ _ _ _ _ _ [.int z16.1] _
  refine Z.istore_n (n := 171) dX12_factor_170 rfl (by decide) rfl ?_
  refine Z.aload_n (n := 172) dX12_factor_171 rfl rfl ?_
  refine Z.aload_n (n := 173) dX12_factor_172 rfl rfl ?_
  refine Z.getf (n := 176) fX12_60 dX12_factor_173 rfl W93 rfl ?_
  refine Z.if_ne (tgt := 197) (n := 179) dX12_factor_176 rfl rfl (fun c17 => ?_) (fun c17 => ?_)
  · rw [if_neg c17] at hf
    exact zX12_factorb_197 hJ hrec_X12_factor _ _ _ hf
  · rw [if_pos c17] at hf
    refine Z.iload_n (n := 180) dX12_factor_179 rfl rfl ?_
    refine Z.bipush (n := 182) (v := 60) dX12_factor_180 rfl (by decide +kernel) ?_
    refine Z.icmp_eq (tgt := 201) (n := 185) dX12_factor_182 rfl rfl (fun c27 => ?_) (fun c27 => ?_)
    · rw [if_pos c27] at hf
      exact zX12_factorb_201 hJ hrec_X12_factor _ _ _ hf
    · rw [if_neg c27] at hf
      refine Z.iload_n (n := 186) dX12_factor_185 rfl rfl ?_
      refine Z.bipush (n := 188) (v := 61) dX12_factor_186 rfl (by decide +kernel) ?_
      refine Z.icmp_eq (tgt := 201) (n := 191) dX12_factor_188 rfl rfl (fun c28 => ?_) (fun c28 => ?_)
      · rw [if_pos c28] at hf
        exact zX12_factorb_201 hJ hrec_X12_factor _ _ _ hf
      · rw [if_neg c28] at hf
        refine Z.iload_n (n := 192) dX12_factor_191 rfl rfl ?_
        refine Z.bipush (n := 194) (v := 62) dX12_factor_192 rfl (by decide +kernel) ?_
        refine Z.icmp_eq (tgt := 201) (n := 197) dX12_factor_194 rfl rfl (fun c29 => ?_) (fun c29 => ?_)
        · rw [if_pos c29] at hf
          exact zX12_factorb_201 hJ hrec_X12_factor _ _ _ hf
        · rw [if_neg c29] at hf
          exact zX12_factorb_197 hJ hrec_X12_factor _ _ _ hf
def fX12_factorb_142 (rec_X12_factor : HT → Option (Int32 × HT)) (l1 : Int32) (s0 : Int32) (h : HT) : Option (Int32 × HT) :=
  Option.bind (cb s0) fun u14 =>
  if ((hu h 93 6 s0) 93 6) = 0 then (fX12_factorb_162 rec_X12_factor l1 1 ((hu h 93 6 s0) 93 4) (hu h 93 6 s0))
  else (fX12_factorb_162 rec_X12_factor l1 0 ((hu h 93 6 s0) 93 4) (hu h 93 6 s0))
set_option maxHeartbeats 4000000 in
theorem zX12_factorb_142 {g : GP} {a : Nat → Nat} {P : PT} {J : JT} {z : Int32 × HT} {rec_X12_factor : HT → Option (Int32 × HT)} {dr : Nat} (hJ : JX g (dr + 4) 0 0 (PoV g a P z) J) (hrec_X12_factor : ∀ (h : HT) (z : Int32 × HT), rec_X12_factor h = some z → Ct g dr 0 0 mX12_factor [.ref (a 93)] (WD g a h P) (PoV g a P z)) (l1 : Int32) (s0 : Int32) (h : HT) (hf : fX12_factorb_142 rec_X12_factor l1 s0 h = some z) : Z g mX12_factor J 0 0 142 [some (.ref (a 93)), some (.int l1), none, none] [.int s0, .ref (a 93)] (WD g a h P) := by
  unfold fX12_factorb_142 at hf
  obtain ⟨u14, eu14, hf⟩ := Option.bind_eq_some_iff.mp hf
  refine Z.putf (n := 145) pX12_60 dX12_factor_142 rfl W93 (Nat.le_of_ble_eq_true rfl) (cb_nar eu14) (cb_fit eu14) W93s_6 ?_
  refine Z.aload_n (n := 146) dX12_factor_145 rfl rfl ?_
  refine Z.dup (n := 147) dX12_factor_146 rfl rfl ?_
  refine Z.getf (n := 150) fX12_54 dX12_factor_147 rfl W93 rfl ?_
  refine Z.aload_n (n := 151) dX12_factor_150 rfl rfl ?_
  refine Z.getf (n := 154) fX12_60 dX12_factor_151 rfl W93 rfl ?_
  refine Z.if_eq (tgt := 161) (n := 157) dX12_factor_154 rfl rfl (fun c15 => ?_) (fun c15 => ?_)
  · rw [if_pos c15] at hf
    refine Z.iconst (n := 162) (v := 1) dX12_factor_161 rfl (by decide +kernel) ?_
    exact zX12_factorb_162 hJ hrec_X12_factor _ _ _ _ hf
  · rw [if_neg c15] at hf
    refine Z.iconst (n := 158) (v := 0) dX12_factor_157 rfl (by decide +kernel) ?_
    refine Z.goto (tgt := 162) dX12_factor_158 rfl ?_
    exact zX12_factorb_162 hJ hrec_X12_factor _ _ _ _ hf
def fX12_factorb_141 (rec_X12_factor : HT → Option (Int32 × HT)) (l1 : Int32) (h : HT) : Option (Int32 × HT) :=
  fX12_factorb_142 rec_X12_factor l1 0 h
set_option maxHeartbeats 4000000 in
theorem zX12_factorb_141 {g : GP} {a : Nat → Nat} {P : PT} {J : JT} {z : Int32 × HT} {rec_X12_factor : HT → Option (Int32 × HT)} {dr : Nat} (hJ : JX g (dr + 4) 0 0 (PoV g a P z) J) (hrec_X12_factor : ∀ (h : HT) (z : Int32 × HT), rec_X12_factor h = some z → Ct g dr 0 0 mX12_factor [.ref (a 93)] (WD g a h P) (PoV g a P z)) (l1 : Int32) (h : HT) (hf : fX12_factorb_141 rec_X12_factor l1 h = some z) : Z g mX12_factor J 0 0 141 [some (.ref (a 93)), some (.int l1), none, none] [.ref (a 93)] (WD g a h P) := by
  unfold fX12_factorb_141 at hf
  refine Z.iconst (n := 142) (v := 0) dX12_factor_141 rfl (by decide +kernel) ?_
  exact zX12_factorb_142 hJ hrec_X12_factor _ _ _ hf
def fX12_factorb (rec_X12_factor : HT → Option (Int32 × HT)) (h : HT) : Option (Int32 × HT) :=
  if (h 93 6) = 0 then (Option.bind (fX12_here  h) fun z2 =>
  if z2.1 = 33 then (fX12_factorb_25 rec_X12_factor z2.1 z2.2)
  else (if z2.1 = 40 then (fX12_factorb_25 rec_X12_factor z2.1 z2.2)
  else (if z2.1 = 109 then (fX12_factorb_141 rec_X12_factor z2.1 z2.2)
  else (if z2.1 = 115 then (fX12_factorb_141 rec_X12_factor z2.1 z2.2)
  else (if z2.1 = 111 then (fX12_factorb_141 rec_X12_factor z2.1 z2.2)
  else (if z2.1 = 107 then (fX12_factorb_141 rec_X12_factor z2.1 z2.2)
  else (fX12_factorb_142 rec_X12_factor z2.1 1 z2.2)))))))
  else (some (0, h))
set_option maxHeartbeats 4000000 in
theorem ctX12_factorb {g : GP} {a : Nat → Nat} {P : PT} {h : HT} {z : Int32 × HT} {rec_X12_factor : HT → Option (Int32 × HT)} {dr : Nat} (hrec_X12_factor : ∀ (h : HT) (z : Int32 × HT), rec_X12_factor h = some z → Ct g dr 0 0 mX12_factor [.ref (a 93)] (WD g a h P) (PoV g a P z)) (hf : fX12_factorb rec_X12_factor h = some z) : Ct g (dr + 4) 0 0 mX12_factor [.ref (a 93)] (WD g a h P) (PoV g a P z) := by
  refine Ct.of (by decide +kernel) (Nat.le_of_ble_eq_true rfl) fun J hJ => ?_
  show Z g mX12_factor J 0 0 0 [some (.ref (a 93)), none, none, none] [] (WD g a h P)
  unfold fX12_factorb at hf
  refine Z.aload_n (n := 1) dX12_factor_0 rfl rfl ?_
  refine Z.getf (n := 4) fX12_60 dX12_factor_1 rfl W93 rfl ?_
  refine Z.if_eq (tgt := 8) (n := 7) dX12_factor_4 rfl rfl (fun c1 => ?_) (fun c1 => ?_)
  · rw [if_pos c1] at hf
    refine Z.aload_n (n := 9) dX12_factor_8 rfl rfl ?_
    obtain ⟨z2, ez2, hf⟩ := Option.bind_eq_some_iff.mp hf
    refine Z.callV (n := 12) vX12_64 (ctX12_here ez2) hJ.rm (Nat.le_of_ble_eq_true rfl) rfl rfl (Nat.le_refl _) (Nat.le_refl _) rfl W93 rfl rfl (Nat.le_of_ble_eq_true rfl) rfl dX12_factor_9 rfl (fun v w hw => ?_)
    obtain ⟨rfl, rfl⟩ := hw
    show Z _ _ _ _ _ _ _ [.int z2.1] _
    refine Z.istore_n (n := 13) dX12_factor_12 rfl (by decide) rfl ?_
    refine Z.iload_n (n := 14) dX12_factor_13 rfl rfl ?_
    refine Z.bipush (n := 16) (v := 33) dX12_factor_14 rfl (by decide +kernel) ?_
    refine Z.icmp_eq (tgt := 25) (n := 19) dX12_factor_16 rfl rfl (fun c3 => ?_) (fun c3 => ?_)
    · rw [if_pos c3] at hf
      exact zX12_factorb_25 hJ hrec_X12_factor _ _ hf
    · rw [if_neg c3] at hf
      refine Z.iload_n (n := 20) dX12_factor_19 rfl rfl ?_
      refine Z.bipush (n := 22) (v := 40) dX12_factor_20 rfl (by decide +kernel) ?_
      refine Z.icmp_ne (tgt := 112) (n := 25) dX12_factor_22 rfl rfl (fun c12 => ?_) (fun c12 => ?_)
      · rw [if_neg c12] at hf
        refine Z.aload_n (n := 113) dX12_factor_112 rfl rfl ?_
        refine Z.iload_n (n := 114) dX12_factor_113 rfl rfl ?_
        refine Z.bipush (n := 116) (v := 109) dX12_factor_114 rfl (by decide +kernel) ?_
        refine Z.icmp_eq (tgt := 141) (n := 119) dX12_factor_116 rfl rfl (fun c13 => ?_) (fun c13 => ?_)
        · rw [if_pos c13] at hf
          exact zX12_factorb_141 hJ hrec_X12_factor _ _ hf
        · rw [if_neg c13] at hf
          refine Z.iload_n (n := 120) dX12_factor_119 rfl rfl ?_
          refine Z.bipush (n := 122) (v := 115) dX12_factor_120 rfl (by decide +kernel) ?_
          refine Z.icmp_eq (tgt := 141) (n := 125) dX12_factor_122 rfl rfl (fun c30 => ?_) (fun c30 => ?_)
          · rw [if_pos c30] at hf
            exact zX12_factorb_141 hJ hrec_X12_factor _ _ hf
          · rw [if_neg c30] at hf
            refine Z.iload_n (n := 126) dX12_factor_125 rfl rfl ?_
            refine Z.bipush (n := 128) (v := 111) dX12_factor_126 rfl (by decide +kernel) ?_
            refine Z.icmp_eq (tgt := 141) (n := 131) dX12_factor_128 rfl rfl (fun c31 => ?_) (fun c31 => ?_)
            · rw [if_pos c31] at hf
              exact zX12_factorb_141 hJ hrec_X12_factor _ _ hf
            · rw [if_neg c31] at hf
              refine Z.iload_n (n := 132) dX12_factor_131 rfl rfl ?_
              refine Z.bipush (n := 134) (v := 107) dX12_factor_132 rfl (by decide +kernel) ?_
              refine Z.icmp_eq (tgt := 141) (n := 137) dX12_factor_134 rfl rfl (fun c32 => ?_) (fun c32 => ?_)
              · rw [if_pos c32] at hf
                exact zX12_factorb_141 hJ hrec_X12_factor _ _ hf
              · rw [if_neg c32] at hf
                refine Z.iconst (n := 138) (v := 1) dX12_factor_137 rfl (by decide +kernel) ?_
                refine Z.goto (tgt := 142) dX12_factor_138 rfl ?_
                exact zX12_factorb_142 hJ hrec_X12_factor _ _ _ hf
      · rw [if_pos c12] at hf
        exact zX12_factorb_25 hJ hrec_X12_factor _ _ hf
  · rw [if_neg c1] at hf
    have hz := Option.some.inj hf
    subst hz
    exact Z.vret hJ dX12_factor_7 rfl (Nat.le_refl _) (Nat.le_refl _) ⟨rfl, rfl⟩
def fX12_factor : Nat → HT → Option (Int32 × HT)
  | 0 => fun  _ => none
  | n + 1 => fX12_factorb (fX12_factor n)
theorem ctX12_factor {g : GP} {a : Nat → Nat} {P : PT} : ∀ n : Nat, ∀ (h : HT) (z : Int32 × HT), fX12_factor n h = some z → Ct g (4 * n) 0 0 mX12_factor [.ref (a 93)] (WD g a h P) (PoV g a P z) := by
  intro n
  induction n with
  | zero => intro  h z hf; cases hf
  | succ n ih => intro  h z hf; exact ctX12_factorb (dr := 4 * n) ih hf
def fX12_tells_32 (si : Nat) (s0 : Int32) (s1 : Int32) (h : HT) : Option (Int32 × HT) :=
  Option.bind (ck 3 s1) fun j4 =>
  some (0, hu h 97 j4 s0)
set_option maxHeartbeats 4000000 in
theorem zX12_tells_32 {g : GP} {a : Nat → Nat} {P : PT} {J : JT} {z : Int32 × HT} {si : Nat} (hJ : JX g 6 0 0 (PoV g a P z) J) (hsi : si < 18) (s0 : Int32) (s1 : Int32) (h : HT) (hf : fX12_tells_32 si s0 s1 h = some z) : Z g mX12_tells J 0 0 32 [none, none, none, none] [.int s0, .int s1, .ref (a 97)] (WD g a h P) := by
  unfold fX12_tells_32 at hf
  obtain ⟨j4, ej4, hf⟩ := Option.bind_eq_some_iff.mp hf
  obtain ⟨hij4, hlj4⟩ := ck_spec ej4
  refine Z.iast (j := j4) (n := 33) dX12_tells_32 rfl W97 hij4 hlj4 (by decide) W97s ?_
  have hz := Option.some.inj hf
  subst hz
  exact Z.vret hJ dX12_tells_33 rfl (Nat.le_refl _) (Nat.le_refl _) ⟨rfl, rfl⟩
def fX12_tells (si : Nat) (l1 : Int32) (h : HT) : Option (Int32 × HT) :=
  Option.bind (fX12_spells si h) fun z1 =>
  Option.bind (fX12_figures  z1.2) fun z2 =>
  if (z2.2 93 6) = 0 then (fX12_tells_32 si z2.1 l1 z2.2)
  else (Option.bind (ck 3 l1) fun j5 =>
  fX12_tells_32 si (z2.2 97 j5) l1 z2.2)
set_option maxHeartbeats 4000000 in
theorem ctX12_tells {g : GP} {a : Nat → Nat} {P : PT} {h : HT} {z : Int32 × HT} {si : Nat} {l1 : Int32} (hsi : si < 18) (hf : fX12_tells si l1 h = some z) : Ct g 6 0 0 mX12_tells [.ref (a 93), .int l1, .ref (gK g si)] (WD g a h P) (PoV g a P z) := by
  refine Ct.of (by decide +kernel) (Nat.le_of_ble_eq_true rfl) fun J hJ => ?_
  show Z g mX12_tells J 0 0 0 [some (.ref (a 93)), some (.int l1), some (.ref (gK g si)), none] [] (WD g a h P)
  unfold fX12_tells at hf
  refine Z.aload_n (n := 1) dX12_tells_0 rfl rfl ?_
  refine Z.aload_n (n := 2) dX12_tells_1 rfl rfl ?_
  obtain ⟨z1, ez1, hf⟩ := Option.bind_eq_some_iff.mp hf
  refine Z.callV (n := 5) vX12_102 (ctX12_spells hsi ez1) hJ.rm (Nat.le_of_ble_eq_true rfl) rfl rfl (Nat.le_refl _) (Nat.le_refl _) rfl W93 rfl rfl (Nat.le_of_ble_eq_true rfl) rfl dX12_tells_2 rfl (fun v w hw => ?_)
  obtain ⟨rfl, rfl⟩ := hw
  show Z _ _ _ _ _ _ _ [] _
  refine Z.aload_n (n := 6) dX12_tells_5 rfl rfl ?_
  obtain ⟨z2, ez2, hf⟩ := Option.bind_eq_some_iff.mp hf
  refine Z.callV (n := 9) vX12_96 (ctX12_figures ez2) hJ.rm (Nat.le_of_ble_eq_true rfl) rfl rfl (Nat.le_refl _) (Nat.le_refl _) rfl W93 rfl rfl (Nat.le_of_ble_eq_true rfl) rfl dX12_tells_6 rfl (fun v w hw => ?_)
  obtain ⟨rfl, rfl⟩ := hw
  show Z _ _ _ _ _ _ _ [.int z2.1] _
  refine Z.istore_n (n := 10) dX12_tells_9 rfl (by decide) rfl ?_
  refine Z.aload_n (n := 11) dX12_tells_10 rfl rfl ?_
  refine Z.getf (n := 14) fX12_21 dX12_tells_11 rfl W93 rfl ?_
  refine Z.iload_n (n := 15) dX12_tells_14 rfl rfl ?_
  refine Z.aload_n (n := 16) dX12_tells_15 rfl rfl ?_
  refine Z.getf (n := 19) fX12_60 dX12_tells_16 rfl W93 rfl ?_
  refine Z.if_eq (tgt := 31) (n := 22) dX12_tells_19 rfl rfl (fun c3 => ?_) (fun c3 => ?_)
  · rw [if_pos c3] at hf
    refine Z.iload_n (n := 32) dX12_tells_31 rfl rfl ?_
    refine Z.fg [0, 1, 2, 3] ?_
    exact zX12_tells_32 hJ hsi _ _ _ hf
  · rw [if_neg c3] at hf
    refine Z.aload_n (n := 23) dX12_tells_22 rfl rfl ?_
    refine Z.getf (n := 26) fX12_21 dX12_tells_23 rfl W93 rfl ?_
    refine Z.iload_n (n := 27) dX12_tells_26 rfl rfl ?_
    obtain ⟨j5, ej5, hf⟩ := Option.bind_eq_some_iff.mp hf
    obtain ⟨hij5, hlj5⟩ := ck_spec ej5
    refine Z.iald (j := j5) (n := 28) dX12_tells_27 rfl W97 hij5 hlj5 (by decide) ?_
    refine Z.goto (tgt := 32) dX12_tells_28 rfl ?_
    refine Z.fg [0, 1, 2, 3] ?_
    exact zX12_tells_32 hJ hsi _ _ _ hf
def fX12_clause_115 (h : HT) : Option (Int32 × HT) :=
  some (0, h)
set_option maxHeartbeats 4000000 in
theorem zX12_clause_115 {g : GP} {a : Nat → Nat} {P : PT} {J : JT} {z : Int32 × HT} (hJ : JX g 36 0 0 (PoV g a P z) J) (h : HT) (hf : fX12_clause_115 h = some z) : Z g mX12_clause J 0 0 115 [none, none] [] (WD g a h P) := by
  unfold fX12_clause_115 at hf
  have hz := Option.some.inj hf
  subst hz
  exact Z.vret hJ dX12_clause_115 rfl (Nat.le_refl _) (Nat.le_refl _) ⟨rfl, rfl⟩
def fX12_clause (h : HT) : Option (Int32 × HT) :=
  Option.bind (fX12_here  h) fun z1 =>
  if z1.1 = 99 then (Option.bind (fX12_spells 14 z1.2) fun z3 =>
  Option.bind (fX12_figures  z3.2) fun z4 =>
  Option.bind (fX12_must 32 z4.2) fun z5 =>
  Option.bind (fX12_some (fX12_factor 8)  z5.2) fun z6 =>
  Option.bind (fX12_emits ((-10 : Int32) - z4.1) z6.2) fun z7 =>
  fX12_clause_115 z7.2)
  else if z1.1 = 108 then (Option.bind (fX12_tells 16 1 z1.2) fun z9 =>
  fX12_clause_115 z9.2)
  else if z1.1 = 116 then (Option.bind (fX12_tells 17 2 z1.2) fun z11 =>
  fX12_clause_115 z11.2)
  else if z1.1 = 119 then (Option.bind (fX12_tells 15 0 z1.2) fun z13 =>
  fX12_clause_115 z13.2)
  else (fX12_clause_115 (hu z1.2 93 6 1))
set_option maxHeartbeats 4000000 in
theorem ctX12_clause {g : GP} {a : Nat → Nat} {P : PT} {h : HT} {z : Int32 × HT} (hf : fX12_clause h = some z) : Ct g 36 0 0 mX12_clause [.ref (a 93)] (WD g a h P) (PoV g a P z) := by
  refine Ct.of (by decide +kernel) (Nat.le_of_ble_eq_true rfl) fun J hJ => ?_
  show Z g mX12_clause J 0 0 0 [some (.ref (a 93)), none] [] (WD g a h P)
  unfold fX12_clause at hf
  refine Z.aload_n (n := 1) dX12_clause_0 rfl rfl ?_
  obtain ⟨z1, ez1, hf⟩ := Option.bind_eq_some_iff.mp hf
  refine Z.callV (n := 4) vX12_64 (ctX12_here ez1) hJ.rm (Nat.le_of_ble_eq_true rfl) rfl rfl (Nat.le_refl _) (Nat.le_refl _) rfl W93 rfl rfl (Nat.le_of_ble_eq_true rfl) rfl dX12_clause_1 rfl (fun v w hw => ?_)
  obtain ⟨rfl, rfl⟩ := hw
  show Z _ _ _ _ _ _ _ [.int z1.1] _
  by_cases c2 : z1.1 = 99
  · rw [if_pos c2] at hf
    refine Z.lsw (off := 44) (tgt := 48) dX12_clause_4 (by decide +kernel) (by rw [c2]; decide +kernel) rfl ?_
    refine Z.aload_n (n := 49) dX12_clause_48 rfl rfl ?_
    refine Z.ldcS (n := 51) (i := 14) dX12_clause_49 rfl rfl ?_
    obtain ⟨z3, ez3, hf⟩ := Option.bind_eq_some_iff.mp hf
    refine Z.callV (n := 54) vX12_102 (ctX12_spells (by decide) ez3) hJ.rm (Nat.le_of_ble_eq_true rfl) rfl rfl (Nat.le_refl _) (Nat.le_refl _) rfl W93 rfl rfl (Nat.le_of_ble_eq_true rfl) rfl dX12_clause_51 rfl (fun v w hw => ?_)
    obtain ⟨rfl, rfl⟩ := hw
    show Z _ _ _ _ _ _ _ [] _
    refine Z.aload_n (n := 55) dX12_clause_54 rfl rfl ?_
    obtain ⟨z4, ez4, hf⟩ := Option.bind_eq_some_iff.mp hf
    refine Z.callV (n := 58) vX12_96 (ctX12_figures ez4) hJ.rm (Nat.le_of_ble_eq_true rfl) rfl rfl (Nat.le_refl _) (Nat.le_refl _) rfl W93 rfl rfl (Nat.le_of_ble_eq_true rfl) rfl dX12_clause_55 rfl (fun v w hw => ?_)
    obtain ⟨rfl, rfl⟩ := hw
    show Z _ _ _ _ _ _ _ [.int z4.1] _
    refine Z.istore_n (n := 59) dX12_clause_58 rfl (by decide) rfl ?_
    refine Z.aload_n (n := 60) dX12_clause_59 rfl rfl ?_
    refine Z.bipush (n := 62) (v := 32) dX12_clause_60 rfl (by decide +kernel) ?_
    obtain ⟨z5, ez5, hf⟩ := Option.bind_eq_some_iff.mp hf
    refine Z.callV (n := 65) vX12_77 (ctX12_must ez5) hJ.rm (Nat.le_of_ble_eq_true rfl) rfl rfl (Nat.le_refl _) (Nat.le_refl _) rfl W93 rfl rfl (Nat.le_of_ble_eq_true rfl) rfl dX12_clause_62 rfl (fun v w hw => ?_)
    obtain ⟨rfl, rfl⟩ := hw
    show Z _ _ _ _ _ _ _ [] _
    refine Z.aload_n (n := 66) dX12_clause_65 rfl rfl ?_
    obtain ⟨z6, ez6, hf⟩ := Option.bind_eq_some_iff.mp hf
    refine Z.callV (n := 69) vX12_93 (ctX12_some (ctX12_factor 8) ez6) hJ.rm (Nat.le_of_ble_eq_true rfl) rfl rfl (Nat.le_refl _) (Nat.le_refl _) rfl W93 rfl rfl (Nat.le_of_ble_eq_true rfl) rfl dX12_clause_66 rfl (fun v w hw => ?_)
    obtain ⟨rfl, rfl⟩ := hw
    show Z _ _ _ _ _ _ _ [] _
    refine Z.aload_n (n := 70) dX12_clause_69 rfl rfl ?_
    refine Z.bipush (n := 72) (v := -10) dX12_clause_70 rfl (by decide +kernel) ?_
    refine Z.iload_n (n := 73) dX12_clause_72 rfl rfl ?_
    refine Z.isub (n := 74) dX12_clause_73 rfl ?_
    obtain ⟨z7, ez7, hf⟩ := Option.bind_eq_some_iff.mp hf
    refine Z.callV (n := 77) vX12_90 (ctX12_emits ez7) hJ.rm (Nat.le_of_ble_eq_true rfl) rfl rfl (Nat.le_refl _) (Nat.le_refl _) rfl W93 rfl rfl (Nat.le_of_ble_eq_true rfl) rfl dX12_clause_74 rfl (fun v w hw => ?_)
    obtain ⟨rfl, rfl⟩ := hw
    show Z _ _ _ _ _ _ _ [] _
    refine Z.goto (tgt := 115) dX12_clause_77 rfl ?_
    refine Z.fg [0, 1] ?_
    exact zX12_clause_115 hJ _ hf
  rw [if_neg c2] at hf
  by_cases c8 : z1.1 = 108
  · rw [if_pos c8] at hf
    refine Z.lsw (off := 86) (tgt := 90) dX12_clause_4 (by decide +kernel) (by rw [c8]; decide +kernel) rfl ?_
    refine Z.aload_n (n := 91) dX12_clause_90 rfl rfl ?_
    refine Z.iconst (n := 92) (v := 1) dX12_clause_91 rfl (by decide +kernel) ?_
    refine Z.ldcS (n := 94) (i := 16) dX12_clause_92 rfl rfl ?_
    obtain ⟨z9, ez9, hf⟩ := Option.bind_eq_some_iff.mp hf
    refine Z.callV (n := 97) vX12_110 (ctX12_tells (by decide) ez9) hJ.rm (Nat.le_of_ble_eq_true rfl) rfl rfl (Nat.le_refl _) (Nat.le_refl _) rfl W93 rfl rfl (Nat.le_of_ble_eq_true rfl) rfl dX12_clause_94 rfl (fun v w hw => ?_)
    obtain ⟨rfl, rfl⟩ := hw
    show Z _ _ _ _ _ _ _ [] _
    refine Z.goto (tgt := 115) dX12_clause_97 rfl ?_
    refine Z.fg [0] ?_
    exact zX12_clause_115 hJ _ hf
  rw [if_neg c8] at hf
  by_cases c10 : z1.1 = 116
  · rw [if_pos c10] at hf
    refine Z.lsw (off := 96) (tgt := 100) dX12_clause_4 (by decide +kernel) (by rw [c10]; decide +kernel) rfl ?_
    refine Z.aload_n (n := 101) dX12_clause_100 rfl rfl ?_
    refine Z.iconst (n := 102) (v := 2) dX12_clause_101 rfl (by decide +kernel) ?_
    refine Z.ldcS (n := 104) (i := 17) dX12_clause_102 rfl rfl ?_
    obtain ⟨z11, ez11, hf⟩ := Option.bind_eq_some_iff.mp hf
    refine Z.callV (n := 107) vX12_110 (ctX12_tells (by decide) ez11) hJ.rm (Nat.le_of_ble_eq_true rfl) rfl rfl (Nat.le_refl _) (Nat.le_refl _) rfl W93 rfl rfl (Nat.le_of_ble_eq_true rfl) rfl dX12_clause_104 rfl (fun v w hw => ?_)
    obtain ⟨rfl, rfl⟩ := hw
    show Z _ _ _ _ _ _ _ [] _
    refine Z.goto (tgt := 115) dX12_clause_107 rfl ?_
    refine Z.fg [0] ?_
    exact zX12_clause_115 hJ _ hf
  rw [if_neg c10] at hf
  by_cases c12 : z1.1 = 119
  · rw [if_pos c12] at hf
    refine Z.lsw (off := 76) (tgt := 80) dX12_clause_4 (by decide +kernel) (by rw [c12]; decide +kernel) rfl ?_
    refine Z.aload_n (n := 81) dX12_clause_80 rfl rfl ?_
    refine Z.iconst (n := 82) (v := 0) dX12_clause_81 rfl (by decide +kernel) ?_
    refine Z.ldcS (n := 84) (i := 15) dX12_clause_82 rfl rfl ?_
    obtain ⟨z13, ez13, hf⟩ := Option.bind_eq_some_iff.mp hf
    refine Z.callV (n := 87) vX12_110 (ctX12_tells (by decide) ez13) hJ.rm (Nat.le_of_ble_eq_true rfl) rfl rfl (Nat.le_refl _) (Nat.le_refl _) rfl W93 rfl rfl (Nat.le_of_ble_eq_true rfl) rfl dX12_clause_84 rfl (fun v w hw => ?_)
    obtain ⟨rfl, rfl⟩ := hw
    show Z _ _ _ _ _ _ _ [] _
    refine Z.goto (tgt := 115) dX12_clause_87 rfl ?_
    refine Z.fg [0] ?_
    exact zX12_clause_115 hJ _ hf
  rw [if_neg c12] at hf
  refine Z.lsw (tgt := 110) (off := 106) dX12_clause_4 (by decide +kernel) (by
    show Op.lookupswitch.offset [(99, 44), (108, 86), (116, 96), (119, 76)] (106) _ = _
    rw [lv_osw (k := 99) c2 (by decide +kernel), lv_osw (k := 108) c8 (by decide +kernel), lv_osw (k := 116) c10 (by decide +kernel), lv_osw (k := 119) c12 (by decide +kernel)]
    rfl) rfl ?_
  refine Z.aload_n (n := 111) dX12_clause_110 rfl rfl ?_
  refine Z.iconst (n := 112) (v := 1) dX12_clause_111 rfl (by decide +kernel) ?_
  refine Z.putf (n := 115) pX12_60 dX12_clause_112 rfl W93 (Nat.le_of_ble_eq_true rfl) rfl rfl W93s_6 ?_
  refine Z.fg [0] ?_
  exact zX12_clause_115 hJ _ hf
def fX12_world_123 (h : HT) : Option (Int32 × HT) :=
  some ((-10 : Int32) - (h 93 4), h)
set_option maxHeartbeats 4000000 in
theorem zX12_world_123 {g : GP} {a : Nat → Nat} {P : PT} {J : JT} {z : Int32 × HT} (hJ : JX g 37 0 0 (PoI g a P z) J) (h : HT) (hf : fX12_world_123 h = some z) : Z g mX12_world J 0 0 123 [some (.ref (a 93)), none, none] [] (WD g a h P) := by
  unfold fX12_world_123 at hf
  refine Z.bipush (n := 125) (v := -10) dX12_world_123 rfl (by decide +kernel) ?_
  refine Z.aload_n (n := 126) dX12_world_125 rfl rfl ?_
  refine Z.getf (n := 129) fX12_54 dX12_world_126 rfl W93 rfl ?_
  refine Z.isub (n := 130) dX12_world_129 rfl ?_
  have hz := Option.some.inj hf
  subst hz
  exact Z.iret hJ dX12_world_130 rfl (Nat.le_refl _) (Nat.le_refl _) ⟨rfl, rfl⟩
def fX12_world_175 : Nat → Int32 → HT → Option (Int32 × HT)
  | 0, _, _ => none
  | n + 1, l2, h =>
  if 3 ≤ l2 then (some ((hu h 94 1 ((h 94 1) + (1 : Int32))) 94 1, hu h 94 1 ((h 94 1) + (1 : Int32))))
  else (Option.bind (ck 3 l2) fun j8 =>
  Option.bind (ck 490 ((6 : Int32) + l2)) fun j9 =>
  fX12_world_175  n (l2 + 1) (hu h 94 j9 (h 97 j8)))
set_option maxHeartbeats 4000000 in
theorem zX12_world_175 {g : GP} {a : Nat → Nat} {P : PT} {J : JT} {z : Int32 × HT} (hJ : JX g 37 0 0 (PoI g a P z) J) : ∀ (n : Nat) (l2 : Int32) (h : HT), fX12_world_175 n l2 h = some z → Z g mX12_world J 0 0 175 [some (.ref (a 93)), none, some (.int l2)] [] (WD g a h P) := by
  intro n
  induction n with
  | zero =>
    intro _ _ hf
    cases hf
  | succ n ih =>
    intro l2 h hf
    unfold fX12_world_175 at hf
    refine Z.iload_n (n := 176) dX12_world_175 rfl rfl ?_
    refine Z.iconst (n := 177) (v := 3) dX12_world_176 rfl (by decide +kernel) ?_
    refine Z.icmp_ge (tgt := 201) (n := 180) dX12_world_177 rfl rfl (fun c7 => ?_) (fun c7 => ?_)
    · rw [if_pos c7] at hf
      refine Z.aload_n (n := 202) dX12_world_201 rfl rfl ?_
      refine Z.getf (n := 205) fX12_9 dX12_world_202 rfl W93 rfl ?_
      refine Z.iconst (n := 206) (v := 1) dX12_world_205 rfl (by decide +kernel) ?_
      refine Z.dup2 (n := 207) dX12_world_206 rfl rfl rfl ?_
      refine Z.iald (j := 1) (n := 208) dX12_world_207 rfl W94 (by decide +kernel) (by decide) (by decide) ?_
      refine Z.iconst (n := 209) (v := 1) dX12_world_208 rfl (by decide +kernel) ?_
      refine Z.iadd (n := 210) dX12_world_209 rfl ?_
      refine Z.iast (j := 1) (n := 211) dX12_world_210 rfl W94 (by decide +kernel) (by decide) (by decide) W94s ?_
      refine Z.aload_n (n := 212) dX12_world_211 rfl rfl ?_
      refine Z.getf (n := 215) fX12_9 dX12_world_212 rfl W93 rfl ?_
      refine Z.iconst (n := 216) (v := 1) dX12_world_215 rfl (by decide +kernel) ?_
      refine Z.iald (j := 1) (n := 217) dX12_world_216 rfl W94 (by decide +kernel) (by decide) (by decide) ?_
      have hz := Option.some.inj hf
      subst hz
      exact Z.iret hJ dX12_world_217 rfl (Nat.le_refl _) (Nat.le_refl _) ⟨rfl, rfl⟩
    · rw [if_neg c7] at hf
      refine Z.aload_n (n := 181) dX12_world_180 rfl rfl ?_
      refine Z.getf (n := 184) fX12_9 dX12_world_181 rfl W93 rfl ?_
      refine Z.bipush (n := 186) (v := 6) dX12_world_184 rfl (by decide +kernel) ?_
      refine Z.iload_n (n := 187) dX12_world_186 rfl rfl ?_
      refine Z.iadd (n := 188) dX12_world_187 rfl ?_
      refine Z.aload_n (n := 189) dX12_world_188 rfl rfl ?_
      refine Z.getf (n := 192) fX12_21 dX12_world_189 rfl W93 rfl ?_
      refine Z.iload_n (n := 193) dX12_world_192 rfl rfl ?_
      obtain ⟨j8, ej8, hf⟩ := Option.bind_eq_some_iff.mp hf
      obtain ⟨hij8, hlj8⟩ := ck_spec ej8
      refine Z.iald (j := j8) (n := 194) dX12_world_193 rfl W97 hij8 hlj8 (by decide) ?_
      obtain ⟨j9, ej9, hf⟩ := Option.bind_eq_some_iff.mp hf
      obtain ⟨hij9, hlj9⟩ := ck_spec ej9
      refine Z.iast (j := j9) (n := 195) dX12_world_194 rfl W94 hij9 hlj9 (by decide) W94s ?_
      refine Z.iinc (n := 198) (v := l2 + 1) dX12_world_195 rfl rfl rfl (by decide) rfl ?_
      refine Z.goto (tgt := 175) dX12_world_198 rfl ?_
      exact ih _ _ hf
def fX12_world_133 : Nat → Int32 → HT → Option (Int32 × HT)
  | 0, _, _ => none
  | n + 1, l2, h =>
  if (h 93 10) ≤ l2 then (fX12_world_175 1000 0 (hu h 94 5 (h 93 10)))
  else (Option.bind (ck 140 l2) fun j10 =>
  Option.bind (ck 490 ((130 : Int32) + l2)) fun j11 =>
  fX12_world_133  n (l2 + 1) (hu h 94 j11 (h 96 j10)))
set_option maxHeartbeats 4000000 in
theorem zX12_world_133 {g : GP} {a : Nat → Nat} {P : PT} {J : JT} {z : Int32 × HT} (hJ : JX g 37 0 0 (PoI g a P z) J) : ∀ (n : Nat) (l2 : Int32) (h : HT), fX12_world_133 n l2 h = some z → Z g mX12_world J 0 0 133 [some (.ref (a 93)), none, some (.int l2)] [] (WD g a h P) := by
  intro n
  induction n with
  | zero =>
    intro _ _ hf
    cases hf
  | succ n ih =>
    intro l2 h hf
    unfold fX12_world_133 at hf
    refine Z.iload_n (n := 134) dX12_world_133 rfl rfl ?_
    refine Z.aload_n (n := 135) dX12_world_134 rfl rfl ?_
    refine Z.getf (n := 138) fX12_81 dX12_world_135 rfl W93 rfl ?_
    refine Z.icmp_ge (tgt := 163) (n := 141) dX12_world_138 rfl rfl (fun c6 => ?_) (fun c6 => ?_)
    · rw [if_pos c6] at hf
      refine Z.aload_n (n := 164) dX12_world_163 rfl rfl ?_
      refine Z.getf (n := 167) fX12_9 dX12_world_164 rfl W93 rfl ?_
      refine Z.iconst (n := 168) (v := 5) dX12_world_167 rfl (by decide +kernel) ?_
      refine Z.aload_n (n := 169) dX12_world_168 rfl rfl ?_
      refine Z.getf (n := 172) fX12_81 dX12_world_169 rfl W93 rfl ?_
      refine Z.iast (j := 5) (n := 173) dX12_world_172 rfl W94 (by decide +kernel) (by decide) (by decide) W94s ?_
      refine Z.iconst (n := 174) (v := 0) dX12_world_173 rfl (by decide +kernel) ?_
      refine Z.istore_n (n := 175) dX12_world_174 rfl (by decide) rfl ?_
      exact zX12_world_175 hJ _ _ _ hf
    · rw [if_neg c6] at hf
      refine Z.aload_n (n := 142) dX12_world_141 rfl rfl ?_
      refine Z.getf (n := 145) fX12_9 dX12_world_142 rfl W93 rfl ?_
      refine Z.sipush (n := 148) (v := 130) dX12_world_145 rfl (by decide +kernel) ?_
      refine Z.iload_n (n := 149) dX12_world_148 rfl rfl ?_
      refine Z.iadd (n := 150) dX12_world_149 rfl ?_
      refine Z.aload_n (n := 151) dX12_world_150 rfl rfl ?_
      refine Z.getf (n := 154) fX12_18 dX12_world_151 rfl W93 rfl ?_
      refine Z.iload_n (n := 155) dX12_world_154 rfl rfl ?_
      obtain ⟨j10, ej10, hf⟩ := Option.bind_eq_some_iff.mp hf
      obtain ⟨hij10, hlj10⟩ := ck_spec ej10
      refine Z.iald (j := j10) (n := 156) dX12_world_155 rfl W96 hij10 hlj10 (by decide) ?_
      obtain ⟨j11, ej11, hf⟩ := Option.bind_eq_some_iff.mp hf
      obtain ⟨hij11, hlj11⟩ := ck_spec ej11
      refine Z.iast (j := j11) (n := 157) dX12_world_156 rfl W94 hij11 hlj11 (by decide) W94s ?_
      refine Z.iinc (n := 160) (v := l2 + 1) dX12_world_157 rfl rfl rfl (by decide) rfl ?_
      refine Z.goto (tgt := 133) dX12_world_160 rfl ?_
      exact ih _ _ hf
def fX12_world_105 (h : HT) : Option (Int32 × HT) :=
  if (h 93 6) = 0 then (if (h 93 4) = (h 93 5) then (fX12_world_133 1000 0 h)
  else (fX12_world_123 h))
  else (fX12_world_123 h)
set_option maxHeartbeats 4000000 in
theorem zX12_world_105 {g : GP} {a : Nat → Nat} {P : PT} {J : JT} {z : Int32 × HT} (hJ : JX g 37 0 0 (PoI g a P z) J) (h : HT) (hf : fX12_world_105 h = some z) : Z g mX12_world J 0 0 105 [some (.ref (a 93)), none, none] [] (WD g a h P) := by
  unfold fX12_world_105 at hf
  refine Z.aload_n (n := 106) dX12_world_105 rfl rfl ?_
  refine Z.getf (n := 109) fX12_60 dX12_world_106 rfl W93 rfl ?_
  refine Z.if_ne (tgt := 123) (n := 112) dX12_world_109 rfl rfl (fun c4 => ?_) (fun c4 => ?_)
  · rw [if_neg c4] at hf
    exact zX12_world_123 hJ _ hf
  · rw [if_pos c4] at hf
    refine Z.aload_n (n := 113) dX12_world_112 rfl rfl ?_
    refine Z.getf (n := 116) fX12_54 dX12_world_113 rfl W93 rfl ?_
    refine Z.aload_n (n := 117) dX12_world_116 rfl rfl ?_
    refine Z.getf (n := 120) fX12_57 dX12_world_117 rfl W93 rfl ?_
    refine Z.icmp_eq (tgt := 131) (n := 123) dX12_world_120 rfl rfl (fun c5 => ?_) (fun c5 => ?_)
    · rw [if_pos c5] at hf
      refine Z.iconst (n := 132) (v := 0) dX12_world_131 rfl (by decide +kernel) ?_
      refine Z.istore_n (n := 133) dX12_world_132 rfl (by decide) rfl ?_
      exact zX12_world_133 hJ _ _ _ hf
    · rw [if_neg c5] at hf
      exact zX12_world_123 hJ _ hf
def fX12_world_63 : Nat → Int32 → HT → Option (Int32 × HT)
  | 0, _, _ => none
  | n + 1, l1, h =>
  if (h 93 6) = 0 then (if 10 ≤ l1 then (fX12_world_105 h)
  else (Option.bind (fX12_here  h) fun z13 =>
  if z13.1 = 59 then (Option.bind (fX12_clause  (hu z13.2 93 4 ((z13.2 93 4) + (1 : Int32)))) fun z15 =>
  fX12_world_63  n (l1 + 1) z15.2)
  else (fX12_world_105 z13.2)))
  else (fX12_world_105 h)
set_option maxHeartbeats 4000000 in
theorem zX12_world_63 {g : GP} {a : Nat → Nat} {P : PT} {J : JT} {z : Int32 × HT} (hJ : JX g 37 0 0 (PoI g a P z) J) : ∀ (n : Nat) (l1 : Int32) (h : HT), fX12_world_63 n l1 h = some z → Z g mX12_world J 0 0 63 [some (.ref (a 93)), some (.int l1), none] [] (WD g a h P) := by
  intro n
  induction n with
  | zero =>
    intro _ _ hf
    cases hf
  | succ n ih =>
    intro l1 h hf
    unfold fX12_world_63 at hf
    refine Z.aload_n (n := 64) dX12_world_63 rfl rfl ?_
    refine Z.getf (n := 67) fX12_60 dX12_world_64 rfl W93 rfl ?_
    refine Z.if_ne (tgt := 105) (n := 70) dX12_world_67 rfl rfl (fun c3 => ?_) (fun c3 => ?_)
    · rw [if_neg c3] at hf
      refine Z.fg [1] ?_
      exact zX12_world_105 hJ _ hf
    · rw [if_pos c3] at hf
      refine Z.iload_n (n := 71) dX12_world_70 rfl rfl ?_
      refine Z.bipush (n := 73) (v := 10) dX12_world_71 rfl (by decide +kernel) ?_
      refine Z.icmp_ge (tgt := 105) (n := 76) dX12_world_73 rfl rfl (fun c12 => ?_) (fun c12 => ?_)
      · rw [if_pos c12] at hf
        refine Z.fg [1] ?_
        exact zX12_world_105 hJ _ hf
      · rw [if_neg c12] at hf
        refine Z.aload_n (n := 77) dX12_world_76 rfl rfl ?_
        obtain ⟨z13, ez13, hf⟩ := Option.bind_eq_some_iff.mp hf
        refine Z.callV (n := 80) vX12_64 (ctX12_here ez13) hJ.rm (Nat.le_of_ble_eq_true rfl) rfl rfl (Nat.le_refl _) (Nat.le_refl _) rfl W93 rfl rfl (Nat.le_of_ble_eq_true rfl) rfl dX12_world_77 rfl (fun v w hw => ?_)
        obtain ⟨rfl, rfl⟩ := hw
        show Z _ _ _ _ _ _ _ [.int z13.1] _
        refine Z.bipush (n := 82) (v := 59) dX12_world_80 rfl (by decide +kernel) ?_
        refine Z.icmp_ne (tgt := 105) (n := 85) dX12_world_82 rfl rfl (fun c14 => ?_) (fun c14 => ?_)
        · rw [if_neg c14] at hf
          refine Z.fg [1] ?_
          exact zX12_world_105 hJ _ hf
        · rw [if_pos c14] at hf
          refine Z.aload_n (n := 86) dX12_world_85 rfl rfl ?_
          refine Z.dup (n := 87) dX12_world_86 rfl rfl ?_
          refine Z.getf (n := 90) fX12_54 dX12_world_87 rfl W93 rfl ?_
          refine Z.iconst (n := 91) (v := 1) dX12_world_90 rfl (by decide +kernel) ?_
          refine Z.iadd (n := 92) dX12_world_91 rfl ?_
          refine Z.putf (n := 95) pX12_54 dX12_world_92 rfl W93 (Nat.le_of_ble_eq_true rfl) rfl rfl W93s_4 ?_
          refine Z.aload_n (n := 96) dX12_world_95 rfl rfl ?_
          obtain ⟨z15, ez15, hf⟩ := Option.bind_eq_some_iff.mp hf
          refine Z.callV (n := 99) vX12_118 (ctX12_clause ez15) hJ.rm (Nat.le_of_ble_eq_true rfl) rfl rfl (Nat.le_refl _) (Nat.le_refl _) rfl W93 rfl rfl (Nat.le_of_ble_eq_true rfl) rfl dX12_world_96 rfl (fun v w hw => ?_)
          obtain ⟨rfl, rfl⟩ := hw
          show Z _ _ _ _ _ _ _ [] _
          refine Z.iinc (n := 102) (v := l1 + 1) dX12_world_99 rfl rfl rfl (by decide) rfl ?_
          refine Z.goto (tgt := 63) dX12_world_102 rfl ?_
          exact ih _ _ hf
def fX12_world_39 : Nat → Int32 → HT → Option (Int32 × HT)
  | 0, _, _ => none
  | n + 1, l1, h =>
  if 3 ≤ l1 then (Option.bind (fX12_clause  h) fun z2 =>
  fX12_world_63 1000 1 z2.2)
  else (Option.bind (ck 3 l1) fun j16 =>
  fX12_world_39  n (l1 + 1) (hu h 97 j16 0))
set_option maxHeartbeats 4000000 in
theorem zX12_world_39 {g : GP} {a : Nat → Nat} {P : PT} {J : JT} {z : Int32 × HT} (hJ : JX g 37 0 0 (PoI g a P z) J) : ∀ (n : Nat) (l1 : Int32) (h : HT), fX12_world_39 n l1 h = some z → Z g mX12_world J 0 0 39 [some (.ref (a 93)), some (.int l1), none] [] (WD g a h P) := by
  intro n
  induction n with
  | zero =>
    intro _ _ hf
    cases hf
  | succ n ih =>
    intro l1 h hf
    unfold fX12_world_39 at hf
    refine Z.iload_n (n := 40) dX12_world_39 rfl rfl ?_
    refine Z.iconst (n := 41) (v := 3) dX12_world_40 rfl (by decide +kernel) ?_
    refine Z.icmp_ge (tgt := 57) (n := 44) dX12_world_41 rfl rfl (fun c1 => ?_) (fun c1 => ?_)
    · rw [if_pos c1] at hf
      refine Z.iconst (n := 58) (v := 1) dX12_world_57 rfl (by decide +kernel) ?_
      refine Z.istore_n (n := 59) dX12_world_58 rfl (by decide) rfl ?_
      refine Z.aload_n (n := 60) dX12_world_59 rfl rfl ?_
      obtain ⟨z2, ez2, hf⟩ := Option.bind_eq_some_iff.mp hf
      refine Z.callV (n := 63) vX12_118 (ctX12_clause ez2) hJ.rm (Nat.le_of_ble_eq_true rfl) rfl rfl (Nat.le_refl _) (Nat.le_refl _) rfl W93 rfl rfl (Nat.le_of_ble_eq_true rfl) rfl dX12_world_60 rfl (fun v w hw => ?_)
      obtain ⟨rfl, rfl⟩ := hw
      show Z _ _ _ _ _ _ _ [] _
      exact zX12_world_63 hJ _ _ _ hf
    · rw [if_neg c1] at hf
      refine Z.aload_n (n := 45) dX12_world_44 rfl rfl ?_
      refine Z.getf (n := 48) fX12_21 dX12_world_45 rfl W93 rfl ?_
      refine Z.iload_n (n := 49) dX12_world_48 rfl rfl ?_
      refine Z.iconst (n := 50) (v := 0) dX12_world_49 rfl (by decide +kernel) ?_
      obtain ⟨j16, ej16, hf⟩ := Option.bind_eq_some_iff.mp hf
      obtain ⟨hij16, hlj16⟩ := ck_spec ej16
      refine Z.iast (j := j16) (n := 51) dX12_world_50 rfl W97 hij16 hlj16 (by decide) W97s ?_
      refine Z.iinc (n := 54) (v := l1 + 1) dX12_world_51 rfl rfl rfl (by decide) rfl ?_
      refine Z.goto (tgt := 39) dX12_world_54 rfl ?_
      exact ih _ _ hf
def fX12_world (h : HT) : Option (Int32 × HT) :=
  fX12_world_39 1000 0 (hu (hu (hu (hu (hu (hu h 93 5 (h 94 3)) 94 3 0) 93 4 0) 93 6 0) 93 7 0) 93 10 0)
set_option maxHeartbeats 4000000 in
theorem ctX12_world {g : GP} {a : Nat → Nat} {P : PT} {h : HT} {z : Int32 × HT} (hf : fX12_world h = some z) : Ct g 37 0 0 mX12_world [.ref (a 93)] (WD g a h P) (PoI g a P z) := by
  refine Ct.of (by decide +kernel) (Nat.le_of_ble_eq_true rfl) fun J hJ => ?_
  show Z g mX12_world J 0 0 0 [some (.ref (a 93)), none, none] [] (WD g a h P)
  unfold fX12_world at hf
  refine Z.aload_n (n := 1) dX12_world_0 rfl rfl ?_
  refine Z.aload_n (n := 2) dX12_world_1 rfl rfl ?_
  refine Z.getf (n := 5) fX12_9 dX12_world_2 rfl W93 rfl ?_
  refine Z.iconst (n := 6) (v := 3) dX12_world_5 rfl (by decide +kernel) ?_
  refine Z.iald (j := 3) (n := 7) dX12_world_6 rfl W94 (by decide +kernel) (by decide) (by decide) ?_
  refine Z.putf (n := 10) pX12_57 dX12_world_7 rfl W93 (Nat.le_of_ble_eq_true rfl) rfl rfl W93s_5 ?_
  refine Z.aload_n (n := 11) dX12_world_10 rfl rfl ?_
  refine Z.getf (n := 14) fX12_9 dX12_world_11 rfl W93 rfl ?_
  refine Z.iconst (n := 15) (v := 3) dX12_world_14 rfl (by decide +kernel) ?_
  refine Z.iconst (n := 16) (v := 0) dX12_world_15 rfl (by decide +kernel) ?_
  refine Z.iast (j := 3) (n := 17) dX12_world_16 rfl W94 (by decide +kernel) (by decide) (by decide) W94s ?_
  refine Z.aload_n (n := 18) dX12_world_17 rfl rfl ?_
  refine Z.iconst (n := 19) (v := 0) dX12_world_18 rfl (by decide +kernel) ?_
  refine Z.putf (n := 22) pX12_54 dX12_world_19 rfl W93 (Nat.le_of_ble_eq_true rfl) rfl rfl W93s_4 ?_
  refine Z.aload_n (n := 23) dX12_world_22 rfl rfl ?_
  refine Z.iconst (n := 24) (v := 0) dX12_world_23 rfl (by decide +kernel) ?_
  refine Z.putf (n := 27) pX12_60 dX12_world_24 rfl W93 (Nat.le_of_ble_eq_true rfl) rfl rfl W93s_6 ?_
  refine Z.aload_n (n := 28) dX12_world_27 rfl rfl ?_
  refine Z.iconst (n := 29) (v := 0) dX12_world_28 rfl (by decide +kernel) ?_
  refine Z.putf (n := 32) pX12_84 dX12_world_29 rfl W93 (Nat.le_of_ble_eq_true rfl) rfl rfl W93s_7 ?_
  refine Z.aload_n (n := 33) dX12_world_32 rfl rfl ?_
  refine Z.iconst (n := 34) (v := 0) dX12_world_33 rfl (by decide +kernel) ?_
  refine Z.putf (n := 37) pX12_81 dX12_world_34 rfl W93 (Nat.le_of_ble_eq_true rfl) rfl rfl W93s_10 ?_
  refine Z.iconst (n := 38) (v := 0) dX12_world_37 rfl (by decide +kernel) ?_
  refine Z.istore_n (n := 39) dX12_world_38 rfl (by decide) rfl ?_
  exact zX12_world_39 hJ _ _ _ hf
def fX12_size_10 (s0 : Int32) (h : HT) : Option (Int32 × HT) :=
  some (s0, h)
set_option maxHeartbeats 4000000 in
theorem zX12_size_10 {g : GP} {a : Nat → Nat} {P : PT} {J : JT} {z : Int32 × HT} (hJ : JX g 1 0 0 (PoI g a P z) J) (s0 : Int32) (h : HT) (hf : fX12_size_10 s0 h = some z) : Z g mX12_size J 0 0 10 [none] [.int s0] (WD g a h P) := by
  unfold fX12_size_10 at hf
  have hz := Option.some.inj hf
  subst hz
  exact Z.iret hJ dX12_size_10 rfl (Nat.le_refl _) (Nat.le_refl _) ⟨rfl, rfl⟩
def fX12_size (l0 : Int32) (h : HT) : Option (Int32 × HT) :=
  if 0 ≤ l0 then (fX12_size_10 l0 h)
  else (fX12_size_10 (-l0) h)
set_option maxHeartbeats 4000000 in
theorem ctX12_size {g : GP} {a : Nat → Nat} {P : PT} {h : HT} {z : Int32 × HT} {l0 : Int32} (hf : fX12_size l0 h = some z) : Ct g 1 0 0 mX12_size [.int l0] (WD g a h P) (PoI g a P z) := by
  refine Ct.of (by decide +kernel) (Nat.le_of_ble_eq_true rfl) fun J hJ => ?_
  show Z g mX12_size J 0 0 0 [some (.int l0)] [] (WD g a h P)
  unfold fX12_size at hf
  refine Z.iload_n (n := 1) dX12_size_0 rfl rfl ?_
  refine Z.if_ge (tgt := 9) (n := 4) dX12_size_1 rfl rfl (fun c1 => ?_) (fun c1 => ?_)
  · rw [if_pos c1] at hf
    refine Z.iload_n (n := 10) dX12_size_9 rfl rfl ?_
    refine Z.fg [0] ?_
    exact zX12_size_10 hJ _ _ hf
  · rw [if_neg c1] at hf
    refine Z.iload_n (n := 5) dX12_size_4 rfl rfl ?_
    refine Z.ineg (n := 6) dX12_size_5 rfl ?_
    refine Z.goto (tgt := 10) dX12_size_6 rfl ?_
    refine Z.fg [0] ?_
    exact zX12_size_10 hJ _ _ hf
def fX12_costOf_337 (k10_ : Int32 → Int32 → Int32 → Int32 → Int32 → HT → Option (Int32 × HT)) (l1 : Int32) (l2 : Int32) (l3 : Int32) (l4 : Int32) (l5 : Int32) (h : HT) : Option (Int32 × HT) :=
  k10_ l1 l2 l3 l4 (l5 + 1) h
set_option maxHeartbeats 4000000 in
theorem zX12_costOf_337 {g : GP} {a : Nat → Nat} {P : PT} {J : JT} {z : Int32 × HT} {k10_ : Int32 → Int32 → Int32 → Int32 → Int32 → HT → Option (Int32 × HT)} (hJ : JX g 2 0 0 (PoI g a P z) J) (hk10 : ∀ (l1 : Int32) (l2 : Int32) (l3 : Int32) (l4 : Int32) (l5 : Int32) (h : HT), k10_ l1 l2 l3 l4 l5 h = some z → Z g mX12_costOf J 0 0 10 [some (.ref (a 93)), some (.int l1), some (.int l2), some (.int l3), some (.int l4), some (.int l5), none, none, none, none, none] [] (WD g a h P)) (l1 : Int32) (l2 : Int32) (l3 : Int32) (l4 : Int32) (l5 : Int32) (h : HT) (hf : fX12_costOf_337 k10_ l1 l2 l3 l4 l5 h = some z) : Z g mX12_costOf J 0 0 337 [some (.ref (a 93)), some (.int l1), some (.int l2), some (.int l3), some (.int l4), some (.int l5), none, none, none, none, none] [] (WD g a h P) := by
  unfold fX12_costOf_337 at hf
  refine Z.iinc (n := 340) (v := l5 + 1) dX12_costOf_337 rfl rfl rfl (by decide) rfl ?_
  refine Z.goto (tgt := 10) dX12_costOf_340 rfl ?_
  exact hk10 _ _ _ _ _ _ hf
def fX12_costOf_334 (k10_ : Int32 → Int32 → Int32 → Int32 → Int32 → HT → Option (Int32 × HT)) (l1 : Int32) (l2 : Int32) (l3 : Int32) (l5 : Int32) (s0 : Int32) (s1 : Int32) (h : HT) : Option (Int32 × HT) :=
  fX12_costOf_337 k10_ l1 l2 l3 (s1 + s0) l5 h
set_option maxHeartbeats 4000000 in
theorem zX12_costOf_334 {g : GP} {a : Nat → Nat} {P : PT} {J : JT} {z : Int32 × HT} {k10_ : Int32 → Int32 → Int32 → Int32 → Int32 → HT → Option (Int32 × HT)} (hJ : JX g 2 0 0 (PoI g a P z) J) (hk10 : ∀ (l1 : Int32) (l2 : Int32) (l3 : Int32) (l4 : Int32) (l5 : Int32) (h : HT), k10_ l1 l2 l3 l4 l5 h = some z → Z g mX12_costOf J 0 0 10 [some (.ref (a 93)), some (.int l1), some (.int l2), some (.int l3), some (.int l4), some (.int l5), none, none, none, none, none] [] (WD g a h P)) (l1 : Int32) (l2 : Int32) (l3 : Int32) (l5 : Int32) (s0 : Int32) (s1 : Int32) (h : HT) (hf : fX12_costOf_334 k10_ l1 l2 l3 l5 s0 s1 h = some z) : Z g mX12_costOf J 0 0 334 [some (.ref (a 93)), some (.int l1), some (.int l2), some (.int l3), none, some (.int l5), none, none, none, none, none] [.int s0, .int s1] (WD g a h P) := by
  unfold fX12_costOf_334 at hf
  refine Z.iadd (n := 335) dX12_costOf_334 rfl ?_
  refine Z.istore (n := 337) dX12_costOf_335 rfl (by decide) rfl ?_
  exact zX12_costOf_337 hJ hk10 _ _ _ _ _ _ hf
def fX12_costOf_308 (k10_ : Int32 → Int32 → Int32 → Int32 → Int32 → HT → Option (Int32 × HT)) (l1 : Int32) (l2 : Int32) (l3 : Int32) (l4 : Int32) (l5 : Int32) (s0 : Int32) (s1 : Int32) (h : HT) : Option (Int32 × HT) :=
  Option.bind (ck 64 s1) fun j10 =>
  Option.bind (cb s0) fun u11 =>
  fX12_costOf_337 k10_ l1 l2 l3 l4 l5 (hu h 98 j10 s0)
set_option maxHeartbeats 4000000 in
theorem zX12_costOf_308 {g : GP} {a : Nat → Nat} {P : PT} {J : JT} {z : Int32 × HT} {k10_ : Int32 → Int32 → Int32 → Int32 → Int32 → HT → Option (Int32 × HT)} (hJ : JX g 2 0 0 (PoI g a P z) J) (hk10 : ∀ (l1 : Int32) (l2 : Int32) (l3 : Int32) (l4 : Int32) (l5 : Int32) (h : HT), k10_ l1 l2 l3 l4 l5 h = some z → Z g mX12_costOf J 0 0 10 [some (.ref (a 93)), some (.int l1), some (.int l2), some (.int l3), some (.int l4), some (.int l5), none, none, none, none, none] [] (WD g a h P)) (l1 : Int32) (l2 : Int32) (l3 : Int32) (l4 : Int32) (l5 : Int32) (s0 : Int32) (s1 : Int32) (h : HT) (hf : fX12_costOf_308 k10_ l1 l2 l3 l4 l5 s0 s1 h = some z) : Z g mX12_costOf J 0 0 308 [some (.ref (a 93)), some (.int l1), some (.int l2), some (.int l3), some (.int l4), some (.int l5), none, none, none, none, none] [.int s0, .int s1, .ref (a 98)] (WD g a h P) := by
  unfold fX12_costOf_308 at hf
  obtain ⟨j10, ej10, hf⟩ := Option.bind_eq_some_iff.mp hf
  obtain ⟨hij10, hlj10⟩ := ck_spec ej10
  obtain ⟨u11, eu11, hf⟩ := Option.bind_eq_some_iff.mp hf
  refine Z.zast (j := j10) (n := 309) dX12_costOf_308 rfl W98 hij10 hlj10 (by decide) (cb_vp eu11) W98s ?_
  refine Z.goto (tgt := 337) dX12_costOf_309 rfl ?_
  exact zX12_costOf_337 hJ hk10 _ _ _ _ _ _ hf
def fX12_costOf_303 (k10_ : Int32 → Int32 → Int32 → Int32 → Int32 → HT → Option (Int32 × HT)) (l1 : Int32) (l2 : Int32) (l3 : Int32) (l4 : Int32) (l5 : Int32) (s0 : Int32) (h : HT) : Option (Int32 × HT) :=
  fX12_costOf_308 k10_ l1 l2 l3 l4 l5 1 s0 h
set_option maxHeartbeats 4000000 in
theorem zX12_costOf_303 {g : GP} {a : Nat → Nat} {P : PT} {J : JT} {z : Int32 × HT} {k10_ : Int32 → Int32 → Int32 → Int32 → Int32 → HT → Option (Int32 × HT)} (hJ : JX g 2 0 0 (PoI g a P z) J) (hk10 : ∀ (l1 : Int32) (l2 : Int32) (l3 : Int32) (l4 : Int32) (l5 : Int32) (h : HT), k10_ l1 l2 l3 l4 l5 h = some z → Z g mX12_costOf J 0 0 10 [some (.ref (a 93)), some (.int l1), some (.int l2), some (.int l3), some (.int l4), some (.int l5), none, none, none, none, none] [] (WD g a h P)) (l1 : Int32) (l2 : Int32) (l3 : Int32) (l4 : Int32) (l5 : Int32) (s0 : Int32) (h : HT) (hf : fX12_costOf_303 k10_ l1 l2 l3 l4 l5 s0 h = some z) : Z g mX12_costOf J 0 0 303 [some (.ref (a 93)), some (.int l1), some (.int l2), some (.int l3), some (.int l4), some (.int l5), none, none, none, none, none] [.int s0, .ref (a 98)] (WD g a h P) := by
  unfold fX12_costOf_303 at hf
  refine Z.iconst (n := 304) (v := 1) dX12_costOf_303 rfl (by decide +kernel) ?_
  refine Z.goto (tgt := 308) dX12_costOf_304 rfl ?_
  exact zX12_costOf_308 hJ hk10 _ _ _ _ _ _ _ _ hf
def fX12_costOf_279 (k10_ : Int32 → Int32 → Int32 → Int32 → Int32 → HT → Option (Int32 × HT)) (l1 : Int32) (l2 : Int32) (l3 : Int32) (l4 : Int32) (l5 : Int32) (s0 : Int32) (h : HT) : Option (Int32 × HT) :=
  fX12_costOf_308 k10_ l1 l2 l3 l4 l5 0 s0 h
set_option maxHeartbeats 4000000 in
theorem zX12_costOf_279 {g : GP} {a : Nat → Nat} {P : PT} {J : JT} {z : Int32 × HT} {k10_ : Int32 → Int32 → Int32 → Int32 → Int32 → HT → Option (Int32 × HT)} (hJ : JX g 2 0 0 (PoI g a P z) J) (hk10 : ∀ (l1 : Int32) (l2 : Int32) (l3 : Int32) (l4 : Int32) (l5 : Int32) (h : HT), k10_ l1 l2 l3 l4 l5 h = some z → Z g mX12_costOf J 0 0 10 [some (.ref (a 93)), some (.int l1), some (.int l2), some (.int l3), some (.int l4), some (.int l5), none, none, none, none, none] [] (WD g a h P)) (l1 : Int32) (l2 : Int32) (l3 : Int32) (l4 : Int32) (l5 : Int32) (s0 : Int32) (h : HT) (hf : fX12_costOf_279 k10_ l1 l2 l3 l4 l5 s0 h = some z) : Z g mX12_costOf J 0 0 279 [some (.ref (a 93)), some (.int l1), some (.int l2), some (.int l3), some (.int l4), some (.int l5), none, none, none, none, none] [.int s0, .ref (a 98)] (WD g a h P) := by
  unfold fX12_costOf_279 at hf
  refine Z.iconst (n := 280) (v := 0) dX12_costOf_279 rfl (by decide +kernel) ?_
  refine Z.goto (tgt := 308) dX12_costOf_280 rfl ?_
  exact zX12_costOf_308 hJ hk10 _ _ _ _ _ _ _ _ hf
def fX12_costOf_227 (k10_ : Int32 → Int32 → Int32 → Int32 → Int32 → HT → Option (Int32 × HT)) (l1 : Int32) (l2 : Int32) (l3 : Int32) (l4 : Int32) (l5 : Int32) (s0 : Int32) (s1 : Int32) (h : HT) : Option (Int32 × HT) :=
  Option.bind (ck 64 s1) fun j20 =>
  Option.bind (cb s0) fun u21 =>
  fX12_costOf_337 k10_ l1 l2 l3 l4 l5 (hu h 98 j20 s0)
set_option maxHeartbeats 4000000 in
theorem zX12_costOf_227 {g : GP} {a : Nat → Nat} {P : PT} {J : JT} {z : Int32 × HT} {k10_ : Int32 → Int32 → Int32 → Int32 → Int32 → HT → Option (Int32 × HT)} (hJ : JX g 2 0 0 (PoI g a P z) J) (hk10 : ∀ (l1 : Int32) (l2 : Int32) (l3 : Int32) (l4 : Int32) (l5 : Int32) (h : HT), k10_ l1 l2 l3 l4 l5 h = some z → Z g mX12_costOf J 0 0 10 [some (.ref (a 93)), some (.int l1), some (.int l2), some (.int l3), some (.int l4), some (.int l5), none, none, none, none, none] [] (WD g a h P)) (l1 : Int32) (l2 : Int32) (l3 : Int32) (l4 : Int32) (l5 : Int32) (s0 : Int32) (s1 : Int32) (h : HT) (hf : fX12_costOf_227 k10_ l1 l2 l3 l4 l5 s0 s1 h = some z) : Z g mX12_costOf J 0 0 227 [some (.ref (a 93)), some (.int l1), some (.int l2), some (.int l3), some (.int l4), some (.int l5), none, none, none, none, none] [.int s0, .int s1, .ref (a 98)] (WD g a h P) := by
  unfold fX12_costOf_227 at hf
  obtain ⟨j20, ej20, hf⟩ := Option.bind_eq_some_iff.mp hf
  obtain ⟨hij20, hlj20⟩ := ck_spec ej20
  obtain ⟨u21, eu21, hf⟩ := Option.bind_eq_some_iff.mp hf
  refine Z.zast (j := j20) (n := 228) dX12_costOf_227 rfl W98 hij20 hlj20 (by decide) (cb_vp eu21) W98s ?_
  refine Z.goto (tgt := 337) dX12_costOf_228 rfl ?_
  exact zX12_costOf_337 hJ hk10 _ _ _ _ _ _ hf
def fX12_costOf_191 (k10_ : Int32 → Int32 → Int32 → Int32 → Int32 → HT → Option (Int32 × HT)) (l1 : Int32) (l2 : Int32) (l3 : Int32) (l4 : Int32) (l5 : Int32) (s0 : Int32) (s1 : Int32) (h : HT) : Option (Int32 × HT) :=
  Option.bind (ck 64 s1) fun j28 =>
  Option.bind (cb s0) fun u29 =>
  fX12_costOf_337 k10_ l1 l2 (l3 + 1) l4 l5 (hu h 98 j28 s0)
set_option maxHeartbeats 4000000 in
theorem zX12_costOf_191 {g : GP} {a : Nat → Nat} {P : PT} {J : JT} {z : Int32 × HT} {k10_ : Int32 → Int32 → Int32 → Int32 → Int32 → HT → Option (Int32 × HT)} (hJ : JX g 2 0 0 (PoI g a P z) J) (hk10 : ∀ (l1 : Int32) (l2 : Int32) (l3 : Int32) (l4 : Int32) (l5 : Int32) (h : HT), k10_ l1 l2 l3 l4 l5 h = some z → Z g mX12_costOf J 0 0 10 [some (.ref (a 93)), some (.int l1), some (.int l2), some (.int l3), some (.int l4), some (.int l5), none, none, none, none, none] [] (WD g a h P)) (l1 : Int32) (l2 : Int32) (l3 : Int32) (l4 : Int32) (l5 : Int32) (s0 : Int32) (s1 : Int32) (h : HT) (hf : fX12_costOf_191 k10_ l1 l2 l3 l4 l5 s0 s1 h = some z) : Z g mX12_costOf J 0 0 191 [some (.ref (a 93)), some (.int l1), some (.int l2), some (.int l3), some (.int l4), some (.int l5), none, none, none, none, none] [.int s0, .int s1, .ref (a 98)] (WD g a h P) := by
  unfold fX12_costOf_191 at hf
  obtain ⟨j28, ej28, hf⟩ := Option.bind_eq_some_iff.mp hf
  obtain ⟨hij28, hlj28⟩ := ck_spec ej28
  obtain ⟨u29, eu29, hf⟩ := Option.bind_eq_some_iff.mp hf
  refine Z.zast (j := j28) (n := 192) dX12_costOf_191 rfl W98 hij28 hlj28 (by decide) (cb_vp eu29) W98s ?_
  refine Z.iinc (n := 195) (v := l3 + 1) dX12_costOf_192 rfl rfl rfl (by decide) rfl ?_
  refine Z.goto (tgt := 337) dX12_costOf_195 rfl ?_
  exact zX12_costOf_337 hJ hk10 _ _ _ _ _ _ hf
def fX12_costOf_116 (k10_ : Int32 → Int32 → Int32 → Int32 → Int32 → HT → Option (Int32 × HT)) (l1 : Int32) (l2 : Int32) (l3 : Int32) (l4 : Int32) (l5 : Int32) (l6 : Int32) (s0 : Int32) (h : HT) : Option (Int32 × HT) :=
  if ((l6 / (4 : Int32)) - (l6 / (4 : Int32)) / (4 : Int32) * (4 : Int32)) = 0 then (if (l6 / (16 : Int32)) ≤ s0 then (fX12_costOf_191 k10_ l1 l2 l3 l4 l5 0 l3 h)
  else (fX12_costOf_191 k10_ l1 l2 l3 l4 l5 1 l3 h))
  else (if ((l6 / (4 : Int32)) - (l6 / (4 : Int32)) / (4 : Int32) * (4 : Int32)) = 1 then (if s0 = (l6 / (16 : Int32)) then (fX12_costOf_191 k10_ l1 l2 l3 l4 l5 1 l3 h)
  else (fX12_costOf_191 k10_ l1 l2 l3 l4 l5 0 l3 h))
  else (if s0 ≤ (l6 / (16 : Int32)) then (fX12_costOf_191 k10_ l1 l2 l3 l4 l5 0 l3 h)
  else (fX12_costOf_191 k10_ l1 l2 l3 l4 l5 1 l3 h)))
set_option maxHeartbeats 4000000 in
theorem zX12_costOf_116 {g : GP} {a : Nat → Nat} {P : PT} {J : JT} {z : Int32 × HT} {k10_ : Int32 → Int32 → Int32 → Int32 → Int32 → HT → Option (Int32 × HT)} (hJ : JX g 2 0 0 (PoI g a P z) J) (hk10 : ∀ (l1 : Int32) (l2 : Int32) (l3 : Int32) (l4 : Int32) (l5 : Int32) (h : HT), k10_ l1 l2 l3 l4 l5 h = some z → Z g mX12_costOf J 0 0 10 [some (.ref (a 93)), some (.int l1), some (.int l2), some (.int l3), some (.int l4), some (.int l5), none, none, none, none, none] [] (WD g a h P)) (l1 : Int32) (l2 : Int32) (l3 : Int32) (l4 : Int32) (l5 : Int32) (l6 : Int32) (s0 : Int32) (h : HT) (hf : fX12_costOf_116 k10_ l1 l2 l3 l4 l5 l6 s0 h = some z) : Z g mX12_costOf J 0 0 116 [some (.ref (a 93)), some (.int l1), some (.int l2), some (.int l3), some (.int l4), some (.int l5), some (.int l6), none, none, none, none] [.int s0] (WD g a h P) := by
  unfold fX12_costOf_116 at hf
  refine Z.istore (n := 118) dX12_costOf_116 rfl (by decide) rfl ?_
  refine Z.iload (n := 120) dX12_costOf_118 rfl rfl ?_
  refine Z.iconst (n := 121) (v := 4) dX12_costOf_120 rfl (by decide +kernel) ?_
  refine Z.idiv (n := 122) dX12_costOf_121 rfl (by decide +kernel) ?_
  refine Z.iconst (n := 123) (v := 4) dX12_costOf_122 rfl (by decide +kernel) ?_
  refine Z.irem (n := 124) dX12_costOf_123 rfl (by decide +kernel) ?_
  refine Z.istore (n := 126) dX12_costOf_124 rfl (by decide) rfl ?_
  refine Z.iload (n := 128) dX12_costOf_126 rfl rfl ?_
  refine Z.bipush (n := 130) (v := 16) dX12_costOf_128 rfl (by decide +kernel) ?_
  refine Z.idiv (n := 131) dX12_costOf_130 rfl (by decide +kernel) ?_
  refine Z.istore (n := 133) dX12_costOf_131 rfl (by decide) rfl ?_
  refine Z.aload_n (n := 134) dX12_costOf_133 rfl rfl ?_
  refine Z.getf (n := 137) fX12_24 dX12_costOf_134 rfl W93 rfl ?_
  refine Z.iload_n (n := 138) dX12_costOf_137 rfl rfl ?_
  refine Z.iload (n := 140) dX12_costOf_138 rfl rfl ?_
  refine Z.if_ne (tgt := 158) (n := 143) dX12_costOf_140 rfl rfl (fun c25 => ?_) (fun c25 => ?_)
  · rw [if_neg c25] at hf
    refine Z.iload (n := 160) dX12_costOf_158 rfl rfl ?_
    refine Z.iconst (n := 161) (v := 1) dX12_costOf_160 rfl (by decide +kernel) ?_
    refine Z.icmp_ne (tgt := 179) (n := 164) dX12_costOf_161 rfl rfl (fun c26 => ?_) (fun c26 => ?_)
    · rw [if_neg c26] at hf
      refine Z.iload (n := 181) dX12_costOf_179 rfl rfl ?_
      refine Z.iload (n := 183) dX12_costOf_181 rfl rfl ?_
      refine Z.icmp_le (tgt := 190) (n := 186) dX12_costOf_183 rfl rfl (fun c27 => ?_) (fun c27 => ?_)
      · rw [if_pos c27] at hf
        refine Z.iconst (n := 191) (v := 0) dX12_costOf_190 rfl (by decide +kernel) ?_
        refine Z.fg [6, 8, 9, 10] ?_
        exact zX12_costOf_191 hJ hk10 _ _ _ _ _ _ _ _ hf
      · rw [if_neg c27] at hf
        refine Z.iconst (n := 187) (v := 1) dX12_costOf_186 rfl (by decide +kernel) ?_
        refine Z.goto (tgt := 191) dX12_costOf_187 rfl ?_
        refine Z.fg [6, 8, 9, 10] ?_
        exact zX12_costOf_191 hJ hk10 _ _ _ _ _ _ _ _ hf
    · rw [if_pos c26] at hf
      refine Z.iload (n := 166) dX12_costOf_164 rfl rfl ?_
      refine Z.iload (n := 168) dX12_costOf_166 rfl rfl ?_
      refine Z.icmp_ne (tgt := 175) (n := 171) dX12_costOf_168 rfl rfl (fun c30 => ?_) (fun c30 => ?_)
      · rw [if_neg c30] at hf
        refine Z.iconst (n := 176) (v := 0) dX12_costOf_175 rfl (by decide +kernel) ?_
        refine Z.goto (tgt := 191) dX12_costOf_176 rfl ?_
        refine Z.fg [6, 8, 9, 10] ?_
        exact zX12_costOf_191 hJ hk10 _ _ _ _ _ _ _ _ hf
      · rw [if_pos c30] at hf
        refine Z.iconst (n := 172) (v := 1) dX12_costOf_171 rfl (by decide +kernel) ?_
        refine Z.goto (tgt := 191) dX12_costOf_172 rfl ?_
        refine Z.fg [6, 8, 9, 10] ?_
        exact zX12_costOf_191 hJ hk10 _ _ _ _ _ _ _ _ hf
  · rw [if_pos c25] at hf
    refine Z.iload (n := 145) dX12_costOf_143 rfl rfl ?_
    refine Z.iload (n := 147) dX12_costOf_145 rfl rfl ?_
    refine Z.icmp_ge (tgt := 154) (n := 150) dX12_costOf_147 rfl rfl (fun c31 => ?_) (fun c31 => ?_)
    · rw [if_pos c31] at hf
      refine Z.iconst (n := 155) (v := 0) dX12_costOf_154 rfl (by decide +kernel) ?_
      refine Z.goto (tgt := 191) dX12_costOf_155 rfl ?_
      refine Z.fg [6, 8, 9, 10] ?_
      exact zX12_costOf_191 hJ hk10 _ _ _ _ _ _ _ _ hf
    · rw [if_neg c31] at hf
      refine Z.iconst (n := 151) (v := 1) dX12_costOf_150 rfl (by decide +kernel) ?_
      refine Z.goto (tgt := 191) dX12_costOf_151 rfl ?_
      refine Z.fg [6, 8, 9, 10] ?_
      exact zX12_costOf_191 hJ hk10 _ _ _ _ _ _ _ _ hf
def fX12_costOf_10 : Nat → Int32 → Int32 → Int32 → Int32 → Int32 → HT → Option (Int32 × HT)
  | 0, _, _, _, _, _, _ => none
  | n + 1, l1, l2, l3, l4, l5, h =>
  if ((130 : Int32) + (h 94 5)) ≤ l5 then (some (l4, h))
  else (Option.bind (ck 490 l5) fun j2 =>
  if (h 94 j2) < 0 then (if (h 94 j2) = (-1) then (Option.bind (ck 64 (l3 - (1 : Int32))) fun j18 =>
  if (h 98 j18) = 0 then (fX12_costOf_227 (fX12_costOf_10  n) l1 l2 l3 l4 l5 1 (l3 - (1 : Int32)) h)
  else (fX12_costOf_227 (fX12_costOf_10  n) l1 l2 l3 l4 l5 0 (l3 - (1 : Int32)) h))
  else (if (h 94 j2) ≤ (-10) then (if (h 98 0) = 0 then (fX12_costOf_334 (fX12_costOf_10  n) l1 l2 0 l5 0 l4 h)
  else (fX12_costOf_334 (fX12_costOf_10  n) l1 l2 0 l5 ((-10 : Int32) - (h 94 j2)) l4 h))
  else (if (h 94 j2) = (-2) then (Option.bind (ck 64 ((l3 + (-1)) - (1 : Int32))) fun j14 =>
  if (h 98 j14) = 0 then (fX12_costOf_279 (fX12_costOf_10  n) l1 l2 (l3 + (-1)) l4 l5 ((l3 + (-1)) - (1 : Int32)) h)
  else (Option.bind (ck 64 (l3 + (-1))) fun j16 =>
  if (h 98 j16) = 0 then (fX12_costOf_279 (fX12_costOf_10  n) l1 l2 (l3 + (-1)) l4 l5 ((l3 + (-1)) - (1 : Int32)) h)
  else (fX12_costOf_308 (fX12_costOf_10  n) l1 l2 (l3 + (-1)) l4 l5 1 ((l3 + (-1)) - (1 : Int32)) h)))
  else (Option.bind (ck 64 ((l3 + (-1)) - (1 : Int32))) fun j8 =>
  if (h 98 j8) = 0 then (Option.bind (ck 64 (l3 + (-1))) fun j12 =>
  if (h 98 j12) = 0 then (fX12_costOf_308 (fX12_costOf_10  n) l1 l2 (l3 + (-1)) l4 l5 0 ((l3 + (-1)) - (1 : Int32)) h)
  else (fX12_costOf_303 (fX12_costOf_10  n) l1 l2 (l3 + (-1)) l4 l5 ((l3 + (-1)) - (1 : Int32)) h))
  else (fX12_costOf_303 (fX12_costOf_10  n) l1 l2 (l3 + (-1)) l4 l5 ((l3 + (-1)) - (1 : Int32)) h)))))
  else (if ((h 94 j2) - (h 94 j2) / (4 : Int32) * (4 : Int32)) = 0 then (Option.bind (ck 490 ((280 : Int32) + l1)) fun j34 =>
  Option.bind (ck 490 ((280 : Int32) + l2)) fun j35 =>
  Option.bind (fX12_size ((h 94 j34) - (h 94 j35)) h) fun z36 =>
  fX12_costOf_116 (fX12_costOf_10  n) l1 l2 l3 l4 l5 (h 94 j2) z36.1 z36.2)
  else (if ((h 94 j2) - (h 94 j2) / (4 : Int32) * (4 : Int32)) = 1 then (Option.bind (ck 490 ((270 : Int32) + l1)) fun j33 =>
  fX12_costOf_116 (fX12_costOf_10  n) l1 l2 l3 l4 l5 (h 94 j2) (h 94 j33) h)
  else (if ((h 94 j2) - (h 94 j2) / (4 : Int32) * (4 : Int32)) = 2 then (Option.bind (ck 490 ((270 : Int32) + l2)) fun j32 =>
  fX12_costOf_116 (fX12_costOf_10  n) l1 l2 l3 l4 l5 (h 94 j2) (h 94 j32) h)
  else (fX12_costOf_116 (fX12_costOf_10  n) l1 l2 l3 l4 l5 (h 94 j2) l1 h)))))
set_option maxHeartbeats 4000000 in
theorem zX12_costOf_10 {g : GP} {a : Nat → Nat} {P : PT} {J : JT} {z : Int32 × HT} (hJ : JX g 2 0 0 (PoI g a P z) J) : ∀ (n : Nat) (l1 : Int32) (l2 : Int32) (l3 : Int32) (l4 : Int32) (l5 : Int32) (h : HT), fX12_costOf_10 n l1 l2 l3 l4 l5 h = some z → Z g mX12_costOf J 0 0 10 [some (.ref (a 93)), some (.int l1), some (.int l2), some (.int l3), some (.int l4), some (.int l5), none, none, none, none, none] [] (WD g a h P) := by
  intro n
  induction n with
  | zero =>
    intro _ _ _ _ _ _ hf
    cases hf
  | succ n ih =>
    intro l1 l2 l3 l4 l5 h hf
    unfold fX12_costOf_10 at hf
    refine Z.iload (n := 12) dX12_costOf_10 rfl rfl ?_
    refine Z.sipush (n := 15) (v := 130) dX12_costOf_12 rfl (by decide +kernel) ?_
    refine Z.aload_n (n := 16) dX12_costOf_15 rfl rfl ?_
    refine Z.getf (n := 19) fX12_9 dX12_costOf_16 rfl W93 rfl ?_
    refine Z.iconst (n := 20) (v := 5) dX12_costOf_19 rfl (by decide +kernel) ?_
    refine Z.iald (j := 5) (n := 21) dX12_costOf_20 rfl W94 (by decide +kernel) (by decide) (by decide) ?_
    refine Z.iadd (n := 22) dX12_costOf_21 rfl ?_
    refine Z.icmp_ge (tgt := 343) (n := 25) dX12_costOf_22 rfl rfl (fun c1 => ?_) (fun c1 => ?_)
    · rw [if_pos c1] at hf
      refine Z.iload (n := 345) dX12_costOf_343 rfl rfl ?_
      have hz := Option.some.inj hf
      subst hz
      exact Z.iret hJ dX12_costOf_345 rfl (Nat.le_refl _) (Nat.le_refl _) ⟨rfl, rfl⟩
    · rw [if_neg c1] at hf
      refine Z.aload_n (n := 26) dX12_costOf_25 rfl rfl ?_
      refine Z.getf (n := 29) fX12_9 dX12_costOf_26 rfl W93 rfl ?_
      refine Z.iload (n := 31) dX12_costOf_29 rfl rfl ?_
      obtain ⟨j2, ej2, hf⟩ := Option.bind_eq_some_iff.mp hf
      obtain ⟨hij2, hlj2⟩ := ck_spec ej2
      refine Z.iald (j := j2) (n := 32) dX12_costOf_31 rfl W94 hij2 hlj2 (by decide) ?_
      refine Z.istore (n := 34) dX12_costOf_32 rfl (by decide) rfl ?_
      refine Z.iload (n := 36) dX12_costOf_34 rfl rfl ?_
      refine Z.if_lt (tgt := 198) (n := 39) dX12_costOf_36 rfl rfl (fun c3 => ?_) (fun c3 => ?_)
      · rw [if_pos c3] at hf
        refine Z.iload (n := 200) dX12_costOf_198 rfl rfl ?_
        refine Z.iconst (n := 201) (v := -1) dX12_costOf_200 rfl (by decide +kernel) ?_
        refine Z.icmp_ne (tgt := 231) (n := 204) dX12_costOf_201 rfl rfl (fun c4 => ?_) (fun c4 => ?_)
        · rw [if_neg c4] at hf
          refine Z.iload (n := 233) dX12_costOf_231 rfl rfl ?_
          refine Z.bipush (n := 235) (v := -10) dX12_costOf_233 rfl (by decide +kernel) ?_
          refine Z.icmp_le (tgt := 312) (n := 238) dX12_costOf_235 rfl rfl (fun c5 => ?_) (fun c5 => ?_)
          · rw [if_pos c5] at hf
            refine Z.iconst (n := 313) (v := 0) dX12_costOf_312 rfl (by decide +kernel) ?_
            refine Z.istore_n (n := 314) dX12_costOf_313 rfl (by decide) rfl ?_
            refine Z.iload (n := 316) dX12_costOf_314 rfl rfl ?_
            refine Z.aload_n (n := 317) dX12_costOf_316 rfl rfl ?_
            refine Z.getf (n := 320) fX12_24 dX12_costOf_317 rfl W93 rfl ?_
            refine Z.iconst (n := 321) (v := 0) dX12_costOf_320 rfl (by decide +kernel) ?_
            refine Z.zald (j := 0) (n := 322) dX12_costOf_321 rfl W98 (by decide +kernel) (by decide) (by decide) ?_
            refine Z.if_eq (tgt := 333) (n := 325) dX12_costOf_322 rfl rfl (fun c6 => ?_) (fun c6 => ?_)
            · rw [if_pos c6] at hf
              refine Z.iconst (n := 334) (v := 0) dX12_costOf_333 rfl (by decide +kernel) ?_
              refine Z.fg [4, 6] ?_
              exact zX12_costOf_334 hJ ih _ _ _ _ _ _ _ hf
            · rw [if_neg c6] at hf
              refine Z.bipush (n := 327) (v := -10) dX12_costOf_325 rfl (by decide +kernel) ?_
              refine Z.iload (n := 329) dX12_costOf_327 rfl rfl ?_
              refine Z.isub (n := 330) dX12_costOf_329 rfl ?_
              refine Z.goto (tgt := 334) dX12_costOf_330 rfl ?_
              refine Z.fg [4, 6] ?_
              exact zX12_costOf_334 hJ ih _ _ _ _ _ _ _ hf
          · rw [if_neg c5] at hf
            refine Z.iinc (n := 241) (v := l3 + (-1)) dX12_costOf_238 rfl rfl rfl (by decide) rfl ?_
            refine Z.aload_n (n := 242) dX12_costOf_241 rfl rfl ?_
            refine Z.getf (n := 245) fX12_24 dX12_costOf_242 rfl W93 rfl ?_
            refine Z.iload_n (n := 246) dX12_costOf_245 rfl rfl ?_
            refine Z.iconst (n := 247) (v := 1) dX12_costOf_246 rfl (by decide +kernel) ?_
            refine Z.isub (n := 248) dX12_costOf_247 rfl ?_
            refine Z.iload (n := 250) dX12_costOf_248 rfl rfl ?_
            refine Z.bipush (n := 252) (v := -2) dX12_costOf_250 rfl (by decide +kernel) ?_
            refine Z.icmp_ne (tgt := 283) (n := 255) dX12_costOf_252 rfl rfl (fun c7 => ?_) (fun c7 => ?_)
            · rw [if_neg c7] at hf
              refine Z.aload_n (n := 284) dX12_costOf_283 rfl rfl ?_
              refine Z.getf (n := 287) fX12_24 dX12_costOf_284 rfl W93 rfl ?_
              refine Z.iload_n (n := 288) dX12_costOf_287 rfl rfl ?_
              refine Z.iconst (n := 289) (v := 1) dX12_costOf_288 rfl (by decide +kernel) ?_
              refine Z.isub (n := 290) dX12_costOf_289 rfl ?_
              obtain ⟨j8, ej8, hf⟩ := Option.bind_eq_some_iff.mp hf
              obtain ⟨hij8, hlj8⟩ := ck_spec ej8
              refine Z.zald (j := j8) (n := 291) dX12_costOf_290 rfl W98 hij8 hlj8 (by decide) ?_
              refine Z.if_ne (tgt := 303) (n := 294) dX12_costOf_291 rfl rfl (fun c9 => ?_) (fun c9 => ?_)
              · rw [if_neg c9] at hf
                refine Z.fg [6] ?_
                exact zX12_costOf_303 hJ ih _ _ _ _ _ _ _ hf
              · rw [if_pos c9] at hf
                refine Z.aload_n (n := 295) dX12_costOf_294 rfl rfl ?_
                refine Z.getf (n := 298) fX12_24 dX12_costOf_295 rfl W93 rfl ?_
                refine Z.iload_n (n := 299) dX12_costOf_298 rfl rfl ?_
                obtain ⟨j12, ej12, hf⟩ := Option.bind_eq_some_iff.mp hf
                obtain ⟨hij12, hlj12⟩ := ck_spec ej12
                refine Z.zald (j := j12) (n := 300) dX12_costOf_299 rfl W98 hij12 hlj12 (by decide) ?_
                refine Z.if_eq (tgt := 307) (n := 303) dX12_costOf_300 rfl rfl (fun c13 => ?_) (fun c13 => ?_)
                · rw [if_pos c13] at hf
                  refine Z.iconst (n := 308) (v := 0) dX12_costOf_307 rfl (by decide +kernel) ?_
                  refine Z.fg [6] ?_
                  exact zX12_costOf_308 hJ ih _ _ _ _ _ _ _ _ hf
                · rw [if_neg c13] at hf
                  refine Z.fg [6] ?_
                  exact zX12_costOf_303 hJ ih _ _ _ _ _ _ _ hf
            · rw [if_pos c7] at hf
              refine Z.aload_n (n := 256) dX12_costOf_255 rfl rfl ?_
              refine Z.getf (n := 259) fX12_24 dX12_costOf_256 rfl W93 rfl ?_
              refine Z.iload_n (n := 260) dX12_costOf_259 rfl rfl ?_
              refine Z.iconst (n := 261) (v := 1) dX12_costOf_260 rfl (by decide +kernel) ?_
              refine Z.isub (n := 262) dX12_costOf_261 rfl ?_
              obtain ⟨j14, ej14, hf⟩ := Option.bind_eq_some_iff.mp hf
              obtain ⟨hij14, hlj14⟩ := ck_spec ej14
              refine Z.zald (j := j14) (n := 263) dX12_costOf_262 rfl W98 hij14 hlj14 (by decide) ?_
              refine Z.if_eq (tgt := 279) (n := 266) dX12_costOf_263 rfl rfl (fun c15 => ?_) (fun c15 => ?_)
              · rw [if_pos c15] at hf
                refine Z.fg [6] ?_
                exact zX12_costOf_279 hJ ih _ _ _ _ _ _ _ hf
              · rw [if_neg c15] at hf
                refine Z.aload_n (n := 267) dX12_costOf_266 rfl rfl ?_
                refine Z.getf (n := 270) fX12_24 dX12_costOf_267 rfl W93 rfl ?_
                refine Z.iload_n (n := 271) dX12_costOf_270 rfl rfl ?_
                obtain ⟨j16, ej16, hf⟩ := Option.bind_eq_some_iff.mp hf
                obtain ⟨hij16, hlj16⟩ := ck_spec ej16
                refine Z.zald (j := j16) (n := 272) dX12_costOf_271 rfl W98 hij16 hlj16 (by decide) ?_
                refine Z.if_eq (tgt := 279) (n := 275) dX12_costOf_272 rfl rfl (fun c17 => ?_) (fun c17 => ?_)
                · rw [if_pos c17] at hf
                  refine Z.fg [6] ?_
                  exact zX12_costOf_279 hJ ih _ _ _ _ _ _ _ hf
                · rw [if_neg c17] at hf
                  refine Z.iconst (n := 276) (v := 1) dX12_costOf_275 rfl (by decide +kernel) ?_
                  refine Z.goto (tgt := 308) dX12_costOf_276 rfl ?_
                  refine Z.fg [6] ?_
                  exact zX12_costOf_308 hJ ih _ _ _ _ _ _ _ _ hf
        · rw [if_pos c4] at hf
          refine Z.aload_n (n := 205) dX12_costOf_204 rfl rfl ?_
          refine Z.getf (n := 208) fX12_24 dX12_costOf_205 rfl W93 rfl ?_
          refine Z.iload_n (n := 209) dX12_costOf_208 rfl rfl ?_
          refine Z.iconst (n := 210) (v := 1) dX12_costOf_209 rfl (by decide +kernel) ?_
          refine Z.isub (n := 211) dX12_costOf_210 rfl ?_
          refine Z.aload_n (n := 212) dX12_costOf_211 rfl rfl ?_
          refine Z.getf (n := 215) fX12_24 dX12_costOf_212 rfl W93 rfl ?_
          refine Z.iload_n (n := 216) dX12_costOf_215 rfl rfl ?_
          refine Z.iconst (n := 217) (v := 1) dX12_costOf_216 rfl (by decide +kernel) ?_
          refine Z.isub (n := 218) dX12_costOf_217 rfl ?_
          obtain ⟨j18, ej18, hf⟩ := Option.bind_eq_some_iff.mp hf
          obtain ⟨hij18, hlj18⟩ := ck_spec ej18
          refine Z.zald (j := j18) (n := 219) dX12_costOf_218 rfl W98 hij18 hlj18 (by decide) ?_
          refine Z.if_ne (tgt := 226) (n := 222) dX12_costOf_219 rfl rfl (fun c19 => ?_) (fun c19 => ?_)
          · rw [if_neg c19] at hf
            refine Z.iconst (n := 227) (v := 0) dX12_costOf_226 rfl (by decide +kernel) ?_
            refine Z.fg [6] ?_
            exact zX12_costOf_227 hJ ih _ _ _ _ _ _ _ _ hf
          · rw [if_pos c19] at hf
            refine Z.iconst (n := 223) (v := 1) dX12_costOf_222 rfl (by decide +kernel) ?_
            refine Z.goto (tgt := 227) dX12_costOf_223 rfl ?_
            refine Z.fg [6] ?_
            exact zX12_costOf_227 hJ ih _ _ _ _ _ _ _ _ hf
      · rw [if_neg c3] at hf
        refine Z.iload (n := 41) dX12_costOf_39 rfl rfl ?_
        refine Z.iconst (n := 42) (v := 4) dX12_costOf_41 rfl (by decide +kernel) ?_
        refine Z.irem (n := 43) dX12_costOf_42 rfl (by decide +kernel) ?_
        refine Z.istore (n := 45) dX12_costOf_43 rfl (by decide) rfl ?_
        refine Z.iload (n := 47) dX12_costOf_45 rfl rfl ?_
        refine Z.if_ne (tgt := 77) (n := 50) dX12_costOf_47 rfl rfl (fun c22 => ?_) (fun c22 => ?_)
        · rw [if_neg c22] at hf
          refine Z.iload (n := 79) dX12_costOf_77 rfl rfl ?_
          refine Z.iconst (n := 80) (v := 1) dX12_costOf_79 rfl (by decide +kernel) ?_
          refine Z.icmp_ne (tgt := 96) (n := 83) dX12_costOf_80 rfl rfl (fun c23 => ?_) (fun c23 => ?_)
          · rw [if_neg c23] at hf
            refine Z.iload (n := 98) dX12_costOf_96 rfl rfl ?_
            refine Z.iconst (n := 99) (v := 2) dX12_costOf_98 rfl (by decide +kernel) ?_
            refine Z.icmp_ne (tgt := 115) (n := 102) dX12_costOf_99 rfl rfl (fun c24 => ?_) (fun c24 => ?_)
            · rw [if_neg c24] at hf
              refine Z.iload_n (n := 116) dX12_costOf_115 rfl rfl ?_
              refine Z.fg [7] ?_
              exact zX12_costOf_116 hJ ih _ _ _ _ _ _ _ _ hf
            · rw [if_pos c24] at hf
              refine Z.aload_n (n := 103) dX12_costOf_102 rfl rfl ?_
              refine Z.getf (n := 106) fX12_9 dX12_costOf_103 rfl W93 rfl ?_
              refine Z.sipush (n := 109) (v := 270) dX12_costOf_106 rfl (by decide +kernel) ?_
              refine Z.iload_n (n := 110) dX12_costOf_109 rfl rfl ?_
              refine Z.iadd (n := 111) dX12_costOf_110 rfl ?_
              obtain ⟨j32, ej32, hf⟩ := Option.bind_eq_some_iff.mp hf
              obtain ⟨hij32, hlj32⟩ := ck_spec ej32
              refine Z.iald (j := j32) (n := 112) dX12_costOf_111 rfl W94 hij32 hlj32 (by decide) ?_
              refine Z.goto (tgt := 116) dX12_costOf_112 rfl ?_
              refine Z.fg [7] ?_
              exact zX12_costOf_116 hJ ih _ _ _ _ _ _ _ _ hf
          · rw [if_pos c23] at hf
            refine Z.aload_n (n := 84) dX12_costOf_83 rfl rfl ?_
            refine Z.getf (n := 87) fX12_9 dX12_costOf_84 rfl W93 rfl ?_
            refine Z.sipush (n := 90) (v := 270) dX12_costOf_87 rfl (by decide +kernel) ?_
            refine Z.iload_n (n := 91) dX12_costOf_90 rfl rfl ?_
            refine Z.iadd (n := 92) dX12_costOf_91 rfl ?_
            obtain ⟨j33, ej33, hf⟩ := Option.bind_eq_some_iff.mp hf
            obtain ⟨hij33, hlj33⟩ := ck_spec ej33
            refine Z.iald (j := j33) (n := 93) dX12_costOf_92 rfl W94 hij33 hlj33 (by decide) ?_
            refine Z.goto (tgt := 116) dX12_costOf_93 rfl ?_
            refine Z.fg [7] ?_
            exact zX12_costOf_116 hJ ih _ _ _ _ _ _ _ _ hf
        · rw [if_pos c22] at hf
          refine Z.aload_n (n := 51) dX12_costOf_50 rfl rfl ?_
          refine Z.getf (n := 54) fX12_9 dX12_costOf_51 rfl W93 rfl ?_
          refine Z.sipush (n := 57) (v := 280) dX12_costOf_54 rfl (by decide +kernel) ?_
          refine Z.iload_n (n := 58) dX12_costOf_57 rfl rfl ?_
          refine Z.iadd (n := 59) dX12_costOf_58 rfl ?_
          obtain ⟨j34, ej34, hf⟩ := Option.bind_eq_some_iff.mp hf
          obtain ⟨hij34, hlj34⟩ := ck_spec ej34
          refine Z.iald (j := j34) (n := 60) dX12_costOf_59 rfl W94 hij34 hlj34 (by decide) ?_
          refine Z.aload_n (n := 61) dX12_costOf_60 rfl rfl ?_
          refine Z.getf (n := 64) fX12_9 dX12_costOf_61 rfl W93 rfl ?_
          refine Z.sipush (n := 67) (v := 280) dX12_costOf_64 rfl (by decide +kernel) ?_
          refine Z.iload_n (n := 68) dX12_costOf_67 rfl rfl ?_
          refine Z.iadd (n := 69) dX12_costOf_68 rfl ?_
          obtain ⟨j35, ej35, hf⟩ := Option.bind_eq_some_iff.mp hf
          obtain ⟨hij35, hlj35⟩ := ck_spec ej35
          refine Z.iald (j := j35) (n := 70) dX12_costOf_69 rfl W94 hij35 hlj35 (by decide) ?_
          refine Z.isub (n := 71) dX12_costOf_70 rfl ?_
          obtain ⟨z36, ez36, hf⟩ := Option.bind_eq_some_iff.mp hf
          refine Z.callS (n := 74) vX12_121 (ctX12_size ez36) hJ.rm (Nat.le_of_ble_eq_true rfl) rfl rfl (Nat.le_refl _) (Nat.le_refl _) rfl (Nat.le_of_ble_eq_true rfl) rfl dX12_costOf_71 rfl (fun v w hw => ?_)
          obtain ⟨rfl, rfl⟩ := hw
          show Z _ _ _ _ _ _ _ [.int z36.1] _
          refine Z.goto (tgt := 116) dX12_costOf_74 rfl ?_
          refine Z.fg [7] ?_
          exact zX12_costOf_116 hJ ih _ _ _ _ _ _ _ _ hf
def fX12_costOf (l1 : Int32) (l2 : Int32) (h : HT) : Option (Int32 × HT) :=
  fX12_costOf_10 1000 l1 l2 0 0 130 h
set_option maxHeartbeats 4000000 in
theorem ctX12_costOf {g : GP} {a : Nat → Nat} {P : PT} {h : HT} {z : Int32 × HT} {l1 : Int32} {l2 : Int32} (hf : fX12_costOf l1 l2 h = some z) : Ct g 2 0 0 mX12_costOf [.ref (a 93), .int l1, .int l2] (WD g a h P) (PoI g a P z) := by
  refine Ct.of (by decide +kernel) (Nat.le_of_ble_eq_true rfl) fun J hJ => ?_
  show Z g mX12_costOf J 0 0 0 [some (.ref (a 93)), some (.int l1), some (.int l2), none, none, none, none, none, none, none, none] [] (WD g a h P)
  unfold fX12_costOf at hf
  refine Z.iconst (n := 1) (v := 0) dX12_costOf_0 rfl (by decide +kernel) ?_
  refine Z.istore_n (n := 2) dX12_costOf_1 rfl (by decide) rfl ?_
  refine Z.iconst (n := 3) (v := 0) dX12_costOf_2 rfl (by decide +kernel) ?_
  refine Z.istore (n := 5) dX12_costOf_3 rfl (by decide) rfl ?_
  refine Z.sipush (n := 8) (v := 130) dX12_costOf_5 rfl (by decide +kernel) ?_
  refine Z.istore (n := 10) dX12_costOf_8 rfl (by decide) rfl ?_
  exact zX12_costOf_10 hJ _ _ _ _ _ _ _ hf
def fX12_cost_16 (h : HT) : Option (Int32 × HT) :=
  some ((-1), h)
set_option maxHeartbeats 4000000 in
theorem zX12_cost_16 {g : GP} {a : Nat → Nat} {P : PT} {J : JT} {z : Int32 × HT} (hJ : JX g 3 0 0 (PoI g a P z) J) (h : HT) (hf : fX12_cost_16 h = some z) : Z g mX12_cost J 0 0 16 [none, none, none] [] (WD g a h P) := by
  unfold fX12_cost_16 at hf
  refine Z.iconst (n := 17) (v := -1) dX12_cost_16 rfl (by decide +kernel) ?_
  have hz := Option.some.inj hf
  subst hz
  exact Z.iret hJ dX12_cost_17 rfl (Nat.le_refl _) (Nat.le_refl _) ⟨rfl, rfl⟩
def fX12_cost_34 (s0 : Int32) (h : HT) : Option (Int32 × HT) :=
  some (s0, h)
set_option maxHeartbeats 4000000 in
theorem zX12_cost_34 {g : GP} {a : Nat → Nat} {P : PT} {J : JT} {z : Int32 × HT} (hJ : JX g 3 0 0 (PoI g a P z) J) (s0 : Int32) (h : HT) (hf : fX12_cost_34 s0 h = some z) : Z g mX12_cost J 0 0 34 [none, none, none] [.int s0] (WD g a h P) := by
  unfold fX12_cost_34 at hf
  have hz := Option.some.inj hf
  subst hz
  exact Z.iret hJ dX12_cost_34 rfl (Nat.le_refl _) (Nat.le_refl _) ⟨rfl, rfl⟩
def fX12_cost (l1 : Int32) (l2 : Int32) (h : HT) : Option (Int32 × HT) :=
  Option.bind (fX12_isKing l1 h) fun z1 =>
  if z1.1 = 0 then (fX12_cost_16 z1.2)
  else (Option.bind (fX12_isKing l2 z1.2) fun z3 =>
  if z3.1 = 0 then (fX12_cost_16 z3.2)
  else (if l1 = l2 then (fX12_cost_34 (-2) z3.2)
  else (Option.bind (fX12_costOf l1 l2 z3.2) fun z6 =>
  fX12_cost_34 z6.1 z6.2)))
set_option maxHeartbeats 4000000 in
theorem ctX12_cost {g : GP} {a : Nat → Nat} {P : PT} {h : HT} {z : Int32 × HT} {l1 : Int32} {l2 : Int32} (hf : fX12_cost l1 l2 h = some z) : Ct g 3 0 0 mX12_cost [.ref (a 93), .int l1, .int l2] (WD g a h P) (PoI g a P z) := by
  refine Ct.of (by decide +kernel) (Nat.le_of_ble_eq_true rfl) fun J hJ => ?_
  show Z g mX12_cost J 0 0 0 [some (.ref (a 93)), some (.int l1), some (.int l2)] [] (WD g a h P)
  unfold fX12_cost at hf
  refine Z.aload_n (n := 1) dX12_cost_0 rfl rfl ?_
  refine Z.iload_n (n := 2) dX12_cost_1 rfl rfl ?_
  obtain ⟨z1, ez1, hf⟩ := Option.bind_eq_some_iff.mp hf
  refine Z.callV (n := 5) vX12_45 (ctX12_isKing ez1) hJ.rm (Nat.le_of_ble_eq_true rfl) rfl rfl (Nat.le_refl _) (Nat.le_refl _) rfl W93 rfl rfl (Nat.le_of_ble_eq_true rfl) rfl dX12_cost_2 rfl (fun v w hw => ?_)
  obtain ⟨rfl, rfl⟩ := hw
  show Z _ _ _ _ _ _ _ [.int z1.1] _
  refine Z.if_eq (tgt := 16) (n := 8) dX12_cost_5 rfl rfl (fun c2 => ?_) (fun c2 => ?_)
  · rw [if_pos c2] at hf
    refine Z.fg [0, 1, 2] ?_
    exact zX12_cost_16 hJ _ hf
  · rw [if_neg c2] at hf
    refine Z.aload_n (n := 9) dX12_cost_8 rfl rfl ?_
    refine Z.iload_n (n := 10) dX12_cost_9 rfl rfl ?_
    obtain ⟨z3, ez3, hf⟩ := Option.bind_eq_some_iff.mp hf
    refine Z.callV (n := 13) vX12_45 (ctX12_isKing ez3) hJ.rm (Nat.le_of_ble_eq_true rfl) rfl rfl (Nat.le_refl _) (Nat.le_refl _) rfl W93 rfl rfl (Nat.le_of_ble_eq_true rfl) rfl dX12_cost_10 rfl (fun v w hw => ?_)
    obtain ⟨rfl, rfl⟩ := hw
    show Z _ _ _ _ _ _ _ [.int z3.1] _
    refine Z.if_ne (tgt := 18) (n := 16) dX12_cost_13 rfl rfl (fun c4 => ?_) (fun c4 => ?_)
    · rw [if_neg c4] at hf
      refine Z.iload_n (n := 19) dX12_cost_18 rfl rfl ?_
      refine Z.iload_n (n := 20) dX12_cost_19 rfl rfl ?_
      refine Z.icmp_ne (tgt := 28) (n := 23) dX12_cost_20 rfl rfl (fun c5 => ?_) (fun c5 => ?_)
      · rw [if_neg c5] at hf
        refine Z.aload_n (n := 29) dX12_cost_28 rfl rfl ?_
        refine Z.iload_n (n := 30) dX12_cost_29 rfl rfl ?_
        refine Z.iload_n (n := 31) dX12_cost_30 rfl rfl ?_
        obtain ⟨z6, ez6, hf⟩ := Option.bind_eq_some_iff.mp hf
        refine Z.callV (n := 34) vX12_125 (ctX12_costOf ez6) hJ.rm (Nat.le_of_ble_eq_true rfl) rfl rfl (Nat.le_refl _) (Nat.le_refl _) rfl W93 rfl rfl (Nat.le_of_ble_eq_true rfl) rfl dX12_cost_31 rfl (fun v w hw => ?_)
        obtain ⟨rfl, rfl⟩ := hw
        show Z _ _ _ _ _ _ _ [.int z6.1] _
        refine Z.fg [0, 1, 2] ?_
        exact zX12_cost_34 hJ _ _ hf
      · rw [if_pos c5] at hf
        refine Z.bipush (n := 25) (v := -2) dX12_cost_23 rfl (by decide +kernel) ?_
        refine Z.goto (tgt := 34) dX12_cost_25 rfl ?_
        refine Z.fg [0, 1, 2] ?_
        exact zX12_cost_34 hJ _ _ hf
    · rw [if_pos c4] at hf
      refine Z.fg [0, 1, 2] ?_
      exact zX12_cost_16 hJ _ hf
def fX12_forceOf_48 (s0 : Int32) (h : HT) : Option (Int32 × HT) :=
  some (s0, h)
set_option maxHeartbeats 4000000 in
theorem zX12_forceOf_48 {g : GP} {a : Nat → Nat} {P : PT} {J : JT} {z : Int32 × HT} (hJ : JX g 2 0 0 (PoI g a P z) J) (s0 : Int32) (h : HT) (hf : fX12_forceOf_48 s0 h = some z) : Z g mX12_forceOf J 0 0 48 [none, none, none, none] [.int s0] (WD g a h P) := by
  unfold fX12_forceOf_48 at hf
  have hz := Option.some.inj hf
  subst hz
  exact Z.iret hJ dX12_forceOf_48 rfl (Nat.le_refl _) (Nat.le_refl _) ⟨rfl, rfl⟩
def fX12_forceOf (l1 : Int32) (l2 : Int32) (h : HT) : Option (Int32 × HT) :=
  Option.bind (ck 490 ((270 : Int32) + l1)) fun j1 =>
  Option.bind (ck 490 ((280 : Int32) + l1)) fun j2 =>
  Option.bind (fX12_size ((h 94 j2) - l2) h) fun z3 =>
  if 0 ≤ (((1000 : Int32) * (h 94 j1)) - ((h 94 7) * z3.1)) then (fX12_forceOf_48 (((1000 : Int32) * (h 94 j1)) - ((h 94 7) * z3.1)) z3.2)
  else (fX12_forceOf_48 0 z3.2)
set_option maxHeartbeats 4000000 in
theorem ctX12_forceOf {g : GP} {a : Nat → Nat} {P : PT} {h : HT} {z : Int32 × HT} {l1 : Int32} {l2 : Int32} (hf : fX12_forceOf l1 l2 h = some z) : Ct g 2 0 0 mX12_forceOf [.ref (a 93), .int l1, .int l2] (WD g a h P) (PoI g a P z) := by
  refine Ct.of (by decide +kernel) (Nat.le_of_ble_eq_true rfl) fun J hJ => ?_
  show Z g mX12_forceOf J 0 0 0 [some (.ref (a 93)), some (.int l1), some (.int l2), none] [] (WD g a h P)
  unfold fX12_forceOf at hf
  refine Z.sipush (n := 3) (v := 1000) dX12_forceOf_0 rfl (by decide +kernel) ?_
  refine Z.aload_n (n := 4) dX12_forceOf_3 rfl rfl ?_
  refine Z.getf (n := 7) fX12_9 dX12_forceOf_4 rfl W93 rfl ?_
  refine Z.sipush (n := 10) (v := 270) dX12_forceOf_7 rfl (by decide +kernel) ?_
  refine Z.iload_n (n := 11) dX12_forceOf_10 rfl rfl ?_
  refine Z.iadd (n := 12) dX12_forceOf_11 rfl ?_
  obtain ⟨j1, ej1, hf⟩ := Option.bind_eq_some_iff.mp hf
  obtain ⟨hij1, hlj1⟩ := ck_spec ej1
  refine Z.iald (j := j1) (n := 13) dX12_forceOf_12 rfl W94 hij1 hlj1 (by decide) ?_
  refine Z.imul (n := 14) dX12_forceOf_13 rfl ?_
  refine Z.aload_n (n := 15) dX12_forceOf_14 rfl rfl ?_
  refine Z.getf (n := 18) fX12_9 dX12_forceOf_15 rfl W93 rfl ?_
  refine Z.bipush (n := 20) (v := 7) dX12_forceOf_18 rfl (by decide +kernel) ?_
  refine Z.iald (j := 7) (n := 21) dX12_forceOf_20 rfl W94 (by decide +kernel) (by decide) (by decide) ?_
  refine Z.aload_n (n := 22) dX12_forceOf_21 rfl rfl ?_
  refine Z.getf (n := 25) fX12_9 dX12_forceOf_22 rfl W93 rfl ?_
  refine Z.sipush (n := 28) (v := 280) dX12_forceOf_25 rfl (by decide +kernel) ?_
  refine Z.iload_n (n := 29) dX12_forceOf_28 rfl rfl ?_
  refine Z.iadd (n := 30) dX12_forceOf_29 rfl ?_
  obtain ⟨j2, ej2, hf⟩ := Option.bind_eq_some_iff.mp hf
  obtain ⟨hij2, hlj2⟩ := ck_spec ej2
  refine Z.iald (j := j2) (n := 31) dX12_forceOf_30 rfl W94 hij2 hlj2 (by decide) ?_
  refine Z.iload_n (n := 32) dX12_forceOf_31 rfl rfl ?_
  refine Z.isub (n := 33) dX12_forceOf_32 rfl ?_
  obtain ⟨z3, ez3, hf⟩ := Option.bind_eq_some_iff.mp hf
  refine Z.callS (n := 36) vX12_121 (ctX12_size ez3) hJ.rm (Nat.le_of_ble_eq_true rfl) rfl rfl (Nat.le_refl _) (Nat.le_refl _) rfl (Nat.le_of_ble_eq_true rfl) rfl dX12_forceOf_33 rfl (fun v w hw => ?_)
  obtain ⟨rfl, rfl⟩ := hw
  show Z _ _ _ _ _ _ _ [.int z3.1, .int (h 94 7), .int ((1000 : Int32) * (h 94 j1))] _
  refine Z.imul (n := 37) dX12_forceOf_36 rfl ?_
  refine Z.isub (n := 38) dX12_forceOf_37 rfl ?_
  refine Z.istore_n (n := 39) dX12_forceOf_38 rfl (by decide) rfl ?_
  refine Z.iload_n (n := 40) dX12_forceOf_39 rfl rfl ?_
  refine Z.if_ge (tgt := 47) (n := 43) dX12_forceOf_40 rfl rfl (fun c4 => ?_) (fun c4 => ?_)
  · rw [if_pos c4] at hf
    refine Z.iload_n (n := 48) dX12_forceOf_47 rfl rfl ?_
    refine Z.fg [0, 1, 2, 3] ?_
    exact zX12_forceOf_48 hJ _ _ hf
  · rw [if_neg c4] at hf
    refine Z.iconst (n := 44) (v := 0) dX12_forceOf_43 rfl (by decide +kernel) ?_
    refine Z.goto (tgt := 48) dX12_forceOf_44 rfl ?_
    refine Z.fg [0, 1, 2, 3] ?_
    exact zX12_forceOf_48 hJ _ _ hf
def fX12_force_31 (s0 : Int32) (h : HT) : Option (Int32 × HT) :=
  some (s0, h)
set_option maxHeartbeats 4000000 in
theorem zX12_force_31 {g : GP} {a : Nat → Nat} {P : PT} {J : JT} {z : Int32 × HT} (hJ : JX g 3 0 0 (PoI g a P z) J) (s0 : Int32) (h : HT) (hf : fX12_force_31 s0 h = some z) : Z g mX12_force J 0 0 31 [none, none, none] [.int s0] (WD g a h P) := by
  unfold fX12_force_31 at hf
  have hz := Option.some.inj hf
  subst hz
  exact Z.iret hJ dX12_force_31 rfl (Nat.le_refl _) (Nat.le_refl _) ⟨rfl, rfl⟩
def fX12_force (l1 : Int32) (l2 : Int32) (h : HT) : Option (Int32 × HT) :=
  Option.bind (fX12_isKing l1 h) fun z1 =>
  if z1.1 = 0 then (some ((-1), z1.2))
  else (Option.bind (fX12_in l2 0 40 z1.2) fun z3 =>
  if z3.1 = 0 then (fX12_force_31 (-2) z3.2)
  else (Option.bind (fX12_forceOf l1 l2 z3.2) fun z5 =>
  fX12_force_31 z5.1 z5.2))
set_option maxHeartbeats 4000000 in
theorem ctX12_force {g : GP} {a : Nat → Nat} {P : PT} {h : HT} {z : Int32 × HT} {l1 : Int32} {l2 : Int32} (hf : fX12_force l1 l2 h = some z) : Ct g 3 0 0 mX12_force [.ref (a 93), .int l1, .int l2] (WD g a h P) (PoI g a P z) := by
  refine Ct.of (by decide +kernel) (Nat.le_of_ble_eq_true rfl) fun J hJ => ?_
  show Z g mX12_force J 0 0 0 [some (.ref (a 93)), some (.int l1), some (.int l2)] [] (WD g a h P)
  unfold fX12_force at hf
  refine Z.aload_n (n := 1) dX12_force_0 rfl rfl ?_
  refine Z.iload_n (n := 2) dX12_force_1 rfl rfl ?_
  obtain ⟨z1, ez1, hf⟩ := Option.bind_eq_some_iff.mp hf
  refine Z.callV (n := 5) vX12_45 (ctX12_isKing ez1) hJ.rm (Nat.le_of_ble_eq_true rfl) rfl rfl (Nat.le_refl _) (Nat.le_refl _) rfl W93 rfl rfl (Nat.le_of_ble_eq_true rfl) rfl dX12_force_2 rfl (fun v w hw => ?_)
  obtain ⟨rfl, rfl⟩ := hw
  show Z _ _ _ _ _ _ _ [.int z1.1] _
  refine Z.if_ne (tgt := 10) (n := 8) dX12_force_5 rfl rfl (fun c2 => ?_) (fun c2 => ?_)
  · rw [if_neg c2] at hf
    refine Z.iload_n (n := 11) dX12_force_10 rfl rfl ?_
    refine Z.iconst (n := 12) (v := 0) dX12_force_11 rfl (by decide +kernel) ?_
    refine Z.bipush (n := 14) (v := 40) dX12_force_12 rfl (by decide +kernel) ?_
    obtain ⟨z3, ez3, hf⟩ := Option.bind_eq_some_iff.mp hf
    refine Z.callS (n := 17) vX12_41 (ctX12_in ez3) hJ.rm (Nat.le_of_ble_eq_true rfl) rfl rfl (Nat.le_refl _) (Nat.le_refl _) rfl (Nat.le_of_ble_eq_true rfl) rfl dX12_force_14 rfl (fun v w hw => ?_)
    obtain ⟨rfl, rfl⟩ := hw
    show Z _ _ _ _ _ _ _ [.int z3.1] _
    refine Z.if_eq (tgt := 29) (n := 20) dX12_force_17 rfl rfl (fun c4 => ?_) (fun c4 => ?_)
    · rw [if_pos c4] at hf
      refine Z.bipush (n := 31) (v := -2) dX12_force_29 rfl (by decide +kernel) ?_
      refine Z.fg [0, 1, 2] ?_
      exact zX12_force_31 hJ _ _ hf
    · rw [if_neg c4] at hf
      refine Z.aload_n (n := 21) dX12_force_20 rfl rfl ?_
      refine Z.iload_n (n := 22) dX12_force_21 rfl rfl ?_
      refine Z.iload_n (n := 23) dX12_force_22 rfl rfl ?_
      obtain ⟨z5, ez5, hf⟩ := Option.bind_eq_some_iff.mp hf
      refine Z.callV (n := 26) vX12_129 (ctX12_forceOf ez5) hJ.rm (Nat.le_of_ble_eq_true rfl) rfl rfl (Nat.le_refl _) (Nat.le_refl _) rfl W93 rfl rfl (Nat.le_of_ble_eq_true rfl) rfl dX12_force_23 rfl (fun v w hw => ?_)
      obtain ⟨rfl, rfl⟩ := hw
      show Z _ _ _ _ _ _ _ [.int z5.1] _
      refine Z.goto (tgt := 31) dX12_force_26 rfl ?_
      refine Z.fg [0, 1, 2] ?_
      exact zX12_force_31 hJ _ _ hf
  · rw [if_pos c2] at hf
    refine Z.iconst (n := 9) (v := -1) dX12_force_8 rfl (by decide +kernel) ?_
    have hz := Option.some.inj hf
    subst hz
    exact Z.iret hJ dX12_force_9 rfl (Nat.le_refl _) (Nat.le_refl _) ⟨rfl, rfl⟩
def fX12_standing_71 : Nat → Int32 → Int32 → HT → Option (Int32 × HT)
  | 0, _, _, _ => none
  | n + 1, l3, l4, h =>
  if 7 ≤ l4 then (some (l3, hu h 94 2 ((h 94 2) + (1 : Int32))))
  else (Option.bind (ck 490 (((430 : Int32) + ((7 : Int32) * l3)) + l4)) fun j9 =>
  fX12_standing_71  n l3 (l4 + 1) (hu h 94 j9 l4))
set_option maxHeartbeats 4000000 in
theorem zX12_standing_71 {g : GP} {a : Nat → Nat} {P : PT} {J : JT} {z : Int32 × HT} (hJ : JX g 2 0 0 (PoI g a P z) J) : ∀ (n : Nat) (l3 : Int32) (l4 : Int32) (h : HT), fX12_standing_71 n l3 l4 h = some z → Z g mX12_standing J 0 0 71 [some (.ref (a 93)), none, none, some (.int l3), some (.int l4)] [] (WD g a h P) := by
  intro n
  induction n with
  | zero =>
    intro _ _ _ hf
    cases hf
  | succ n ih =>
    intro l3 l4 h hf
    unfold fX12_standing_71 at hf
    refine Z.iload (n := 73) dX12_standing_71 rfl rfl ?_
    refine Z.bipush (n := 75) (v := 7) dX12_standing_73 rfl (by decide +kernel) ?_
    refine Z.icmp_ge (tgt := 102) (n := 78) dX12_standing_75 rfl rfl (fun c8 => ?_) (fun c8 => ?_)
    · rw [if_pos c8] at hf
      refine Z.aload_n (n := 103) dX12_standing_102 rfl rfl ?_
      refine Z.getf (n := 106) fX12_9 dX12_standing_103 rfl W93 rfl ?_
      refine Z.iconst (n := 107) (v := 2) dX12_standing_106 rfl (by decide +kernel) ?_
      refine Z.dup2 (n := 108) dX12_standing_107 rfl rfl rfl ?_
      refine Z.iald (j := 2) (n := 109) dX12_standing_108 rfl W94 (by decide +kernel) (by decide) (by decide) ?_
      refine Z.iconst (n := 110) (v := 1) dX12_standing_109 rfl (by decide +kernel) ?_
      refine Z.iadd (n := 111) dX12_standing_110 rfl ?_
      refine Z.iast (j := 2) (n := 112) dX12_standing_111 rfl W94 (by decide +kernel) (by decide) (by decide) W94s ?_
      refine Z.iload_n (n := 113) dX12_standing_112 rfl rfl ?_
      have hz := Option.some.inj hf
      subst hz
      exact Z.iret hJ dX12_standing_113 rfl (Nat.le_refl _) (Nat.le_refl _) ⟨rfl, rfl⟩
    · rw [if_neg c8] at hf
      refine Z.aload_n (n := 79) dX12_standing_78 rfl rfl ?_
      refine Z.getf (n := 82) fX12_9 dX12_standing_79 rfl W93 rfl ?_
      refine Z.sipush (n := 85) (v := 430) dX12_standing_82 rfl (by decide +kernel) ?_
      refine Z.bipush (n := 87) (v := 7) dX12_standing_85 rfl (by decide +kernel) ?_
      refine Z.iload_n (n := 88) dX12_standing_87 rfl rfl ?_
      refine Z.imul (n := 89) dX12_standing_88 rfl ?_
      refine Z.iadd (n := 90) dX12_standing_89 rfl ?_
      refine Z.iload (n := 92) dX12_standing_90 rfl rfl ?_
      refine Z.iadd (n := 93) dX12_standing_92 rfl ?_
      refine Z.iload (n := 95) dX12_standing_93 rfl rfl ?_
      obtain ⟨j9, ej9, hf⟩ := Option.bind_eq_some_iff.mp hf
      obtain ⟨hij9, hlj9⟩ := ck_spec ej9
      refine Z.iast (j := j9) (n := 96) dX12_standing_95 rfl W94 hij9 hlj9 (by decide) W94s ?_
      refine Z.iinc (n := 99) (v := l4 + 1) dX12_standing_96 rfl rfl rfl (by decide) rfl ?_
      refine Z.goto (tgt := 71) dX12_standing_99 rfl ?_
      exact ih _ _ _ hf
def fX12_standing (l1 : Int32) (l2 : Int32) (h : HT) : Option (Int32 × HT) :=
  Option.bind (fX12_in l1 0 6 h) fun z1 =>
  if z1.1 = 0 then (some ((-1), z1.2))
  else (Option.bind (fX12_in l2 0 9 z1.2) fun z3 =>
  if z3.1 = 0 then (some ((-2), z3.2))
  else (if (z3.2 94 2) = 8 then (some ((-4), z3.2))
  else (Option.bind (ck 490 ((410 : Int32) + (z3.2 94 2))) fun j6 =>
  Option.bind (ck 490 ((420 : Int32) + (z3.2 94 2))) fun j7 =>
  fX12_standing_71 1000 (z3.2 94 2) 0 (hu (hu z3.2 94 j6 l1) 94 j7 l2))))
set_option maxHeartbeats 4000000 in
theorem ctX12_standing {g : GP} {a : Nat → Nat} {P : PT} {h : HT} {z : Int32 × HT} {l1 : Int32} {l2 : Int32} (hf : fX12_standing l1 l2 h = some z) : Ct g 2 0 0 mX12_standing [.ref (a 93), .int l1, .int l2] (WD g a h P) (PoI g a P z) := by
  refine Ct.of (by decide +kernel) (Nat.le_of_ble_eq_true rfl) fun J hJ => ?_
  show Z g mX12_standing J 0 0 0 [some (.ref (a 93)), some (.int l1), some (.int l2), none, none] [] (WD g a h P)
  unfold fX12_standing at hf
  refine Z.iload_n (n := 1) dX12_standing_0 rfl rfl ?_
  refine Z.iconst (n := 2) (v := 0) dX12_standing_1 rfl (by decide +kernel) ?_
  refine Z.bipush (n := 4) (v := 6) dX12_standing_2 rfl (by decide +kernel) ?_
  obtain ⟨z1, ez1, hf⟩ := Option.bind_eq_some_iff.mp hf
  refine Z.callS (n := 7) vX12_41 (ctX12_in ez1) hJ.rm (Nat.le_of_ble_eq_true rfl) rfl rfl (Nat.le_refl _) (Nat.le_refl _) rfl (Nat.le_of_ble_eq_true rfl) rfl dX12_standing_4 rfl (fun v w hw => ?_)
  obtain ⟨rfl, rfl⟩ := hw
  show Z _ _ _ _ _ _ _ [.int z1.1] _
  refine Z.if_ne (tgt := 12) (n := 10) dX12_standing_7 rfl rfl (fun c2 => ?_) (fun c2 => ?_)
  · rw [if_neg c2] at hf
    refine Z.iload_n (n := 13) dX12_standing_12 rfl rfl ?_
    refine Z.iconst (n := 14) (v := 0) dX12_standing_13 rfl (by decide +kernel) ?_
    refine Z.bipush (n := 16) (v := 9) dX12_standing_14 rfl (by decide +kernel) ?_
    obtain ⟨z3, ez3, hf⟩ := Option.bind_eq_some_iff.mp hf
    refine Z.callS (n := 19) vX12_41 (ctX12_in ez3) hJ.rm (Nat.le_of_ble_eq_true rfl) rfl rfl (Nat.le_refl _) (Nat.le_refl _) rfl (Nat.le_of_ble_eq_true rfl) rfl dX12_standing_16 rfl (fun v w hw => ?_)
    obtain ⟨rfl, rfl⟩ := hw
    show Z _ _ _ _ _ _ _ [.int z3.1] _
    refine Z.if_ne (tgt := 25) (n := 22) dX12_standing_19 rfl rfl (fun c4 => ?_) (fun c4 => ?_)
    · rw [if_neg c4] at hf
      refine Z.aload_n (n := 26) dX12_standing_25 rfl rfl ?_
      refine Z.getf (n := 29) fX12_9 dX12_standing_26 rfl W93 rfl ?_
      refine Z.iconst (n := 30) (v := 2) dX12_standing_29 rfl (by decide +kernel) ?_
      refine Z.iald (j := 2) (n := 31) dX12_standing_30 rfl W94 (by decide +kernel) (by decide) (by decide) ?_
      refine Z.bipush (n := 33) (v := 8) dX12_standing_31 rfl (by decide +kernel) ?_
      refine Z.icmp_ne (tgt := 39) (n := 36) dX12_standing_33 rfl rfl (fun c5 => ?_) (fun c5 => ?_)
      · rw [if_neg c5] at hf
        refine Z.aload_n (n := 40) dX12_standing_39 rfl rfl ?_
        refine Z.getf (n := 43) fX12_9 dX12_standing_40 rfl W93 rfl ?_
        refine Z.iconst (n := 44) (v := 2) dX12_standing_43 rfl (by decide +kernel) ?_
        refine Z.iald (j := 2) (n := 45) dX12_standing_44 rfl W94 (by decide +kernel) (by decide) (by decide) ?_
        refine Z.istore_n (n := 46) dX12_standing_45 rfl (by decide) rfl ?_
        refine Z.aload_n (n := 47) dX12_standing_46 rfl rfl ?_
        refine Z.getf (n := 50) fX12_9 dX12_standing_47 rfl W93 rfl ?_
        refine Z.sipush (n := 53) (v := 410) dX12_standing_50 rfl (by decide +kernel) ?_
        refine Z.iload_n (n := 54) dX12_standing_53 rfl rfl ?_
        refine Z.iadd (n := 55) dX12_standing_54 rfl ?_
        refine Z.iload_n (n := 56) dX12_standing_55 rfl rfl ?_
        obtain ⟨j6, ej6, hf⟩ := Option.bind_eq_some_iff.mp hf
        obtain ⟨hij6, hlj6⟩ := ck_spec ej6
        refine Z.iast (j := j6) (n := 57) dX12_standing_56 rfl W94 hij6 hlj6 (by decide) W94s ?_
        refine Z.aload_n (n := 58) dX12_standing_57 rfl rfl ?_
        refine Z.getf (n := 61) fX12_9 dX12_standing_58 rfl W93 rfl ?_
        refine Z.sipush (n := 64) (v := 420) dX12_standing_61 rfl (by decide +kernel) ?_
        refine Z.iload_n (n := 65) dX12_standing_64 rfl rfl ?_
        refine Z.iadd (n := 66) dX12_standing_65 rfl ?_
        refine Z.iload_n (n := 67) dX12_standing_66 rfl rfl ?_
        obtain ⟨j7, ej7, hf⟩ := Option.bind_eq_some_iff.mp hf
        obtain ⟨hij7, hlj7⟩ := ck_spec ej7
        refine Z.iast (j := j7) (n := 68) dX12_standing_67 rfl W94 hij7 hlj7 (by decide) W94s ?_
        refine Z.iconst (n := 69) (v := 0) dX12_standing_68 rfl (by decide +kernel) ?_
        refine Z.istore (n := 71) dX12_standing_69 rfl (by decide) rfl ?_
        refine Z.fg [1, 2] ?_
        exact zX12_standing_71 hJ _ _ _ _ hf
      · rw [if_pos c5] at hf
        refine Z.bipush (n := 38) (v := -4) dX12_standing_36 rfl (by decide +kernel) ?_
        have hz := Option.some.inj hf
        subst hz
        exact Z.iret hJ dX12_standing_38 rfl (Nat.le_refl _) (Nat.le_refl _) ⟨rfl, rfl⟩
    · rw [if_pos c4] at hf
      refine Z.bipush (n := 24) (v := -2) dX12_standing_22 rfl (by decide +kernel) ?_
      have hz := Option.some.inj hf
      subst hz
      exact Z.iret hJ dX12_standing_24 rfl (Nat.le_refl _) (Nat.le_refl _) ⟨rfl, rfl⟩
  · rw [if_pos c2] at hf
    refine Z.iconst (n := 11) (v := -1) dX12_standing_10 rfl (by decide +kernel) ?_
    have hz := Option.some.inj hf
    subst hz
    exact Z.iret hJ dX12_standing_11 rfl (Nat.le_refl _) (Nat.le_refl _) ⟨rfl, rfl⟩
def fX12_isStanding (l1 : Int32) (h : HT) : Option (Int32 × HT) :=
  Option.bind (fX12_in l1 0 ((h 94 2) - (1 : Int32)) h) fun z1 =>
  Option.bind (cb z1.1) fun u2 =>
  some (z1.1, z1.2)
set_option maxHeartbeats 4000000 in
theorem ctX12_isStanding {g : GP} {a : Nat → Nat} {P : PT} {h : HT} {z : Int32 × HT} {l1 : Int32} (hf : fX12_isStanding l1 h = some z) : Ct g 2 0 0 mX12_isStanding [.ref (a 93), .int l1] (WD g a h P) (PoI g a P z) := by
  refine Ct.of (by decide +kernel) (Nat.le_of_ble_eq_true rfl) fun J hJ => ?_
  show Z g mX12_isStanding J 0 0 0 [some (.ref (a 93)), some (.int l1)] [] (WD g a h P)
  unfold fX12_isStanding at hf
  refine Z.iload_n (n := 1) dX12_isStanding_0 rfl rfl ?_
  refine Z.iconst (n := 2) (v := 0) dX12_isStanding_1 rfl (by decide +kernel) ?_
  refine Z.aload_n (n := 3) dX12_isStanding_2 rfl rfl ?_
  refine Z.getf (n := 6) fX12_9 dX12_isStanding_3 rfl W93 rfl ?_
  refine Z.iconst (n := 7) (v := 2) dX12_isStanding_6 rfl (by decide +kernel) ?_
  refine Z.iald (j := 2) (n := 8) dX12_isStanding_7 rfl W94 (by decide +kernel) (by decide) (by decide) ?_
  refine Z.iconst (n := 9) (v := 1) dX12_isStanding_8 rfl (by decide +kernel) ?_
  refine Z.isub (n := 10) dX12_isStanding_9 rfl ?_
  obtain ⟨z1, ez1, hf⟩ := Option.bind_eq_some_iff.mp hf
  refine Z.callS (n := 13) vX12_41 (ctX12_in ez1) hJ.rm (Nat.le_of_ble_eq_true rfl) rfl rfl (Nat.le_refl _) (Nat.le_refl _) rfl (Nat.le_of_ble_eq_true rfl) rfl dX12_isStanding_10 rfl (fun v w hw => ?_)
  obtain ⟨rfl, rfl⟩ := hw
  show Z _ _ _ _ _ _ _ [.int z1.1] _
  obtain ⟨u2, eu2, hf⟩ := Option.bind_eq_some_iff.mp hf
  have hz := Option.some.inj hf
  subst hz
  exact Z.zret hJ dX12_isStanding_13 rfl (cb_nar eu2) (Nat.le_refl _) (Nat.le_refl _) ⟨rfl, rfl⟩
def fX12_block_16 (h : HT) : Option (Int32 × HT) :=
  some ((-1), h)
set_option maxHeartbeats 4000000 in
theorem zX12_block_16 {g : GP} {a : Nat → Nat} {P : PT} {J : JT} {z : Int32 × HT} (hJ : JX g 3 0 0 (PoI g a P z) J) (h : HT) (hf : fX12_block_16 h = some z) : Z g mX12_block J 0 0 16 [none, none, none, none, none] [] (WD g a h P) := by
  unfold fX12_block_16 at hf
  refine Z.iconst (n := 17) (v := -1) dX12_block_16 rfl (by decide +kernel) ?_
  have hz := Option.some.inj hf
  subst hz
  exact Z.iret hJ dX12_block_17 rfl (Nat.le_refl _) (Nat.le_refl _) ⟨rfl, rfl⟩
def fX12_block (l1 : Int32) (l2 : Int32) (l3 : Int32) (h : HT) : Option (Int32 × HT) :=
  Option.bind (fX12_isStanding l1 h) fun z1 =>
  if z1.1 = 0 then (fX12_block_16 z1.2)
  else (Option.bind (fX12_isKing l2 z1.2) fun z3 =>
  if z3.1 = 0 then (fX12_block_16 z3.2)
  else (Option.bind (fX12_in l3 0 6 z3.2) fun z5 =>
  if z5.1 = 0 then (some ((-2), z5.2))
  else (Option.bind (ck 490 (((430 : Int32) + ((7 : Int32) * l1)) + l2)) fun j7 =>
  Option.bind (ck 490 (((430 : Int32) + ((7 : Int32) * l1)) + l2)) fun j8 =>
  some (z5.2 94 j7, hu z5.2 94 j8 l3))))
set_option maxHeartbeats 4000000 in
theorem ctX12_block {g : GP} {a : Nat → Nat} {P : PT} {h : HT} {z : Int32 × HT} {l1 : Int32} {l2 : Int32} {l3 : Int32} (hf : fX12_block l1 l2 l3 h = some z) : Ct g 3 0 0 mX12_block [.ref (a 93), .int l1, .int l2, .int l3] (WD g a h P) (PoI g a P z) := by
  refine Ct.of (by decide +kernel) (Nat.le_of_ble_eq_true rfl) fun J hJ => ?_
  show Z g mX12_block J 0 0 0 [some (.ref (a 93)), some (.int l1), some (.int l2), some (.int l3), none] [] (WD g a h P)
  unfold fX12_block at hf
  refine Z.aload_n (n := 1) dX12_block_0 rfl rfl ?_
  refine Z.iload_n (n := 2) dX12_block_1 rfl rfl ?_
  obtain ⟨z1, ez1, hf⟩ := Option.bind_eq_some_iff.mp hf
  refine Z.callV (n := 5) vX12_132 (ctX12_isStanding ez1) hJ.rm (Nat.le_of_ble_eq_true rfl) rfl rfl (Nat.le_refl _) (Nat.le_refl _) rfl W93 rfl rfl (Nat.le_of_ble_eq_true rfl) rfl dX12_block_2 rfl (fun v w hw => ?_)
  obtain ⟨rfl, rfl⟩ := hw
  show Z _ _ _ _ _ _ _ [.int z1.1] _
  refine Z.if_eq (tgt := 16) (n := 8) dX12_block_5 rfl rfl (fun c2 => ?_) (fun c2 => ?_)
  · rw [if_pos c2] at hf
    refine Z.fg [0, 1, 2, 3] ?_
    exact zX12_block_16 hJ _ hf
  · rw [if_neg c2] at hf
    refine Z.aload_n (n := 9) dX12_block_8 rfl rfl ?_
    refine Z.iload_n (n := 10) dX12_block_9 rfl rfl ?_
    obtain ⟨z3, ez3, hf⟩ := Option.bind_eq_some_iff.mp hf
    refine Z.callV (n := 13) vX12_45 (ctX12_isKing ez3) hJ.rm (Nat.le_of_ble_eq_true rfl) rfl rfl (Nat.le_refl _) (Nat.le_refl _) rfl W93 rfl rfl (Nat.le_of_ble_eq_true rfl) rfl dX12_block_10 rfl (fun v w hw => ?_)
    obtain ⟨rfl, rfl⟩ := hw
    show Z _ _ _ _ _ _ _ [.int z3.1] _
    refine Z.if_ne (tgt := 18) (n := 16) dX12_block_13 rfl rfl (fun c4 => ?_) (fun c4 => ?_)
    · rw [if_neg c4] at hf
      refine Z.iload_n (n := 19) dX12_block_18 rfl rfl ?_
      refine Z.iconst (n := 20) (v := 0) dX12_block_19 rfl (by decide +kernel) ?_
      refine Z.bipush (n := 22) (v := 6) dX12_block_20 rfl (by decide +kernel) ?_
      obtain ⟨z5, ez5, hf⟩ := Option.bind_eq_some_iff.mp hf
      refine Z.callS (n := 25) vX12_41 (ctX12_in ez5) hJ.rm (Nat.le_of_ble_eq_true rfl) rfl rfl (Nat.le_refl _) (Nat.le_refl _) rfl (Nat.le_of_ble_eq_true rfl) rfl dX12_block_22 rfl (fun v w hw => ?_)
      obtain ⟨rfl, rfl⟩ := hw
      show Z _ _ _ _ _ _ _ [.int z5.1] _
      refine Z.if_ne (tgt := 31) (n := 28) dX12_block_25 rfl rfl (fun c6 => ?_) (fun c6 => ?_)
      · rw [if_neg c6] at hf
        refine Z.aload_n (n := 32) dX12_block_31 rfl rfl ?_
        refine Z.getf (n := 35) fX12_9 dX12_block_32 rfl W93 rfl ?_
        refine Z.sipush (n := 38) (v := 430) dX12_block_35 rfl (by decide +kernel) ?_
        refine Z.bipush (n := 40) (v := 7) dX12_block_38 rfl (by decide +kernel) ?_
        refine Z.iload_n (n := 41) dX12_block_40 rfl rfl ?_
        refine Z.imul (n := 42) dX12_block_41 rfl ?_
        refine Z.iadd (n := 43) dX12_block_42 rfl ?_
        refine Z.iload_n (n := 44) dX12_block_43 rfl rfl ?_
        refine Z.iadd (n := 45) dX12_block_44 rfl ?_
        obtain ⟨j7, ej7, hf⟩ := Option.bind_eq_some_iff.mp hf
        obtain ⟨hij7, hlj7⟩ := ck_spec ej7
        refine Z.iald (j := j7) (n := 46) dX12_block_45 rfl W94 hij7 hlj7 (by decide) ?_
        refine Z.istore (n := 48) dX12_block_46 rfl (by decide) rfl ?_
        refine Z.aload_n (n := 49) dX12_block_48 rfl rfl ?_
        refine Z.getf (n := 52) fX12_9 dX12_block_49 rfl W93 rfl ?_
        refine Z.sipush (n := 55) (v := 430) dX12_block_52 rfl (by decide +kernel) ?_
        refine Z.bipush (n := 57) (v := 7) dX12_block_55 rfl (by decide +kernel) ?_
        refine Z.iload_n (n := 58) dX12_block_57 rfl rfl ?_
        refine Z.imul (n := 59) dX12_block_58 rfl ?_
        refine Z.iadd (n := 60) dX12_block_59 rfl ?_
        refine Z.iload_n (n := 61) dX12_block_60 rfl rfl ?_
        refine Z.iadd (n := 62) dX12_block_61 rfl ?_
        refine Z.iload_n (n := 63) dX12_block_62 rfl rfl ?_
        obtain ⟨j8, ej8, hf⟩ := Option.bind_eq_some_iff.mp hf
        obtain ⟨hij8, hlj8⟩ := ck_spec ej8
        refine Z.iast (j := j8) (n := 64) dX12_block_63 rfl W94 hij8 hlj8 (by decide) W94s ?_
        refine Z.iload (n := 66) dX12_block_64 rfl rfl ?_
        have hz := Option.some.inj hf
        subst hz
        exact Z.iret hJ dX12_block_66 rfl (Nat.le_refl _) (Nat.le_refl _) ⟨rfl, rfl⟩
      · rw [if_pos c6] at hf
        refine Z.bipush (n := 30) (v := -2) dX12_block_28 rfl (by decide +kernel) ?_
        have hz := Option.some.inj hf
        subst hz
        exact Z.iret hJ dX12_block_30 rfl (Nat.le_refl _) (Nat.le_refl _) ⟨rfl, rfl⟩
    · rw [if_pos c4] at hf
      refine Z.fg [0, 1, 2, 3] ?_
      exact zX12_block_16 hJ _ hf
def fX12_takes_30 : Nat → Int32 → Int32 → HT → Option (Int32 × HT)
  | 0, _, _, _ => none
  | n + 1, l1, l2, h =>
  if 7 ≤ l2 then (some (0, h))
  else (Option.bind (ck 490 (((430 : Int32) + ((7 : Int32) * l1)) + l2)) fun j4 =>
  Option.bind (ck 7 l2) fun j5 =>
  fX12_takes_30  n l1 (l2 + 1) (hu h 99 j5 (h 94 j4)))
set_option maxHeartbeats 4000000 in
theorem zX12_takes_30 {g : GP} {a : Nat → Nat} {P : PT} {J : JT} {z : Int32 × HT} (hJ : JX g 1 0 0 (PoV g a P z) J) : ∀ (n : Nat) (l1 : Int32) (l2 : Int32) (h : HT), fX12_takes_30 n l1 l2 h = some z → Z g mX12_takes J 0 0 30 [some (.ref (a 93)), some (.int l1), some (.int l2)] [] (WD g a h P) := by
  intro n
  induction n with
  | zero =>
    intro _ _ _ hf
    cases hf
  | succ n ih =>
    intro l1 l2 h hf
    unfold fX12_takes_30 at hf
    refine Z.iload_n (n := 31) dX12_takes_30 rfl rfl ?_
    refine Z.bipush (n := 33) (v := 7) dX12_takes_31 rfl (by decide +kernel) ?_
    refine Z.icmp_ge (tgt := 63) (n := 36) dX12_takes_33 rfl rfl (fun c3 => ?_) (fun c3 => ?_)
    · rw [if_pos c3] at hf
      have hz := Option.some.inj hf
      subst hz
      exact Z.vret hJ dX12_takes_63 rfl (Nat.le_refl _) (Nat.le_refl _) ⟨rfl, rfl⟩
    · rw [if_neg c3] at hf
      refine Z.aload_n (n := 37) dX12_takes_36 rfl rfl ?_
      refine Z.getf (n := 40) fX12_28 dX12_takes_37 rfl W93 rfl ?_
      refine Z.iload_n (n := 41) dX12_takes_40 rfl rfl ?_
      refine Z.aload_n (n := 42) dX12_takes_41 rfl rfl ?_
      refine Z.getf (n := 45) fX12_9 dX12_takes_42 rfl W93 rfl ?_
      refine Z.sipush (n := 48) (v := 430) dX12_takes_45 rfl (by decide +kernel) ?_
      refine Z.bipush (n := 50) (v := 7) dX12_takes_48 rfl (by decide +kernel) ?_
      refine Z.iload_n (n := 51) dX12_takes_50 rfl rfl ?_
      refine Z.imul (n := 52) dX12_takes_51 rfl ?_
      refine Z.iadd (n := 53) dX12_takes_52 rfl ?_
      refine Z.iload_n (n := 54) dX12_takes_53 rfl rfl ?_
      refine Z.iadd (n := 55) dX12_takes_54 rfl ?_
      obtain ⟨j4, ej4, hf⟩ := Option.bind_eq_some_iff.mp hf
      obtain ⟨hij4, hlj4⟩ := ck_spec ej4
      refine Z.iald (j := j4) (n := 56) dX12_takes_55 rfl W94 hij4 hlj4 (by decide) ?_
      obtain ⟨j5, ej5, hf⟩ := Option.bind_eq_some_iff.mp hf
      obtain ⟨hij5, hlj5⟩ := ck_spec ej5
      refine Z.iast (j := j5) (n := 57) dX12_takes_56 rfl W99 hij5 hlj5 (by decide) W99s ?_
      refine Z.iinc (n := 60) (v := l2 + 1) dX12_takes_57 rfl rfl rfl (by decide) rfl ?_
      refine Z.goto (tgt := 30) dX12_takes_60 rfl ?_
      exact ih _ _ _ hf
def fX12_takes (l1 : Int32) (h : HT) : Option (Int32 × HT) :=
  Option.bind (ck 490 ((410 : Int32) + l1)) fun j1 =>
  Option.bind (ck 490 ((420 : Int32) + l1)) fun j2 =>
  fX12_takes_30 1000 l1 0 (hu (hu h 93 13 (h 94 j1)) 93 14 ((hu h 93 13 (h 94 j1)) 94 j2))
set_option maxHeartbeats 4000000 in
theorem ctX12_takes {g : GP} {a : Nat → Nat} {P : PT} {h : HT} {z : Int32 × HT} {l1 : Int32} (hf : fX12_takes l1 h = some z) : Ct g 1 0 0 mX12_takes [.ref (a 93), .int l1] (WD g a h P) (PoV g a P z) := by
  refine Ct.of (by decide +kernel) (Nat.le_of_ble_eq_true rfl) fun J hJ => ?_
  show Z g mX12_takes J 0 0 0 [some (.ref (a 93)), some (.int l1), none] [] (WD g a h P)
  unfold fX12_takes at hf
  refine Z.aload_n (n := 1) dX12_takes_0 rfl rfl ?_
  refine Z.aload_n (n := 2) dX12_takes_1 rfl rfl ?_
  refine Z.getf (n := 5) fX12_9 dX12_takes_2 rfl W93 rfl ?_
  refine Z.sipush (n := 8) (v := 410) dX12_takes_5 rfl (by decide +kernel) ?_
  refine Z.iload_n (n := 9) dX12_takes_8 rfl rfl ?_
  refine Z.iadd (n := 10) dX12_takes_9 rfl ?_
  obtain ⟨j1, ej1, hf⟩ := Option.bind_eq_some_iff.mp hf
  obtain ⟨hij1, hlj1⟩ := ck_spec ej1
  refine Z.iald (j := j1) (n := 11) dX12_takes_10 rfl W94 hij1 hlj1 (by decide) ?_
  refine Z.putf (n := 14) pX12_135 dX12_takes_11 rfl W93 (Nat.le_of_ble_eq_true rfl) rfl rfl W93s_13 ?_
  refine Z.aload_n (n := 15) dX12_takes_14 rfl rfl ?_
  refine Z.aload_n (n := 16) dX12_takes_15 rfl rfl ?_
  refine Z.getf (n := 19) fX12_9 dX12_takes_16 rfl W93 rfl ?_
  refine Z.sipush (n := 22) (v := 420) dX12_takes_19 rfl (by decide +kernel) ?_
  refine Z.iload_n (n := 23) dX12_takes_22 rfl rfl ?_
  refine Z.iadd (n := 24) dX12_takes_23 rfl ?_
  obtain ⟨j2, ej2, hf⟩ := Option.bind_eq_some_iff.mp hf
  obtain ⟨hij2, hlj2⟩ := ck_spec ej2
  refine Z.iald (j := j2) (n := 25) dX12_takes_24 rfl W94 hij2 hlj2 (by decide) ?_
  refine Z.putf (n := 28) pX12_138 dX12_takes_25 rfl W93 (Nat.le_of_ble_eq_true rfl) rfl rfl W93s_14 ?_
  refine Z.iconst (n := 29) (v := 0) dX12_takes_28 rfl (by decide +kernel) ?_
  refine Z.istore_n (n := 30) dX12_takes_29 rfl (by decide) rfl ?_
  exact zX12_takes_30 hJ _ _ _ _ hf
def fX12_blockOf_40 (k4_ : Int32 → Int32 → Int32 → HT → Option (Int32 × HT)) (l1 : Int32) (l3 : Int32) (s0 : Int32) (s1 : Int32) (h : HT) : Option (Int32 × HT) :=
  k4_ l1 (s1 ||| s0) (l3 + 1) h
set_option maxHeartbeats 4000000 in
theorem zX12_blockOf_40 {g : GP} {a : Nat → Nat} {P : PT} {J : JT} {z : Int32 × HT} {k4_ : Int32 → Int32 → Int32 → HT → Option (Int32 × HT)} (hJ : JX g 4 0 0 (PoI g a P z) J) (hk4 : ∀ (l1 : Int32) (l2 : Int32) (l3 : Int32) (h : HT), k4_ l1 l2 l3 h = some z → Z g mX12_blockOf J 0 0 4 [some (.ref (a 93)), some (.int l1), some (.int l2), some (.int l3)] [] (WD g a h P)) (l1 : Int32) (l3 : Int32) (s0 : Int32) (s1 : Int32) (h : HT) (hf : fX12_blockOf_40 k4_ l1 l3 s0 s1 h = some z) : Z g mX12_blockOf J 0 0 40 [some (.ref (a 93)), some (.int l1), none, some (.int l3)] [.int s0, .int s1] (WD g a h P) := by
  unfold fX12_blockOf_40 at hf
  refine Z.ior (n := 41) dX12_blockOf_40 rfl ?_
  refine Z.istore_n (n := 42) dX12_blockOf_41 rfl (by decide) rfl ?_
  refine Z.iinc (n := 45) (v := l3 + 1) dX12_blockOf_42 rfl rfl rfl (by decide) rfl ?_
  refine Z.goto (tgt := 4) dX12_blockOf_45 rfl ?_
  exact hk4 _ _ _ _ hf
def fX12_blockOf_39 (k4_ : Int32 → Int32 → Int32 → HT → Option (Int32 × HT)) (l1 : Int32) (l3 : Int32) (s0 : Int32) (h : HT) : Option (Int32 × HT) :=
  fX12_blockOf_40 k4_ l1 l3 0 s0 h
set_option maxHeartbeats 4000000 in
theorem zX12_blockOf_39 {g : GP} {a : Nat → Nat} {P : PT} {J : JT} {z : Int32 × HT} {k4_ : Int32 → Int32 → Int32 → HT → Option (Int32 × HT)} (hJ : JX g 4 0 0 (PoI g a P z) J) (hk4 : ∀ (l1 : Int32) (l2 : Int32) (l3 : Int32) (h : HT), k4_ l1 l2 l3 h = some z → Z g mX12_blockOf J 0 0 4 [some (.ref (a 93)), some (.int l1), some (.int l2), some (.int l3)] [] (WD g a h P)) (l1 : Int32) (l3 : Int32) (s0 : Int32) (h : HT) (hf : fX12_blockOf_39 k4_ l1 l3 s0 h = some z) : Z g mX12_blockOf J 0 0 39 [some (.ref (a 93)), some (.int l1), none, some (.int l3)] [.int s0] (WD g a h P) := by
  unfold fX12_blockOf_39 at hf
  refine Z.iconst (n := 40) (v := 0) dX12_blockOf_39 rfl (by decide +kernel) ?_
  exact zX12_blockOf_40 hJ hk4 _ _ _ _ _ hf
def fX12_blockOf_4 : Nat → Int32 → Int32 → Int32 → HT → Option (Int32 × HT)
  | 0, _, _, _, _ => none
  | n + 1, l1, l2, l3, h =>
  if (h 94 0) ≤ l3 then (some (l2, h))
  else (Option.bind (fX12_isAlive l3 h) fun z2 =>
  if z2.1 = 0 then (fX12_blockOf_39 (fX12_blockOf_4  n) l1 l3 l2 z2.2)
  else (Option.bind (ck 7 l3) fun j4 =>
  if (z2.2 99 j4) = l1 then (fX12_blockOf_40 (fX12_blockOf_4  n) l1 l3 ((1 : Int32) <<< (l3 &&& 31)) l2 z2.2)
  else (fX12_blockOf_39 (fX12_blockOf_4  n) l1 l3 l2 z2.2)))
set_option maxHeartbeats 4000000 in
theorem zX12_blockOf_4 {g : GP} {a : Nat → Nat} {P : PT} {J : JT} {z : Int32 × HT} (hJ : JX g 4 0 0 (PoI g a P z) J) : ∀ (n : Nat) (l1 : Int32) (l2 : Int32) (l3 : Int32) (h : HT), fX12_blockOf_4 n l1 l2 l3 h = some z → Z g mX12_blockOf J 0 0 4 [some (.ref (a 93)), some (.int l1), some (.int l2), some (.int l3)] [] (WD g a h P) := by
  intro n
  induction n with
  | zero =>
    intro _ _ _ _ hf
    cases hf
  | succ n ih =>
    intro l1 l2 l3 h hf
    unfold fX12_blockOf_4 at hf
    refine Z.iload_n (n := 5) dX12_blockOf_4 rfl rfl ?_
    refine Z.aload_n (n := 6) dX12_blockOf_5 rfl rfl ?_
    refine Z.getf (n := 9) fX12_9 dX12_blockOf_6 rfl W93 rfl ?_
    refine Z.iconst (n := 10) (v := 0) dX12_blockOf_9 rfl (by decide +kernel) ?_
    refine Z.iald (j := 0) (n := 11) dX12_blockOf_10 rfl W94 (by decide +kernel) (by decide) (by decide) ?_
    refine Z.icmp_ge (tgt := 48) (n := 14) dX12_blockOf_11 rfl rfl (fun c1 => ?_) (fun c1 => ?_)
    · rw [if_pos c1] at hf
      refine Z.iload_n (n := 49) dX12_blockOf_48 rfl rfl ?_
      have hz := Option.some.inj hf
      subst hz
      exact Z.iret hJ dX12_blockOf_49 rfl (Nat.le_refl _) (Nat.le_refl _) ⟨rfl, rfl⟩
    · rw [if_neg c1] at hf
      refine Z.iload_n (n := 15) dX12_blockOf_14 rfl rfl ?_
      refine Z.aload_n (n := 16) dX12_blockOf_15 rfl rfl ?_
      refine Z.iload_n (n := 17) dX12_blockOf_16 rfl rfl ?_
      obtain ⟨z2, ez2, hf⟩ := Option.bind_eq_some_iff.mp hf
      refine Z.callV (n := 20) vX12_49 (ctX12_isAlive ez2) hJ.rm (Nat.le_of_ble_eq_true rfl) rfl rfl (Nat.le_refl _) (Nat.le_refl _) rfl W93 rfl rfl (Nat.le_of_ble_eq_true rfl) rfl dX12_blockOf_17 rfl (fun v w hw => ?_)
      obtain ⟨rfl, rfl⟩ := hw
      show Z _ _ _ _ _ _ _ [.int z2.1, .int l2] _
      refine Z.if_eq (tgt := 39) (n := 23) dX12_blockOf_20 rfl rfl (fun c3 => ?_) (fun c3 => ?_)
      · rw [if_pos c3] at hf
        refine Z.fg [2] ?_
        exact zX12_blockOf_39 hJ ih _ _ _ _ hf
      · rw [if_neg c3] at hf
        refine Z.aload_n (n := 24) dX12_blockOf_23 rfl rfl ?_
        refine Z.getf (n := 27) fX12_28 dX12_blockOf_24 rfl W93 rfl ?_
        refine Z.iload_n (n := 28) dX12_blockOf_27 rfl rfl ?_
        obtain ⟨j4, ej4, hf⟩ := Option.bind_eq_some_iff.mp hf
        obtain ⟨hij4, hlj4⟩ := ck_spec ej4
        refine Z.iald (j := j4) (n := 29) dX12_blockOf_28 rfl W99 hij4 hlj4 (by decide) ?_
        refine Z.iload_n (n := 30) dX12_blockOf_29 rfl rfl ?_
        refine Z.icmp_ne (tgt := 39) (n := 33) dX12_blockOf_30 rfl rfl (fun c5 => ?_) (fun c5 => ?_)
        · rw [if_neg c5] at hf
          refine Z.fg [2] ?_
          exact zX12_blockOf_39 hJ ih _ _ _ _ hf
        · rw [if_pos c5] at hf
          refine Z.iconst (n := 34) (v := 1) dX12_blockOf_33 rfl (by decide +kernel) ?_
          refine Z.iload_n (n := 35) dX12_blockOf_34 rfl rfl ?_
          refine Z.ishl (n := 36) dX12_blockOf_35 rfl ?_
          refine Z.goto (tgt := 40) dX12_blockOf_36 rfl ?_
          refine Z.fg [2] ?_
          exact zX12_blockOf_40 hJ ih _ _ _ _ _ hf
def fX12_blockOf (l1 : Int32) (h : HT) : Option (Int32 × HT) :=
  fX12_blockOf_4 1000 l1 0 0 h
set_option maxHeartbeats 4000000 in
theorem ctX12_blockOf {g : GP} {a : Nat → Nat} {P : PT} {h : HT} {z : Int32 × HT} {l1 : Int32} (hf : fX12_blockOf l1 h = some z) : Ct g 4 0 0 mX12_blockOf [.ref (a 93), .int l1] (WD g a h P) (PoI g a P z) := by
  refine Ct.of (by decide +kernel) (Nat.le_of_ble_eq_true rfl) fun J hJ => ?_
  show Z g mX12_blockOf J 0 0 0 [some (.ref (a 93)), some (.int l1), none, none] [] (WD g a h P)
  unfold fX12_blockOf at hf
  refine Z.iconst (n := 1) (v := 0) dX12_blockOf_0 rfl (by decide +kernel) ?_
  refine Z.istore_n (n := 2) dX12_blockOf_1 rfl (by decide) rfl ?_
  refine Z.iconst (n := 3) (v := 0) dX12_blockOf_2 rfl (by decide +kernel) ?_
  refine Z.istore_n (n := 4) dX12_blockOf_3 rfl (by decide) rfl ?_
  exact zX12_blockOf_4 hJ _ _ _ _ _ hf
def fX12_strengths_38 (k4_ : Int32 → Int32 → Int32 → HT → Option (Int32 × HT)) (l1 : Int32) (l3 : Int32) (s0 : Int32) (s1 : Int32) (h : HT) : Option (Int32 × HT) :=
  k4_ l1 (s1 + s0) (l3 + 1) h
set_option maxHeartbeats 4000000 in
theorem zX12_strengths_38 {g : GP} {a : Nat → Nat} {P : PT} {J : JT} {z : Int32 × HT} {k4_ : Int32 → Int32 → Int32 → HT → Option (Int32 × HT)} (hJ : JX g 1 0 0 (PoI g a P z) J) (hk4 : ∀ (l1 : Int32) (l2 : Int32) (l3 : Int32) (h : HT), k4_ l1 l2 l3 h = some z → Z g mX12_strengths J 0 0 4 [some (.ref (a 93)), some (.int l1), some (.int l2), some (.int l3)] [] (WD g a h P)) (l1 : Int32) (l3 : Int32) (s0 : Int32) (s1 : Int32) (h : HT) (hf : fX12_strengths_38 k4_ l1 l3 s0 s1 h = some z) : Z g mX12_strengths J 0 0 38 [some (.ref (a 93)), some (.int l1), none, some (.int l3)] [.int s0, .int s1] (WD g a h P) := by
  unfold fX12_strengths_38 at hf
  refine Z.iadd (n := 39) dX12_strengths_38 rfl ?_
  refine Z.istore_n (n := 40) dX12_strengths_39 rfl (by decide) rfl ?_
  refine Z.iinc (n := 43) (v := l3 + 1) dX12_strengths_40 rfl rfl rfl (by decide) rfl ?_
  refine Z.goto (tgt := 4) dX12_strengths_43 rfl ?_
  exact hk4 _ _ _ _ hf
def fX12_strengths_4 : Nat → Int32 → Int32 → Int32 → HT → Option (Int32 × HT)
  | 0, _, _, _, _ => none
  | n + 1, l1, l2, l3, h =>
  if (h 94 0) ≤ l3 then (some (l2, h))
  else (if ((l1 >>> (l3 &&& 31)) &&& (1 : Int32)) = 1 then (Option.bind (ck 490 ((270 : Int32) + l3)) fun j3 =>
  fX12_strengths_38 (fX12_strengths_4  n) l1 l3 (h 94 j3) l2 h)
  else (fX12_strengths_38 (fX12_strengths_4  n) l1 l3 0 l2 h))
set_option maxHeartbeats 4000000 in
theorem zX12_strengths_4 {g : GP} {a : Nat → Nat} {P : PT} {J : JT} {z : Int32 × HT} (hJ : JX g 1 0 0 (PoI g a P z) J) : ∀ (n : Nat) (l1 : Int32) (l2 : Int32) (l3 : Int32) (h : HT), fX12_strengths_4 n l1 l2 l3 h = some z → Z g mX12_strengths J 0 0 4 [some (.ref (a 93)), some (.int l1), some (.int l2), some (.int l3)] [] (WD g a h P) := by
  intro n
  induction n with
  | zero =>
    intro _ _ _ _ hf
    cases hf
  | succ n ih =>
    intro l1 l2 l3 h hf
    unfold fX12_strengths_4 at hf
    refine Z.iload_n (n := 5) dX12_strengths_4 rfl rfl ?_
    refine Z.aload_n (n := 6) dX12_strengths_5 rfl rfl ?_
    refine Z.getf (n := 9) fX12_9 dX12_strengths_6 rfl W93 rfl ?_
    refine Z.iconst (n := 10) (v := 0) dX12_strengths_9 rfl (by decide +kernel) ?_
    refine Z.iald (j := 0) (n := 11) dX12_strengths_10 rfl W94 (by decide +kernel) (by decide) (by decide) ?_
    refine Z.icmp_ge (tgt := 46) (n := 14) dX12_strengths_11 rfl rfl (fun c1 => ?_) (fun c1 => ?_)
    · rw [if_pos c1] at hf
      refine Z.iload_n (n := 47) dX12_strengths_46 rfl rfl ?_
      have hz := Option.some.inj hf
      subst hz
      exact Z.iret hJ dX12_strengths_47 rfl (Nat.le_refl _) (Nat.le_refl _) ⟨rfl, rfl⟩
    · rw [if_neg c1] at hf
      refine Z.iload_n (n := 15) dX12_strengths_14 rfl rfl ?_
      refine Z.iload_n (n := 16) dX12_strengths_15 rfl rfl ?_
      refine Z.iload_n (n := 17) dX12_strengths_16 rfl rfl ?_
      refine Z.ishr (n := 18) dX12_strengths_17 rfl ?_
      refine Z.iconst (n := 19) (v := 1) dX12_strengths_18 rfl (by decide +kernel) ?_
      refine Z.iand (n := 20) dX12_strengths_19 rfl ?_
      refine Z.iconst (n := 21) (v := 1) dX12_strengths_20 rfl (by decide +kernel) ?_
      refine Z.icmp_ne (tgt := 37) (n := 24) dX12_strengths_21 rfl rfl (fun c2 => ?_) (fun c2 => ?_)
      · rw [if_neg c2] at hf
        refine Z.iconst (n := 38) (v := 0) dX12_strengths_37 rfl (by decide +kernel) ?_
        refine Z.fg [2] ?_
        exact zX12_strengths_38 hJ ih _ _ _ _ _ hf
      · rw [if_pos c2] at hf
        refine Z.aload_n (n := 25) dX12_strengths_24 rfl rfl ?_
        refine Z.getf (n := 28) fX12_9 dX12_strengths_25 rfl W93 rfl ?_
        refine Z.sipush (n := 31) (v := 270) dX12_strengths_28 rfl (by decide +kernel) ?_
        refine Z.iload_n (n := 32) dX12_strengths_31 rfl rfl ?_
        refine Z.iadd (n := 33) dX12_strengths_32 rfl ?_
        obtain ⟨j3, ej3, hf⟩ := Option.bind_eq_some_iff.mp hf
        obtain ⟨hij3, hlj3⟩ := ck_spec ej3
        refine Z.iald (j := j3) (n := 34) dX12_strengths_33 rfl W94 hij3 hlj3 (by decide) ?_
        refine Z.goto (tgt := 38) dX12_strengths_34 rfl ?_
        refine Z.fg [2] ?_
        exact zX12_strengths_38 hJ ih _ _ _ _ _ hf
def fX12_strengths (l1 : Int32) (h : HT) : Option (Int32 × HT) :=
  fX12_strengths_4 1000 l1 0 0 h
set_option maxHeartbeats 4000000 in
theorem ctX12_strengths {g : GP} {a : Nat → Nat} {P : PT} {h : HT} {z : Int32 × HT} {l1 : Int32} (hf : fX12_strengths l1 h = some z) : Ct g 1 0 0 mX12_strengths [.ref (a 93), .int l1] (WD g a h P) (PoI g a P z) := by
  refine Ct.of (by decide +kernel) (Nat.le_of_ble_eq_true rfl) fun J hJ => ?_
  show Z g mX12_strengths J 0 0 0 [some (.ref (a 93)), some (.int l1), none, none] [] (WD g a h P)
  unfold fX12_strengths at hf
  refine Z.iconst (n := 1) (v := 0) dX12_strengths_0 rfl (by decide +kernel) ?_
  refine Z.istore_n (n := 2) dX12_strengths_1 rfl (by decide) rfl ?_
  refine Z.iconst (n := 3) (v := 0) dX12_strengths_2 rfl (by decide +kernel) ?_
  refine Z.istore_n (n := 4) dX12_strengths_3 rfl (by decide) rfl ?_
  exact zX12_strengths_4 hJ _ _ _ _ _ hf
def fX12_alive_30 (k4_ : Int32 → Int32 → HT → Option (Int32 × HT)) (l2 : Int32) (s0 : Int32) (s1 : Int32) (h : HT) : Option (Int32 × HT) :=
  k4_ (s1 ||| s0) (l2 + 1) h
set_option maxHeartbeats 4000000 in
theorem zX12_alive_30 {g : GP} {a : Nat → Nat} {P : PT} {J : JT} {z : Int32 × HT} {k4_ : Int32 → Int32 → HT → Option (Int32 × HT)} (hJ : JX g 4 0 0 (PoI g a P z) J) (hk4 : ∀ (l1 : Int32) (l2 : Int32) (h : HT), k4_ l1 l2 h = some z → Z g mX12_alive J 0 0 4 [some (.ref (a 93)), some (.int l1), some (.int l2)] [] (WD g a h P)) (l2 : Int32) (s0 : Int32) (s1 : Int32) (h : HT) (hf : fX12_alive_30 k4_ l2 s0 s1 h = some z) : Z g mX12_alive J 0 0 30 [some (.ref (a 93)), none, some (.int l2)] [.int s0, .int s1] (WD g a h P) := by
  unfold fX12_alive_30 at hf
  refine Z.ior (n := 31) dX12_alive_30 rfl ?_
  refine Z.istore_n (n := 32) dX12_alive_31 rfl (by decide) rfl ?_
  refine Z.iinc (n := 35) (v := l2 + 1) dX12_alive_32 rfl rfl rfl (by decide) rfl ?_
  refine Z.goto (tgt := 4) dX12_alive_35 rfl ?_
  exact hk4 _ _ _ hf
def fX12_alive_4 : Nat → Int32 → Int32 → HT → Option (Int32 × HT)
  | 0, _, _, _ => none
  | n + 1, l1, l2, h =>
  if (h 94 0) ≤ l2 then (some (l1, h))
  else (Option.bind (fX12_isAlive l2 h) fun z2 =>
  if z2.1 = 0 then (fX12_alive_30 (fX12_alive_4  n) l2 0 l1 z2.2)
  else (fX12_alive_30 (fX12_alive_4  n) l2 ((1 : Int32) <<< (l2 &&& 31)) l1 z2.2))
set_option maxHeartbeats 4000000 in
theorem zX12_alive_4 {g : GP} {a : Nat → Nat} {P : PT} {J : JT} {z : Int32 × HT} (hJ : JX g 4 0 0 (PoI g a P z) J) : ∀ (n : Nat) (l1 : Int32) (l2 : Int32) (h : HT), fX12_alive_4 n l1 l2 h = some z → Z g mX12_alive J 0 0 4 [some (.ref (a 93)), some (.int l1), some (.int l2)] [] (WD g a h P) := by
  intro n
  induction n with
  | zero =>
    intro _ _ _ hf
    cases hf
  | succ n ih =>
    intro l1 l2 h hf
    unfold fX12_alive_4 at hf
    refine Z.iload_n (n := 5) dX12_alive_4 rfl rfl ?_
    refine Z.aload_n (n := 6) dX12_alive_5 rfl rfl ?_
    refine Z.getf (n := 9) fX12_9 dX12_alive_6 rfl W93 rfl ?_
    refine Z.iconst (n := 10) (v := 0) dX12_alive_9 rfl (by decide +kernel) ?_
    refine Z.iald (j := 0) (n := 11) dX12_alive_10 rfl W94 (by decide +kernel) (by decide) (by decide) ?_
    refine Z.icmp_ge (tgt := 38) (n := 14) dX12_alive_11 rfl rfl (fun c1 => ?_) (fun c1 => ?_)
    · rw [if_pos c1] at hf
      refine Z.iload_n (n := 39) dX12_alive_38 rfl rfl ?_
      have hz := Option.some.inj hf
      subst hz
      exact Z.iret hJ dX12_alive_39 rfl (Nat.le_refl _) (Nat.le_refl _) ⟨rfl, rfl⟩
    · rw [if_neg c1] at hf
      refine Z.iload_n (n := 15) dX12_alive_14 rfl rfl ?_
      refine Z.aload_n (n := 16) dX12_alive_15 rfl rfl ?_
      refine Z.iload_n (n := 17) dX12_alive_16 rfl rfl ?_
      obtain ⟨z2, ez2, hf⟩ := Option.bind_eq_some_iff.mp hf
      refine Z.callV (n := 20) vX12_49 (ctX12_isAlive ez2) hJ.rm (Nat.le_of_ble_eq_true rfl) rfl rfl (Nat.le_refl _) (Nat.le_refl _) rfl W93 rfl rfl (Nat.le_of_ble_eq_true rfl) rfl dX12_alive_17 rfl (fun v w hw => ?_)
      obtain ⟨rfl, rfl⟩ := hw
      show Z _ _ _ _ _ _ _ [.int z2.1, .int l1] _
      refine Z.if_eq (tgt := 29) (n := 23) dX12_alive_20 rfl rfl (fun c3 => ?_) (fun c3 => ?_)
      · rw [if_pos c3] at hf
        refine Z.iconst (n := 30) (v := 0) dX12_alive_29 rfl (by decide +kernel) ?_
        refine Z.fg [1] ?_
        exact zX12_alive_30 hJ ih _ _ _ _ hf
      · rw [if_neg c3] at hf
        refine Z.iconst (n := 24) (v := 1) dX12_alive_23 rfl (by decide +kernel) ?_
        refine Z.iload_n (n := 25) dX12_alive_24 rfl rfl ?_
        refine Z.ishl (n := 26) dX12_alive_25 rfl ?_
        refine Z.goto (tgt := 30) dX12_alive_26 rfl ?_
        refine Z.fg [1] ?_
        exact zX12_alive_30 hJ ih _ _ _ _ hf
def fX12_alive (h : HT) : Option (Int32 × HT) :=
  fX12_alive_4 1000 0 0 h
set_option maxHeartbeats 4000000 in
theorem ctX12_alive {g : GP} {a : Nat → Nat} {P : PT} {h : HT} {z : Int32 × HT} (hf : fX12_alive h = some z) : Ct g 4 0 0 mX12_alive [.ref (a 93)] (WD g a h P) (PoI g a P z) := by
  refine Ct.of (by decide +kernel) (Nat.le_of_ble_eq_true rfl) fun J hJ => ?_
  show Z g mX12_alive J 0 0 0 [some (.ref (a 93)), none, none] [] (WD g a h P)
  unfold fX12_alive at hf
  refine Z.iconst (n := 1) (v := 0) dX12_alive_0 rfl (by decide +kernel) ?_
  refine Z.istore_n (n := 2) dX12_alive_1 rfl (by decide) rfl ?_
  refine Z.iconst (n := 3) (v := 0) dX12_alive_2 rfl (by decide +kernel) ?_
  refine Z.istore_n (n := 4) dX12_alive_3 rfl (by decide) rfl ?_
  exact zX12_alive_4 hJ _ _ _ _ hf
def fX12_sides_121 (h : HT) : Option (Int32 × HT) :=
  some (0, h)
set_option maxHeartbeats 4000000 in
theorem zX12_sides_121 {g : GP} {a : Nat → Nat} {P : PT} {J : JT} {z : Int32 × HT} (hJ : JX g 5 0 0 (PoV g a P z) J) (h : HT) (hf : fX12_sides_121 h = some z) : Z g mX12_sides J 0 0 121 [none, none, none, none] [] (WD g a h P) := by
  unfold fX12_sides_121 at hf
  have hz := Option.some.inj hf
  subst hz
  exact Z.vret hJ dX12_sides_121 rfl (Nat.le_refl _) (Nat.le_refl _) ⟨rfl, rfl⟩
def fX12_sides_62 (l1 : Int32) (s0 : Int32) (h : HT) : Option (Int32 × HT) :=
  if ((hu h 93 16 s0) 93 13) = 4 then (Option.bind (ck 7 l1) fun j11 =>
  Option.bind (fX12_blockOf ((hu h 93 16 s0) 99 j11) (hu h 93 16 s0)) fun z12 =>
  Option.bind (fX12_strengths z12.1 z12.2) fun z13 =>
  Option.bind (fX12_alive  z13.2) fun z14 =>
  Option.bind (fX12_strengths z14.1 z14.2) fun z15 =>
  if ((2 : Int32) * z13.1) ≤ z15.1 then (fX12_sides_121 z15.2)
  else (Option.bind (fX12_alive  z15.2) fun z17 =>
  Option.bind (ck 7 l1) fun j18 =>
  Option.bind (fX12_blockOf (z17.2 99 j18) z17.2) fun z19 =>
  fX12_sides_121 (hu z19.2 93 16 (z17.1 &&& (z19.1 ^^^ (-1 : Int32))))))
  else (fX12_sides_121 (hu h 93 16 s0))
set_option maxHeartbeats 4000000 in
theorem zX12_sides_62 {g : GP} {a : Nat → Nat} {P : PT} {J : JT} {z : Int32 × HT} (hJ : JX g 5 0 0 (PoV g a P z) J) (l1 : Int32) (s0 : Int32) (h : HT) (hf : fX12_sides_62 l1 s0 h = some z) : Z g mX12_sides J 0 0 62 [some (.ref (a 93)), some (.int l1), none, none] [.int s0, .ref (a 93)] (WD g a h P) := by
  unfold fX12_sides_62 at hf
  refine Z.putf (n := 65) pX12_147 dX12_sides_62 rfl W93 (Nat.le_of_ble_eq_true rfl) rfl rfl W93s_16 ?_
  refine Z.aload_n (n := 66) dX12_sides_65 rfl rfl ?_
  refine Z.getf (n := 69) fX12_135 dX12_sides_66 rfl W93 rfl ?_
  refine Z.iconst (n := 70) (v := 4) dX12_sides_69 rfl (by decide +kernel) ?_
  refine Z.icmp_ne (tgt := 121) (n := 73) dX12_sides_70 rfl rfl (fun c10 => ?_) (fun c10 => ?_)
  · rw [if_neg c10] at hf
    refine Z.fg [0, 1] ?_
    exact zX12_sides_121 hJ _ hf
  · rw [if_pos c10] at hf
    refine Z.iconst (n := 74) (v := 2) dX12_sides_73 rfl (by decide +kernel) ?_
    refine Z.aload_n (n := 75) dX12_sides_74 rfl rfl ?_
    refine Z.aload_n (n := 76) dX12_sides_75 rfl rfl ?_
    refine Z.aload_n (n := 77) dX12_sides_76 rfl rfl ?_
    refine Z.getf (n := 80) fX12_28 dX12_sides_77 rfl W93 rfl ?_
    refine Z.iload_n (n := 81) dX12_sides_80 rfl rfl ?_
    obtain ⟨j11, ej11, hf⟩ := Option.bind_eq_some_iff.mp hf
    obtain ⟨hij11, hlj11⟩ := ck_spec ej11
    refine Z.iald (j := j11) (n := 82) dX12_sides_81 rfl W99 hij11 hlj11 (by decide) ?_
    obtain ⟨z12, ez12, hf⟩ := Option.bind_eq_some_iff.mp hf
    refine Z.callV (n := 85) vX12_141 (ctX12_blockOf ez12) hJ.rm (Nat.le_of_ble_eq_true rfl) rfl rfl (Nat.le_refl _) (Nat.le_refl _) rfl W93 rfl rfl (Nat.le_of_ble_eq_true rfl) rfl dX12_sides_82 rfl (fun v w hw => ?_)
    obtain ⟨rfl, rfl⟩ := hw
    show Z _ _ _ _ _ _ _ [.int z12.1, .ref (a 93), .int 2] _
    obtain ⟨z13, ez13, hf⟩ := Option.bind_eq_some_iff.mp hf
    refine Z.callV (n := 88) vX12_150 (ctX12_strengths ez13) hJ.rm (Nat.le_of_ble_eq_true rfl) rfl rfl (Nat.le_refl _) (Nat.le_refl _) rfl W93 rfl rfl (Nat.le_of_ble_eq_true rfl) rfl dX12_sides_85 rfl (fun v w hw => ?_)
    obtain ⟨rfl, rfl⟩ := hw
    show Z _ _ _ _ _ _ _ [.int z13.1, .int 2] _
    refine Z.imul (n := 89) dX12_sides_88 rfl ?_
    refine Z.aload_n (n := 90) dX12_sides_89 rfl rfl ?_
    refine Z.aload_n (n := 91) dX12_sides_90 rfl rfl ?_
    obtain ⟨z14, ez14, hf⟩ := Option.bind_eq_some_iff.mp hf
    refine Z.callV (n := 94) vX12_153 (ctX12_alive ez14) hJ.rm (Nat.le_of_ble_eq_true rfl) rfl rfl (Nat.le_refl _) (Nat.le_refl _) rfl W93 rfl rfl (Nat.le_of_ble_eq_true rfl) rfl dX12_sides_91 rfl (fun v w hw => ?_)
    obtain ⟨rfl, rfl⟩ := hw
    show Z _ _ _ _ _ _ _ [.int z14.1, .ref (a 93), .int ((2 : Int32) * z13.1)] _
    obtain ⟨z15, ez15, hf⟩ := Option.bind_eq_some_iff.mp hf
    refine Z.callV (n := 97) vX12_150 (ctX12_strengths ez15) hJ.rm (Nat.le_of_ble_eq_true rfl) rfl rfl (Nat.le_refl _) (Nat.le_refl _) rfl W93 rfl rfl (Nat.le_of_ble_eq_true rfl) rfl dX12_sides_94 rfl (fun v w hw => ?_)
    obtain ⟨rfl, rfl⟩ := hw
    show Z _ _ _ _ _ _ _ [.int z15.1, .int ((2 : Int32) * z13.1)] _
    refine Z.icmp_le (tgt := 121) (n := 100) dX12_sides_97 rfl rfl (fun c16 => ?_) (fun c16 => ?_)
    · rw [if_pos c16] at hf
      refine Z.fg [0, 1] ?_
      exact zX12_sides_121 hJ _ hf
    · rw [if_neg c16] at hf
      refine Z.aload_n (n := 101) dX12_sides_100 rfl rfl ?_
      refine Z.aload_n (n := 102) dX12_sides_101 rfl rfl ?_
      obtain ⟨z17, ez17, hf⟩ := Option.bind_eq_some_iff.mp hf
      refine Z.callV (n := 105) vX12_153 (ctX12_alive ez17) hJ.rm (Nat.le_of_ble_eq_true rfl) rfl rfl (Nat.le_refl _) (Nat.le_refl _) rfl W93 rfl rfl (Nat.le_of_ble_eq_true rfl) rfl dX12_sides_102 rfl (fun v w hw => ?_)
      obtain ⟨rfl, rfl⟩ := hw
      show Z _ _ _ _ _ _ _ [.int z17.1, .ref (a 93)] _
      refine Z.aload_n (n := 106) dX12_sides_105 rfl rfl ?_
      refine Z.aload_n (n := 107) dX12_sides_106 rfl rfl ?_
      refine Z.getf (n := 110) fX12_28 dX12_sides_107 rfl W93 rfl ?_
      refine Z.iload_n (n := 111) dX12_sides_110 rfl rfl ?_
      obtain ⟨j18, ej18, hf⟩ := Option.bind_eq_some_iff.mp hf
      obtain ⟨hij18, hlj18⟩ := ck_spec ej18
      refine Z.iald (j := j18) (n := 112) dX12_sides_111 rfl W99 hij18 hlj18 (by decide) ?_
      obtain ⟨z19, ez19, hf⟩ := Option.bind_eq_some_iff.mp hf
      refine Z.callV (n := 115) vX12_141 (ctX12_blockOf ez19) hJ.rm (Nat.le_of_ble_eq_true rfl) rfl rfl (Nat.le_refl _) (Nat.le_refl _) rfl W93 rfl rfl (Nat.le_of_ble_eq_true rfl) rfl dX12_sides_112 rfl (fun v w hw => ?_)
      obtain ⟨rfl, rfl⟩ := hw
      show Z _ _ _ _ _ _ _ [.int z19.1, .int z17.1, .ref (a 93)] _
      refine Z.iconst (n := 116) (v := -1) dX12_sides_115 rfl (by decide +kernel) ?_
      refine Z.ixor (n := 117) dX12_sides_116 rfl ?_
      refine Z.iand (n := 118) dX12_sides_117 rfl ?_
      refine Z.putf (n := 121) pX12_147 dX12_sides_118 rfl W93 (Nat.le_of_ble_eq_true rfl) rfl rfl W93s_16 ?_
      refine Z.fg [0, 1] ?_
      exact zX12_sides_121 hJ _ hf
def fX12_sides_40 (l1 : Int32) (l2 : Int32) (l3 : Int32) (s0 : Int32) (h : HT) : Option (Int32 × HT) :=
  if l3 = 0 then (Option.bind (ck 7 l2) fun j8 =>
  Option.bind (fX12_blockOf ((hu h 93 15 s0) 99 j8) (hu h 93 15 s0)) fun z9 =>
  fX12_sides_62 l1 z9.1 z9.2)
  else (fX12_sides_62 l1 0 (hu h 93 15 s0))
set_option maxHeartbeats 4000000 in
theorem zX12_sides_40 {g : GP} {a : Nat → Nat} {P : PT} {J : JT} {z : Int32 × HT} (hJ : JX g 5 0 0 (PoV g a P z) J) (l1 : Int32) (l2 : Int32) (l3 : Int32) (s0 : Int32) (h : HT) (hf : fX12_sides_40 l1 l2 l3 s0 h = some z) : Z g mX12_sides J 0 0 40 [some (.ref (a 93)), some (.int l1), some (.int l2), some (.int l3)] [.int s0, .ref (a 93)] (WD g a h P) := by
  unfold fX12_sides_40 at hf
  refine Z.putf (n := 43) pX12_144 dX12_sides_40 rfl W93 (Nat.le_of_ble_eq_true rfl) rfl rfl W93s_15 ?_
  refine Z.aload_n (n := 44) dX12_sides_43 rfl rfl ?_
  refine Z.iload_n (n := 45) dX12_sides_44 rfl rfl ?_
  refine Z.if_eq (tgt := 52) (n := 48) dX12_sides_45 rfl rfl (fun c7 => ?_) (fun c7 => ?_)
  · rw [if_pos c7] at hf
    refine Z.aload_n (n := 53) dX12_sides_52 rfl rfl ?_
    refine Z.aload_n (n := 54) dX12_sides_53 rfl rfl ?_
    refine Z.getf (n := 57) fX12_28 dX12_sides_54 rfl W93 rfl ?_
    refine Z.iload_n (n := 58) dX12_sides_57 rfl rfl ?_
    obtain ⟨j8, ej8, hf⟩ := Option.bind_eq_some_iff.mp hf
    obtain ⟨hij8, hlj8⟩ := ck_spec ej8
    refine Z.iald (j := j8) (n := 59) dX12_sides_58 rfl W99 hij8 hlj8 (by decide) ?_
    obtain ⟨z9, ez9, hf⟩ := Option.bind_eq_some_iff.mp hf
    refine Z.callV (n := 62) vX12_141 (ctX12_blockOf ez9) hJ.rm (Nat.le_of_ble_eq_true rfl) rfl rfl (Nat.le_refl _) (Nat.le_refl _) rfl W93 rfl rfl (Nat.le_of_ble_eq_true rfl) rfl dX12_sides_59 rfl (fun v w hw => ?_)
    obtain ⟨rfl, rfl⟩ := hw
    show Z _ _ _ _ _ _ _ [.int z9.1, .ref (a 93)] _
    refine Z.fg [2, 3] ?_
    exact zX12_sides_62 hJ _ _ _ hf
  · rw [if_neg c7] at hf
    refine Z.iconst (n := 49) (v := 0) dX12_sides_48 rfl (by decide +kernel) ?_
    refine Z.goto (tgt := 62) dX12_sides_49 rfl ?_
    refine Z.fg [2, 3] ?_
    exact zX12_sides_62 hJ _ _ _ hf
def fX12_sides_20 (l1 : Int32) (l2 : Int32) (s0 : Int32) (h : HT) : Option (Int32 × HT) :=
  if s0 = 0 then (Option.bind (ck 7 l1) fun j5 =>
  Option.bind (fX12_blockOf (h 99 j5) h) fun z6 =>
  fX12_sides_40 l1 l2 s0 z6.1 z6.2)
  else (fX12_sides_40 l1 l2 s0 0 h)
set_option maxHeartbeats 4000000 in
theorem zX12_sides_20 {g : GP} {a : Nat → Nat} {P : PT} {J : JT} {z : Int32 × HT} (hJ : JX g 5 0 0 (PoV g a P z) J) (l1 : Int32) (l2 : Int32) (s0 : Int32) (h : HT) (hf : fX12_sides_20 l1 l2 s0 h = some z) : Z g mX12_sides J 0 0 20 [some (.ref (a 93)), some (.int l1), some (.int l2), none] [.int s0] (WD g a h P) := by
  unfold fX12_sides_20 at hf
  refine Z.istore_n (n := 21) dX12_sides_20 rfl (by decide) rfl ?_
  refine Z.aload_n (n := 22) dX12_sides_21 rfl rfl ?_
  refine Z.iload_n (n := 23) dX12_sides_22 rfl rfl ?_
  refine Z.if_eq (tgt := 30) (n := 26) dX12_sides_23 rfl rfl (fun c4 => ?_) (fun c4 => ?_)
  · rw [if_pos c4] at hf
    refine Z.aload_n (n := 31) dX12_sides_30 rfl rfl ?_
    refine Z.aload_n (n := 32) dX12_sides_31 rfl rfl ?_
    refine Z.getf (n := 35) fX12_28 dX12_sides_32 rfl W93 rfl ?_
    refine Z.iload_n (n := 36) dX12_sides_35 rfl rfl ?_
    obtain ⟨j5, ej5, hf⟩ := Option.bind_eq_some_iff.mp hf
    obtain ⟨hij5, hlj5⟩ := ck_spec ej5
    refine Z.iald (j := j5) (n := 37) dX12_sides_36 rfl W99 hij5 hlj5 (by decide) ?_
    obtain ⟨z6, ez6, hf⟩ := Option.bind_eq_some_iff.mp hf
    refine Z.callV (n := 40) vX12_141 (ctX12_blockOf ez6) hJ.rm (Nat.le_of_ble_eq_true rfl) rfl rfl (Nat.le_refl _) (Nat.le_refl _) rfl W93 rfl rfl (Nat.le_of_ble_eq_true rfl) rfl dX12_sides_37 rfl (fun v w hw => ?_)
    obtain ⟨rfl, rfl⟩ := hw
    show Z _ _ _ _ _ _ _ [.int z6.1, .ref (a 93)] _
    exact zX12_sides_40 hJ _ _ _ _ _ hf
  · rw [if_neg c4] at hf
    refine Z.iconst (n := 27) (v := 0) dX12_sides_26 rfl (by decide +kernel) ?_
    refine Z.goto (tgt := 40) dX12_sides_27 rfl ?_
    exact zX12_sides_40 hJ _ _ _ _ _ hf
def fX12_sides (l1 : Int32) (l2 : Int32) (h : HT) : Option (Int32 × HT) :=
  Option.bind (ck 7 l1) fun j1 =>
  Option.bind (ck 7 l2) fun j2 =>
  if (h 99 j1) = (h 99 j2) then (fX12_sides_20 l1 l2 1 h)
  else (fX12_sides_20 l1 l2 0 h)
set_option maxHeartbeats 4000000 in
theorem ctX12_sides {g : GP} {a : Nat → Nat} {P : PT} {h : HT} {z : Int32 × HT} {l1 : Int32} {l2 : Int32} (hf : fX12_sides l1 l2 h = some z) : Ct g 5 0 0 mX12_sides [.ref (a 93), .int l1, .int l2] (WD g a h P) (PoV g a P z) := by
  refine Ct.of (by decide +kernel) (Nat.le_of_ble_eq_true rfl) fun J hJ => ?_
  show Z g mX12_sides J 0 0 0 [some (.ref (a 93)), some (.int l1), some (.int l2), none] [] (WD g a h P)
  unfold fX12_sides at hf
  refine Z.aload_n (n := 1) dX12_sides_0 rfl rfl ?_
  refine Z.getf (n := 4) fX12_28 dX12_sides_1 rfl W93 rfl ?_
  refine Z.iload_n (n := 5) dX12_sides_4 rfl rfl ?_
  obtain ⟨j1, ej1, hf⟩ := Option.bind_eq_some_iff.mp hf
  obtain ⟨hij1, hlj1⟩ := ck_spec ej1
  refine Z.iald (j := j1) (n := 6) dX12_sides_5 rfl W99 hij1 hlj1 (by decide) ?_
  refine Z.aload_n (n := 7) dX12_sides_6 rfl rfl ?_
  refine Z.getf (n := 10) fX12_28 dX12_sides_7 rfl W93 rfl ?_
  refine Z.iload_n (n := 11) dX12_sides_10 rfl rfl ?_
  obtain ⟨j2, ej2, hf⟩ := Option.bind_eq_some_iff.mp hf
  obtain ⟨hij2, hlj2⟩ := ck_spec ej2
  refine Z.iald (j := j2) (n := 12) dX12_sides_11 rfl W99 hij2 hlj2 (by decide) ?_
  refine Z.icmp_ne (tgt := 19) (n := 15) dX12_sides_12 rfl rfl (fun c3 => ?_) (fun c3 => ?_)
  · rw [if_neg c3] at hf
    refine Z.iconst (n := 20) (v := 0) dX12_sides_19 rfl (by decide +kernel) ?_
    exact zX12_sides_20 hJ _ _ _ _ hf
  · rw [if_pos c3] at hf
    refine Z.iconst (n := 16) (v := 1) dX12_sides_15 rfl (by decide +kernel) ?_
    refine Z.goto (tgt := 20) dX12_sides_16 rfl ?_
    exact zX12_sides_20 hJ _ _ _ _ hf
def fX12_pactOf (l1 : Int32) (l2 : Int32) (h : HT) : Option (Int32 × HT) :=
  Option.bind (ck 490 (((360 : Int32) + ((7 : Int32) * l1)) + l2)) fun j1 =>
  some (h 94 j1, h)
set_option maxHeartbeats 4000000 in
theorem ctX12_pactOf {g : GP} {a : Nat → Nat} {P : PT} {h : HT} {z : Int32 × HT} {l1 : Int32} {l2 : Int32} (hf : fX12_pactOf l1 l2 h = some z) : Ct g 1 0 0 mX12_pactOf [.ref (a 93), .int l1, .int l2] (WD g a h P) (PoI g a P z) := by
  refine Ct.of (by decide +kernel) (Nat.le_of_ble_eq_true rfl) fun J hJ => ?_
  show Z g mX12_pactOf J 0 0 0 [some (.ref (a 93)), some (.int l1), some (.int l2)] [] (WD g a h P)
  unfold fX12_pactOf at hf
  refine Z.aload_n (n := 1) dX12_pactOf_0 rfl rfl ?_
  refine Z.getf (n := 4) fX12_9 dX12_pactOf_1 rfl W93 rfl ?_
  refine Z.sipush (n := 7) (v := 360) dX12_pactOf_4 rfl (by decide +kernel) ?_
  refine Z.bipush (n := 9) (v := 7) dX12_pactOf_7 rfl (by decide +kernel) ?_
  refine Z.iload_n (n := 10) dX12_pactOf_9 rfl rfl ?_
  refine Z.imul (n := 11) dX12_pactOf_10 rfl ?_
  refine Z.iadd (n := 12) dX12_pactOf_11 rfl ?_
  refine Z.iload_n (n := 13) dX12_pactOf_12 rfl rfl ?_
  refine Z.iadd (n := 14) dX12_pactOf_13 rfl ?_
  obtain ⟨j1, ej1, hf⟩ := Option.bind_eq_some_iff.mp hf
  obtain ⟨hij1, hlj1⟩ := ck_spec ej1
  refine Z.iald (j := j1) (n := 15) dX12_pactOf_14 rfl W94 hij1 hlj1 (by decide) ?_
  have hz := Option.some.inj hf
  subst hz
  exact Z.iret hJ dX12_pactOf_15 rfl (Nat.le_refl _) (Nat.le_refl _) ⟨rfl, rfl⟩
def fX12_isTrue_30 (s0 : Int32) (h : HT) : Option (Int32 × HT) :=
  Option.bind (cb s0) fun u2 =>
  some (s0, h)
set_option maxHeartbeats 4000000 in
theorem zX12_isTrue_30 {g : GP} {a : Nat → Nat} {P : PT} {J : JT} {z : Int32 × HT} (hJ : JX g 3 0 0 (PoI g a P z) J) (s0 : Int32) (h : HT) (hf : fX12_isTrue_30 s0 h = some z) : Z g mX12_isTrue J 0 0 30 [none, none, none] [.int s0] (WD g a h P) := by
  unfold fX12_isTrue_30 at hf
  obtain ⟨u2, eu2, hf⟩ := Option.bind_eq_some_iff.mp hf
  have hz := Option.some.inj hf
  subst hz
  exact Z.zret hJ dX12_isTrue_30 rfl (cb_nar eu2) (Nat.le_refl _) (Nat.le_refl _) ⟨rfl, rfl⟩
def fX12_isTrue_25 (h : HT) : Option (Int32 × HT) :=
  fX12_isTrue_30 1 h
set_option maxHeartbeats 4000000 in
theorem zX12_isTrue_25 {g : GP} {a : Nat → Nat} {P : PT} {J : JT} {z : Int32 × HT} (hJ : JX g 3 0 0 (PoI g a P z) J) (h : HT) (hf : fX12_isTrue_25 h = some z) : Z g mX12_isTrue J 0 0 25 [none, none, none] [] (WD g a h P) := by
  unfold fX12_isTrue_25 at hf
  refine Z.iconst (n := 26) (v := 1) dX12_isTrue_25 rfl (by decide +kernel) ?_
  refine Z.goto (tgt := 30) dX12_isTrue_26 rfl ?_
  exact zX12_isTrue_30 hJ _ _ hf
def fX12_isTrue (l1 : Int32) (l2 : Int32) (h : HT) : Option (Int32 × HT) :=
  if (h 93 13) = 6 then (Option.bind (fX12_costOf l1 l2 h) fun z3 =>
  if (z3.2 94 6) < z3.1 then (fX12_isTrue_30 0 z3.2)
  else (fX12_isTrue_25 z3.2))
  else (fX12_isTrue_25 h)
set_option maxHeartbeats 4000000 in
theorem ctX12_isTrue {g : GP} {a : Nat → Nat} {P : PT} {h : HT} {z : Int32 × HT} {l1 : Int32} {l2 : Int32} (hf : fX12_isTrue l1 l2 h = some z) : Ct g 3 0 0 mX12_isTrue [.ref (a 93), .int l1, .int l2] (WD g a h P) (PoI g a P z) := by
  refine Ct.of (by decide +kernel) (Nat.le_of_ble_eq_true rfl) fun J hJ => ?_
  show Z g mX12_isTrue J 0 0 0 [some (.ref (a 93)), some (.int l1), some (.int l2)] [] (WD g a h P)
  unfold fX12_isTrue at hf
  refine Z.aload_n (n := 1) dX12_isTrue_0 rfl rfl ?_
  refine Z.getf (n := 4) fX12_135 dX12_isTrue_1 rfl W93 rfl ?_
  refine Z.bipush (n := 6) (v := 6) dX12_isTrue_4 rfl (by decide +kernel) ?_
  refine Z.icmp_ne (tgt := 25) (n := 9) dX12_isTrue_6 rfl rfl (fun c1 => ?_) (fun c1 => ?_)
  · rw [if_neg c1] at hf
    refine Z.fg [0, 1, 2] ?_
    exact zX12_isTrue_25 hJ _ hf
  · rw [if_pos c1] at hf
    refine Z.aload_n (n := 10) dX12_isTrue_9 rfl rfl ?_
    refine Z.iload_n (n := 11) dX12_isTrue_10 rfl rfl ?_
    refine Z.iload_n (n := 12) dX12_isTrue_11 rfl rfl ?_
    obtain ⟨z3, ez3, hf⟩ := Option.bind_eq_some_iff.mp hf
    refine Z.callV (n := 15) vX12_125 (ctX12_costOf ez3) hJ.rm (Nat.le_of_ble_eq_true rfl) rfl rfl (Nat.le_refl _) (Nat.le_refl _) rfl W93 rfl rfl (Nat.le_of_ble_eq_true rfl) rfl dX12_isTrue_12 rfl (fun v w hw => ?_)
    obtain ⟨rfl, rfl⟩ := hw
    show Z _ _ _ _ _ _ _ [.int z3.1] _
    refine Z.aload_n (n := 16) dX12_isTrue_15 rfl rfl ?_
    refine Z.getf (n := 19) fX12_9 dX12_isTrue_16 rfl W93 rfl ?_
    refine Z.bipush (n := 21) (v := 6) dX12_isTrue_19 rfl (by decide +kernel) ?_
    refine Z.iald (j := 6) (n := 22) dX12_isTrue_21 rfl W94 (by decide +kernel) (by decide) (by decide) ?_
    refine Z.icmp_gt (tgt := 29) (n := 25) dX12_isTrue_22 rfl rfl (fun c4 => ?_) (fun c4 => ?_)
    · rw [if_pos c4] at hf
      refine Z.iconst (n := 30) (v := 0) dX12_isTrue_29 rfl (by decide +kernel) ?_
      refine Z.fg [0, 1, 2] ?_
      exact zX12_isTrue_30 hJ _ _ hf
    · rw [if_neg c4] at hf
      refine Z.fg [0, 1, 2] ?_
      exact zX12_isTrue_25 hJ _ hf
def fX12_web_201 (k33_ : Int32 → Int32 → Int32 → HT → Option (Int32 × HT)) (l1 : Int32) (l2 : Int32) (l3 : Int32) (s0 : Int32) (s1 : Int32) (h : HT) : Option (Int32 × HT) :=
  k33_ l1 l2 (l3 + 1) (hu h 93 16 (s1 ||| s0))
set_option maxHeartbeats 4000000 in
theorem zX12_web_201 {g : GP} {a : Nat → Nat} {P : PT} {J : JT} {z : Int32 × HT} {k33_ : Int32 → Int32 → Int32 → HT → Option (Int32 × HT)} (hJ : JX g 5 0 0 (PoV g a P z) J) (hk33 : ∀ (l1 : Int32) (l2 : Int32) (l3 : Int32) (h : HT), k33_ l1 l2 l3 h = some z → Z g mX12_web J 0 0 33 [some (.ref (a 93)), some (.int l1), some (.int l2), some (.int l3), none, none, none, none, none] [] (WD g a h P)) (l1 : Int32) (l2 : Int32) (l3 : Int32) (s0 : Int32) (s1 : Int32) (h : HT) (hf : fX12_web_201 k33_ l1 l2 l3 s0 s1 h = some z) : Z g mX12_web J 0 0 201 [some (.ref (a 93)), some (.int l1), some (.int l2), some (.int l3), none, none, none, none, none] [.int s0, .int s1, .ref (a 93)] (WD g a h P) := by
  unfold fX12_web_201 at hf
  refine Z.ior (n := 202) dX12_web_201 rfl ?_
  refine Z.putf (n := 205) pX12_147 dX12_web_202 rfl W93 (Nat.le_of_ble_eq_true rfl) rfl rfl W93s_16 ?_
  refine Z.iinc (n := 208) (v := l3 + 1) dX12_web_205 rfl rfl rfl (by decide) rfl ?_
  refine Z.goto (tgt := 33) dX12_web_208 rfl ?_
  exact hk33 _ _ _ _ hf
def fX12_web_200 (k33_ : Int32 → Int32 → Int32 → HT → Option (Int32 × HT)) (l1 : Int32) (l2 : Int32) (l3 : Int32) (s0 : Int32) (h : HT) : Option (Int32 × HT) :=
  fX12_web_201 k33_ l1 l2 l3 0 s0 h
set_option maxHeartbeats 4000000 in
theorem zX12_web_200 {g : GP} {a : Nat → Nat} {P : PT} {J : JT} {z : Int32 × HT} {k33_ : Int32 → Int32 → Int32 → HT → Option (Int32 × HT)} (hJ : JX g 5 0 0 (PoV g a P z) J) (hk33 : ∀ (l1 : Int32) (l2 : Int32) (l3 : Int32) (h : HT), k33_ l1 l2 l3 h = some z → Z g mX12_web J 0 0 33 [some (.ref (a 93)), some (.int l1), some (.int l2), some (.int l3), none, none, none, none, none] [] (WD g a h P)) (l1 : Int32) (l2 : Int32) (l3 : Int32) (s0 : Int32) (h : HT) (hf : fX12_web_200 k33_ l1 l2 l3 s0 h = some z) : Z g mX12_web J 0 0 200 [some (.ref (a 93)), some (.int l1), some (.int l2), some (.int l3), none, none, none, none, none] [.int s0, .ref (a 93)] (WD g a h P) := by
  unfold fX12_web_200 at hf
  refine Z.iconst (n := 201) (v := 0) dX12_web_200 rfl (by decide +kernel) ?_
  exact zX12_web_201 hJ hk33 _ _ _ _ _ _ hf
def fX12_web_166 (k33_ : Int32 → Int32 → Int32 → HT → Option (Int32 × HT)) (l1 : Int32) (l2 : Int32) (l3 : Int32) (l7 : Int32) (l8 : Int32) (s0 : Int32) (s1 : Int32) (h : HT) : Option (Int32 × HT) :=
  if l8 = 0 then (fX12_web_200 k33_ l1 l2 l3 ((hu h 93 15 (s1 ||| s0)) 93 16) (hu h 93 15 (s1 ||| s0)))
  else (if l7 = 0 then (fX12_web_200 k33_ l1 l2 l3 ((hu h 93 15 (s1 ||| s0)) 93 16) (hu h 93 15 (s1 ||| s0)))
  else (Option.bind (fX12_isTrue l3 l1 (hu h 93 15 (s1 ||| s0))) fun z12 =>
  if z12.1 = 0 then (fX12_web_200 k33_ l1 l2 l3 ((hu h 93 15 (s1 ||| s0)) 93 16) z12.2)
  else (fX12_web_201 k33_ l1 l2 l3 ((1 : Int32) <<< (l3 &&& 31)) ((hu h 93 15 (s1 ||| s0)) 93 16) z12.2)))
set_option maxHeartbeats 4000000 in
theorem zX12_web_166 {g : GP} {a : Nat → Nat} {P : PT} {J : JT} {z : Int32 × HT} {k33_ : Int32 → Int32 → Int32 → HT → Option (Int32 × HT)} (hJ : JX g 5 0 0 (PoV g a P z) J) (hk33 : ∀ (l1 : Int32) (l2 : Int32) (l3 : Int32) (h : HT), k33_ l1 l2 l3 h = some z → Z g mX12_web J 0 0 33 [some (.ref (a 93)), some (.int l1), some (.int l2), some (.int l3), none, none, none, none, none] [] (WD g a h P)) (l1 : Int32) (l2 : Int32) (l3 : Int32) (l7 : Int32) (l8 : Int32) (s0 : Int32) (s1 : Int32) (h : HT) (hf : fX12_web_166 k33_ l1 l2 l3 l7 l8 s0 s1 h = some z) : Z g mX12_web J 0 0 166 [some (.ref (a 93)), some (.int l1), some (.int l2), some (.int l3), none, none, none, some (.int l7), some (.int l8)] [.int s0, .int s1, .ref (a 93)] (WD g a h P) := by
  unfold fX12_web_166 at hf
  refine Z.ior (n := 167) dX12_web_166 rfl ?_
  refine Z.putf (n := 170) pX12_144 dX12_web_167 rfl W93 (Nat.le_of_ble_eq_true rfl) rfl rfl W93s_15 ?_
  refine Z.aload_n (n := 171) dX12_web_170 rfl rfl ?_
  refine Z.dup (n := 172) dX12_web_171 rfl rfl ?_
  refine Z.getf (n := 175) fX12_147 dX12_web_172 rfl W93 rfl ?_
  refine Z.iload (n := 177) dX12_web_175 rfl rfl ?_
  refine Z.if_eq (tgt := 200) (n := 180) dX12_web_177 rfl rfl (fun c10 => ?_) (fun c10 => ?_)
  · rw [if_pos c10] at hf
    refine Z.fg [7, 8] ?_
    exact zX12_web_200 hJ hk33 _ _ _ _ _ hf
  · rw [if_neg c10] at hf
    refine Z.iload (n := 182) dX12_web_180 rfl rfl ?_
    refine Z.if_eq (tgt := 200) (n := 185) dX12_web_182 rfl rfl (fun c11 => ?_) (fun c11 => ?_)
    · rw [if_pos c11] at hf
      refine Z.fg [7, 8] ?_
      exact zX12_web_200 hJ hk33 _ _ _ _ _ hf
    · rw [if_neg c11] at hf
      refine Z.aload_n (n := 186) dX12_web_185 rfl rfl ?_
      refine Z.iload_n (n := 187) dX12_web_186 rfl rfl ?_
      refine Z.iload_n (n := 188) dX12_web_187 rfl rfl ?_
      obtain ⟨z12, ez12, hf⟩ := Option.bind_eq_some_iff.mp hf
      refine Z.callV (n := 191) vX12_159 (ctX12_isTrue ez12) hJ.rm (Nat.le_of_ble_eq_true rfl) rfl rfl (Nat.le_refl _) (Nat.le_refl _) rfl W93 rfl rfl (Nat.le_of_ble_eq_true rfl) rfl dX12_web_188 rfl (fun v w hw => ?_)
      obtain ⟨rfl, rfl⟩ := hw
      show Z _ _ _ _ _ _ _ [.int z12.1, .int ((hu h 93 15 (s1 ||| s0)) 93 16), .ref (a 93)] _
      refine Z.if_eq (tgt := 200) (n := 194) dX12_web_191 rfl rfl (fun c13 => ?_) (fun c13 => ?_)
      · rw [if_pos c13] at hf
        refine Z.fg [7, 8] ?_
        exact zX12_web_200 hJ hk33 _ _ _ _ _ hf
      · rw [if_neg c13] at hf
        refine Z.iconst (n := 195) (v := 1) dX12_web_194 rfl (by decide +kernel) ?_
        refine Z.iload_n (n := 196) dX12_web_195 rfl rfl ?_
        refine Z.ishl (n := 197) dX12_web_196 rfl ?_
        refine Z.goto (tgt := 201) dX12_web_197 rfl ?_
        refine Z.fg [7, 8] ?_
        exact zX12_web_201 hJ hk33 _ _ _ _ _ _ hf
def fX12_web_165 (k33_ : Int32 → Int32 → Int32 → HT → Option (Int32 × HT)) (l1 : Int32) (l2 : Int32) (l3 : Int32) (l7 : Int32) (l8 : Int32) (s0 : Int32) (h : HT) : Option (Int32 × HT) :=
  fX12_web_166 k33_ l1 l2 l3 l7 l8 0 s0 h
set_option maxHeartbeats 4000000 in
theorem zX12_web_165 {g : GP} {a : Nat → Nat} {P : PT} {J : JT} {z : Int32 × HT} {k33_ : Int32 → Int32 → Int32 → HT → Option (Int32 × HT)} (hJ : JX g 5 0 0 (PoV g a P z) J) (hk33 : ∀ (l1 : Int32) (l2 : Int32) (l3 : Int32) (h : HT), k33_ l1 l2 l3 h = some z → Z g mX12_web J 0 0 33 [some (.ref (a 93)), some (.int l1), some (.int l2), some (.int l3), none, none, none, none, none] [] (WD g a h P)) (l1 : Int32) (l2 : Int32) (l3 : Int32) (l7 : Int32) (l8 : Int32) (s0 : Int32) (h : HT) (hf : fX12_web_165 k33_ l1 l2 l3 l7 l8 s0 h = some z) : Z g mX12_web J 0 0 165 [some (.ref (a 93)), some (.int l1), some (.int l2), some (.int l3), none, none, none, some (.int l7), some (.int l8)] [.int s0, .ref (a 93)] (WD g a h P) := by
  unfold fX12_web_165 at hf
  refine Z.iconst (n := 166) (v := 0) dX12_web_165 rfl (by decide +kernel) ?_
  exact zX12_web_166 hJ hk33 _ _ _ _ _ _ _ _ hf
def fX12_web_133 (k33_ : Int32 → Int32 → Int32 → HT → Option (Int32 × HT)) (l1 : Int32) (l2 : Int32) (l3 : Int32) (l6 : Int32) (l7 : Int32) (s0 : Int32) (h : HT) : Option (Int32 × HT) :=
  if s0 = 0 then (fX12_web_165 k33_ l1 l2 l3 l7 s0 (h 93 15) h)
  else (if l6 = 0 then (fX12_web_165 k33_ l1 l2 l3 l7 s0 (h 93 15) h)
  else (Option.bind (fX12_isTrue l3 l2 h) fun z15 =>
  if z15.1 = 0 then (fX12_web_165 k33_ l1 l2 l3 l7 s0 (h 93 15) z15.2)
  else (fX12_web_166 k33_ l1 l2 l3 l7 s0 ((1 : Int32) <<< (l3 &&& 31)) (h 93 15) z15.2)))
set_option maxHeartbeats 4000000 in
theorem zX12_web_133 {g : GP} {a : Nat → Nat} {P : PT} {J : JT} {z : Int32 × HT} {k33_ : Int32 → Int32 → Int32 → HT → Option (Int32 × HT)} (hJ : JX g 5 0 0 (PoV g a P z) J) (hk33 : ∀ (l1 : Int32) (l2 : Int32) (l3 : Int32) (h : HT), k33_ l1 l2 l3 h = some z → Z g mX12_web J 0 0 33 [some (.ref (a 93)), some (.int l1), some (.int l2), some (.int l3), none, none, none, none, none] [] (WD g a h P)) (l1 : Int32) (l2 : Int32) (l3 : Int32) (l6 : Int32) (l7 : Int32) (s0 : Int32) (h : HT) (hf : fX12_web_133 k33_ l1 l2 l3 l6 l7 s0 h = some z) : Z g mX12_web J 0 0 133 [some (.ref (a 93)), some (.int l1), some (.int l2), some (.int l3), none, none, some (.int l6), some (.int l7), none] [.int s0] (WD g a h P) := by
  unfold fX12_web_133 at hf
  refine Z.istore (n := 135) dX12_web_133 rfl (by decide) rfl ?_
  refine Z.aload_n (n := 136) dX12_web_135 rfl rfl ?_
  refine Z.dup (n := 137) dX12_web_136 rfl rfl ?_
  refine Z.getf (n := 140) fX12_144 dX12_web_137 rfl W93 rfl ?_
  refine Z.iload (n := 142) dX12_web_140 rfl rfl ?_
  refine Z.if_eq (tgt := 165) (n := 145) dX12_web_142 rfl rfl (fun c9 => ?_) (fun c9 => ?_)
  · rw [if_pos c9] at hf
    refine Z.fg [6] ?_
    exact zX12_web_165 hJ hk33 _ _ _ _ _ _ _ hf
  · rw [if_neg c9] at hf
    refine Z.iload (n := 147) dX12_web_145 rfl rfl ?_
    refine Z.if_eq (tgt := 165) (n := 150) dX12_web_147 rfl rfl (fun c14 => ?_) (fun c14 => ?_)
    · rw [if_pos c14] at hf
      refine Z.fg [6] ?_
      exact zX12_web_165 hJ hk33 _ _ _ _ _ _ _ hf
    · rw [if_neg c14] at hf
      refine Z.aload_n (n := 151) dX12_web_150 rfl rfl ?_
      refine Z.iload_n (n := 152) dX12_web_151 rfl rfl ?_
      refine Z.iload_n (n := 153) dX12_web_152 rfl rfl ?_
      obtain ⟨z15, ez15, hf⟩ := Option.bind_eq_some_iff.mp hf
      refine Z.callV (n := 156) vX12_159 (ctX12_isTrue ez15) hJ.rm (Nat.le_of_ble_eq_true rfl) rfl rfl (Nat.le_refl _) (Nat.le_refl _) rfl W93 rfl rfl (Nat.le_of_ble_eq_true rfl) rfl dX12_web_153 rfl (fun v w hw => ?_)
      obtain ⟨rfl, rfl⟩ := hw
      show Z _ _ _ _ _ _ _ [.int z15.1, .int (h 93 15), .ref (a 93)] _
      refine Z.if_eq (tgt := 165) (n := 159) dX12_web_156 rfl rfl (fun c16 => ?_) (fun c16 => ?_)
      · rw [if_pos c16] at hf
        refine Z.fg [6] ?_
        exact zX12_web_165 hJ hk33 _ _ _ _ _ _ _ hf
      · rw [if_neg c16] at hf
        refine Z.iconst (n := 160) (v := 1) dX12_web_159 rfl (by decide +kernel) ?_
        refine Z.iload_n (n := 161) dX12_web_160 rfl rfl ?_
        refine Z.ishl (n := 162) dX12_web_161 rfl ?_
        refine Z.goto (tgt := 166) dX12_web_162 rfl ?_
        refine Z.fg [6] ?_
        exact zX12_web_166 hJ hk33 _ _ _ _ _ _ _ _ hf
def fX12_web_132 (k33_ : Int32 → Int32 → Int32 → HT → Option (Int32 × HT)) (l1 : Int32) (l2 : Int32) (l3 : Int32) (l6 : Int32) (l7 : Int32) (h : HT) : Option (Int32 × HT) :=
  fX12_web_133 k33_ l1 l2 l3 l6 l7 0 h
set_option maxHeartbeats 4000000 in
theorem zX12_web_132 {g : GP} {a : Nat → Nat} {P : PT} {J : JT} {z : Int32 × HT} {k33_ : Int32 → Int32 → Int32 → HT → Option (Int32 × HT)} (hJ : JX g 5 0 0 (PoV g a P z) J) (hk33 : ∀ (l1 : Int32) (l2 : Int32) (l3 : Int32) (h : HT), k33_ l1 l2 l3 h = some z → Z g mX12_web J 0 0 33 [some (.ref (a 93)), some (.int l1), some (.int l2), some (.int l3), none, none, none, none, none] [] (WD g a h P)) (l1 : Int32) (l2 : Int32) (l3 : Int32) (l6 : Int32) (l7 : Int32) (h : HT) (hf : fX12_web_132 k33_ l1 l2 l3 l6 l7 h = some z) : Z g mX12_web J 0 0 132 [some (.ref (a 93)), some (.int l1), some (.int l2), some (.int l3), none, none, some (.int l6), some (.int l7), none] [] (WD g a h P) := by
  unfold fX12_web_132 at hf
  refine Z.iconst (n := 133) (v := 0) dX12_web_132 rfl (by decide +kernel) ?_
  exact zX12_web_133 hJ hk33 _ _ _ _ _ _ _ hf
def fX12_web_89 (k33_ : Int32 → Int32 → Int32 → HT → Option (Int32 × HT)) (l1 : Int32) (l2 : Int32) (l3 : Int32) (l4 : Int32) (l5 : Int32) (l6 : Int32) (s0 : Int32) (h : HT) : Option (Int32 × HT) :=
  Option.bind (fX12_isAlive l3 h) fun z7 =>
  if z7.1 = 0 then (fX12_web_132 k33_ l1 l2 l3 l6 s0 z7.2)
  else (if l3 = l1 then (fX12_web_132 k33_ l1 l2 l3 l6 s0 z7.2)
  else (if l3 = l2 then (fX12_web_132 k33_ l1 l2 l3 l6 s0 z7.2)
  else (if l4 = 3 then (fX12_web_132 k33_ l1 l2 l3 l6 s0 z7.2)
  else (if l5 = 3 then (fX12_web_132 k33_ l1 l2 l3 l6 s0 z7.2)
  else (if l6 = s0 then (fX12_web_132 k33_ l1 l2 l3 l6 s0 z7.2)
  else (fX12_web_133 k33_ l1 l2 l3 l6 s0 1 z7.2))))))
set_option maxHeartbeats 4000000 in
theorem zX12_web_89 {g : GP} {a : Nat → Nat} {P : PT} {J : JT} {z : Int32 × HT} {k33_ : Int32 → Int32 → Int32 → HT → Option (Int32 × HT)} (hJ : JX g 5 0 0 (PoV g a P z) J) (hk33 : ∀ (l1 : Int32) (l2 : Int32) (l3 : Int32) (h : HT), k33_ l1 l2 l3 h = some z → Z g mX12_web J 0 0 33 [some (.ref (a 93)), some (.int l1), some (.int l2), some (.int l3), none, none, none, none, none] [] (WD g a h P)) (l1 : Int32) (l2 : Int32) (l3 : Int32) (l4 : Int32) (l5 : Int32) (l6 : Int32) (s0 : Int32) (h : HT) (hf : fX12_web_89 k33_ l1 l2 l3 l4 l5 l6 s0 h = some z) : Z g mX12_web J 0 0 89 [some (.ref (a 93)), some (.int l1), some (.int l2), some (.int l3), some (.int l4), some (.int l5), some (.int l6), none, none] [.int s0] (WD g a h P) := by
  unfold fX12_web_89 at hf
  refine Z.istore (n := 91) dX12_web_89 rfl (by decide) rfl ?_
  refine Z.aload_n (n := 92) dX12_web_91 rfl rfl ?_
  refine Z.iload_n (n := 93) dX12_web_92 rfl rfl ?_
  obtain ⟨z7, ez7, hf⟩ := Option.bind_eq_some_iff.mp hf
  refine Z.callV (n := 96) vX12_49 (ctX12_isAlive ez7) hJ.rm (Nat.le_of_ble_eq_true rfl) rfl rfl (Nat.le_refl _) (Nat.le_refl _) rfl W93 rfl rfl (Nat.le_of_ble_eq_true rfl) rfl dX12_web_93 rfl (fun v w hw => ?_)
  obtain ⟨rfl, rfl⟩ := hw
  show Z _ _ _ _ _ _ _ [.int z7.1] _
  refine Z.if_eq (tgt := 132) (n := 99) dX12_web_96 rfl rfl (fun c8 => ?_) (fun c8 => ?_)
  · rw [if_pos c8] at hf
    refine Z.fg [4, 5] ?_
    exact zX12_web_132 hJ hk33 _ _ _ _ _ _ hf
  · rw [if_neg c8] at hf
    refine Z.iload_n (n := 100) dX12_web_99 rfl rfl ?_
    refine Z.iload_n (n := 101) dX12_web_100 rfl rfl ?_
    refine Z.icmp_eq (tgt := 132) (n := 104) dX12_web_101 rfl rfl (fun c17 => ?_) (fun c17 => ?_)
    · rw [if_pos c17] at hf
      refine Z.fg [4, 5] ?_
      exact zX12_web_132 hJ hk33 _ _ _ _ _ _ hf
    · rw [if_neg c17] at hf
      refine Z.iload_n (n := 105) dX12_web_104 rfl rfl ?_
      refine Z.iload_n (n := 106) dX12_web_105 rfl rfl ?_
      refine Z.icmp_eq (tgt := 132) (n := 109) dX12_web_106 rfl rfl (fun c18 => ?_) (fun c18 => ?_)
      · rw [if_pos c18] at hf
        refine Z.fg [4, 5] ?_
        exact zX12_web_132 hJ hk33 _ _ _ _ _ _ hf
      · rw [if_neg c18] at hf
        refine Z.iload (n := 111) dX12_web_109 rfl rfl ?_
        refine Z.iconst (n := 112) (v := 3) dX12_web_111 rfl (by decide +kernel) ?_
        refine Z.icmp_eq (tgt := 132) (n := 115) dX12_web_112 rfl rfl (fun c19 => ?_) (fun c19 => ?_)
        · rw [if_pos c19] at hf
          refine Z.fg [4, 5] ?_
          exact zX12_web_132 hJ hk33 _ _ _ _ _ _ hf
        · rw [if_neg c19] at hf
          refine Z.iload (n := 117) dX12_web_115 rfl rfl ?_
          refine Z.iconst (n := 118) (v := 3) dX12_web_117 rfl (by decide +kernel) ?_
          refine Z.icmp_eq (tgt := 132) (n := 121) dX12_web_118 rfl rfl (fun c20 => ?_) (fun c20 => ?_)
          · rw [if_pos c20] at hf
            refine Z.fg [4, 5] ?_
            exact zX12_web_132 hJ hk33 _ _ _ _ _ _ hf
          · rw [if_neg c20] at hf
            refine Z.iload (n := 123) dX12_web_121 rfl rfl ?_
            refine Z.iload (n := 125) dX12_web_123 rfl rfl ?_
            refine Z.icmp_eq (tgt := 132) (n := 128) dX12_web_125 rfl rfl (fun c21 => ?_) (fun c21 => ?_)
            · rw [if_pos c21] at hf
              refine Z.fg [4, 5] ?_
              exact zX12_web_132 hJ hk33 _ _ _ _ _ _ hf
            · rw [if_neg c21] at hf
              refine Z.iconst (n := 129) (v := 1) dX12_web_128 rfl (by decide +kernel) ?_
              refine Z.goto (tgt := 133) dX12_web_129 rfl ?_
              refine Z.fg [4, 5] ?_
              exact zX12_web_133 hJ hk33 _ _ _ _ _ _ _ hf
def fX12_web_84 (k33_ : Int32 → Int32 → Int32 → HT → Option (Int32 × HT)) (l1 : Int32) (l2 : Int32) (l3 : Int32) (l4 : Int32) (l5 : Int32) (l6 : Int32) (h : HT) : Option (Int32 × HT) :=
  fX12_web_89 k33_ l1 l2 l3 l4 l5 l6 1 h
set_option maxHeartbeats 4000000 in
theorem zX12_web_84 {g : GP} {a : Nat → Nat} {P : PT} {J : JT} {z : Int32 × HT} {k33_ : Int32 → Int32 → Int32 → HT → Option (Int32 × HT)} (hJ : JX g 5 0 0 (PoV g a P z) J) (hk33 : ∀ (l1 : Int32) (l2 : Int32) (l3 : Int32) (h : HT), k33_ l1 l2 l3 h = some z → Z g mX12_web J 0 0 33 [some (.ref (a 93)), some (.int l1), some (.int l2), some (.int l3), none, none, none, none, none] [] (WD g a h P)) (l1 : Int32) (l2 : Int32) (l3 : Int32) (l4 : Int32) (l5 : Int32) (l6 : Int32) (h : HT) (hf : fX12_web_84 k33_ l1 l2 l3 l4 l5 l6 h = some z) : Z g mX12_web J 0 0 84 [some (.ref (a 93)), some (.int l1), some (.int l2), some (.int l3), some (.int l4), some (.int l5), some (.int l6), none, none] [] (WD g a h P) := by
  unfold fX12_web_84 at hf
  refine Z.iconst (n := 85) (v := 1) dX12_web_84 rfl (by decide +kernel) ?_
  refine Z.goto (tgt := 89) dX12_web_85 rfl ?_
  exact zX12_web_89 hJ hk33 _ _ _ _ _ _ _ _ hf
def fX12_web_70 (k33_ : Int32 → Int32 → Int32 → HT → Option (Int32 × HT)) (l1 : Int32) (l2 : Int32) (l3 : Int32) (l4 : Int32) (l5 : Int32) (s0 : Int32) (h : HT) : Option (Int32 × HT) :=
  if l5 = 1 then (fX12_web_84 k33_ l1 l2 l3 l4 l5 s0 h)
  else (if l5 = 2 then (fX12_web_84 k33_ l1 l2 l3 l4 l5 s0 h)
  else (fX12_web_89 k33_ l1 l2 l3 l4 l5 s0 0 h))
set_option maxHeartbeats 4000000 in
theorem zX12_web_70 {g : GP} {a : Nat → Nat} {P : PT} {J : JT} {z : Int32 × HT} {k33_ : Int32 → Int32 → Int32 → HT → Option (Int32 × HT)} (hJ : JX g 5 0 0 (PoV g a P z) J) (hk33 : ∀ (l1 : Int32) (l2 : Int32) (l3 : Int32) (h : HT), k33_ l1 l2 l3 h = some z → Z g mX12_web J 0 0 33 [some (.ref (a 93)), some (.int l1), some (.int l2), some (.int l3), none, none, none, none, none] [] (WD g a h P)) (l1 : Int32) (l2 : Int32) (l3 : Int32) (l4 : Int32) (l5 : Int32) (s0 : Int32) (h : HT) (hf : fX12_web_70 k33_ l1 l2 l3 l4 l5 s0 h = some z) : Z g mX12_web J 0 0 70 [some (.ref (a 93)), some (.int l1), some (.int l2), some (.int l3), some (.int l4), some (.int l5), none, none, none] [.int s0] (WD g a h P) := by
  unfold fX12_web_70 at hf
  refine Z.istore (n := 72) dX12_web_70 rfl (by decide) rfl ?_
  refine Z.iload (n := 74) dX12_web_72 rfl rfl ?_
  refine Z.iconst (n := 75) (v := 1) dX12_web_74 rfl (by decide +kernel) ?_
  refine Z.icmp_eq (tgt := 84) (n := 78) dX12_web_75 rfl rfl (fun c6 => ?_) (fun c6 => ?_)
  · rw [if_pos c6] at hf
    exact zX12_web_84 hJ hk33 _ _ _ _ _ _ _ hf
  · rw [if_neg c6] at hf
    refine Z.iload (n := 80) dX12_web_78 rfl rfl ?_
    refine Z.iconst (n := 81) (v := 2) dX12_web_80 rfl (by decide +kernel) ?_
    refine Z.icmp_ne (tgt := 88) (n := 84) dX12_web_81 rfl rfl (fun c22 => ?_) (fun c22 => ?_)
    · rw [if_neg c22] at hf
      refine Z.iconst (n := 89) (v := 0) dX12_web_88 rfl (by decide +kernel) ?_
      exact zX12_web_89 hJ hk33 _ _ _ _ _ _ _ _ hf
    · rw [if_pos c22] at hf
      exact zX12_web_84 hJ hk33 _ _ _ _ _ _ _ hf
def fX12_web_33 : Nat → Int32 → Int32 → Int32 → HT → Option (Int32 × HT)
  | 0, _, _, _, _ => none
  | n + 1, l1, l2, l3, h =>
  if (h 94 0) ≤ l3 then (some (0, h))
  else (Option.bind (fX12_pactOf l3 l1 h) fun z3 =>
  Option.bind (fX12_pactOf l3 l2 z3.2) fun z4 =>
  if z3.1 = 2 then (fX12_web_70 (fX12_web_33  n) l1 l2 l3 z3.1 z4.1 1 z4.2)
  else (fX12_web_70 (fX12_web_33  n) l1 l2 l3 z3.1 z4.1 0 z4.2))
set_option maxHeartbeats 4000000 in
theorem zX12_web_33 {g : GP} {a : Nat → Nat} {P : PT} {J : JT} {z : Int32 × HT} (hJ : JX g 5 0 0 (PoV g a P z) J) : ∀ (n : Nat) (l1 : Int32) (l2 : Int32) (l3 : Int32) (h : HT), fX12_web_33 n l1 l2 l3 h = some z → Z g mX12_web J 0 0 33 [some (.ref (a 93)), some (.int l1), some (.int l2), some (.int l3), none, none, none, none, none] [] (WD g a h P) := by
  intro n
  induction n with
  | zero =>
    intro _ _ _ _ hf
    cases hf
  | succ n ih =>
    intro l1 l2 l3 h hf
    unfold fX12_web_33 at hf
    refine Z.iload_n (n := 34) dX12_web_33 rfl rfl ?_
    refine Z.aload_n (n := 35) dX12_web_34 rfl rfl ?_
    refine Z.getf (n := 38) fX12_9 dX12_web_35 rfl W93 rfl ?_
    refine Z.iconst (n := 39) (v := 0) dX12_web_38 rfl (by decide +kernel) ?_
    refine Z.iald (j := 0) (n := 40) dX12_web_39 rfl W94 (by decide +kernel) (by decide) (by decide) ?_
    refine Z.icmp_ge (tgt := 211) (n := 43) dX12_web_40 rfl rfl (fun c2 => ?_) (fun c2 => ?_)
    · rw [if_pos c2] at hf
      have hz := Option.some.inj hf
      subst hz
      exact Z.vret hJ dX12_web_211 rfl (Nat.le_refl _) (Nat.le_refl _) ⟨rfl, rfl⟩
    · rw [if_neg c2] at hf
      refine Z.aload_n (n := 44) dX12_web_43 rfl rfl ?_
      refine Z.iload_n (n := 45) dX12_web_44 rfl rfl ?_
      refine Z.iload_n (n := 46) dX12_web_45 rfl rfl ?_
      obtain ⟨z3, ez3, hf⟩ := Option.bind_eq_some_iff.mp hf
      refine Z.callV (n := 49) vX12_156 (ctX12_pactOf ez3) hJ.rm (Nat.le_of_ble_eq_true rfl) rfl rfl (Nat.le_refl _) (Nat.le_refl _) rfl W93 rfl rfl (Nat.le_of_ble_eq_true rfl) rfl dX12_web_46 rfl (fun v w hw => ?_)
      obtain ⟨rfl, rfl⟩ := hw
      show Z _ _ _ _ _ _ _ [.int z3.1] _
      refine Z.istore (n := 51) dX12_web_49 rfl (by decide) rfl ?_
      refine Z.aload_n (n := 52) dX12_web_51 rfl rfl ?_
      refine Z.iload_n (n := 53) dX12_web_52 rfl rfl ?_
      refine Z.iload_n (n := 54) dX12_web_53 rfl rfl ?_
      obtain ⟨z4, ez4, hf⟩ := Option.bind_eq_some_iff.mp hf
      refine Z.callV (n := 57) vX12_156 (ctX12_pactOf ez4) hJ.rm (Nat.le_of_ble_eq_true rfl) rfl rfl (Nat.le_refl _) (Nat.le_refl _) rfl W93 rfl rfl (Nat.le_of_ble_eq_true rfl) rfl dX12_web_54 rfl (fun v w hw => ?_)
      obtain ⟨rfl, rfl⟩ := hw
      show Z _ _ _ _ _ _ _ [.int z4.1] _
      refine Z.istore (n := 59) dX12_web_57 rfl (by decide) rfl ?_
      refine Z.iload (n := 61) dX12_web_59 rfl rfl ?_
      refine Z.iconst (n := 62) (v := 2) dX12_web_61 rfl (by decide +kernel) ?_
      refine Z.icmp_ne (tgt := 69) (n := 65) dX12_web_62 rfl rfl (fun c5 => ?_) (fun c5 => ?_)
      · rw [if_neg c5] at hf
        refine Z.iconst (n := 70) (v := 0) dX12_web_69 rfl (by decide +kernel) ?_
        exact zX12_web_70 hJ ih _ _ _ _ _ _ _ hf
      · rw [if_pos c5] at hf
        refine Z.iconst (n := 66) (v := 1) dX12_web_65 rfl (by decide +kernel) ?_
        refine Z.goto (tgt := 70) dX12_web_66 rfl ?_
        exact zX12_web_70 hJ ih _ _ _ _ _ _ _ hf
def fX12_web_31 (l1 : Int32) (l2 : Int32) (h : HT) : Option (Int32 × HT) :=
  fX12_web_33 1000 l1 l2 0 h
set_option maxHeartbeats 4000000 in
theorem zX12_web_31 {g : GP} {a : Nat → Nat} {P : PT} {J : JT} {z : Int32 × HT} (hJ : JX g 5 0 0 (PoV g a P z) J) (l1 : Int32) (l2 : Int32) (h : HT) (hf : fX12_web_31 l1 l2 h = some z) : Z g mX12_web J 0 0 31 [some (.ref (a 93)), some (.int l1), some (.int l2), none, none, none, none, none, none] [] (WD g a h P) := by
  unfold fX12_web_31 at hf
  refine Z.iconst (n := 32) (v := 0) dX12_web_31 rfl (by decide +kernel) ?_
  refine Z.istore_n (n := 33) dX12_web_32 rfl (by decide) rfl ?_
  exact zX12_web_33 hJ _ _ _ _ _ hf
def fX12_web (l1 : Int32) (l2 : Int32) (h : HT) : Option (Int32 × HT) :=
  if (h 93 13) = 5 then (if l2 = (h 93 14) then (Option.bind (fX12_alive  h) fun z24 =>
  some (0, hu z24.2 93 16 (z24.1 &&& (((1 : Int32) <<< (l1 &&& 31)) ^^^ (-1 : Int32)))))
  else (fX12_web_31 l1 l2 h))
  else (fX12_web_31 l1 l2 h)
set_option maxHeartbeats 4000000 in
theorem ctX12_web {g : GP} {a : Nat → Nat} {P : PT} {h : HT} {z : Int32 × HT} {l1 : Int32} {l2 : Int32} (hf : fX12_web l1 l2 h = some z) : Ct g 5 0 0 mX12_web [.ref (a 93), .int l1, .int l2] (WD g a h P) (PoV g a P z) := by
  refine Ct.of (by decide +kernel) (Nat.le_of_ble_eq_true rfl) fun J hJ => ?_
  show Z g mX12_web J 0 0 0 [some (.ref (a 93)), some (.int l1), some (.int l2), none, none, none, none, none, none] [] (WD g a h P)
  unfold fX12_web at hf
  refine Z.aload_n (n := 1) dX12_web_0 rfl rfl ?_
  refine Z.getf (n := 4) fX12_135 dX12_web_1 rfl W93 rfl ?_
  refine Z.iconst (n := 5) (v := 5) dX12_web_4 rfl (by decide +kernel) ?_
  refine Z.icmp_ne (tgt := 31) (n := 8) dX12_web_5 rfl rfl (fun c1 => ?_) (fun c1 => ?_)
  · rw [if_neg c1] at hf
    exact zX12_web_31 hJ _ _ _ hf
  · rw [if_pos c1] at hf
    refine Z.iload_n (n := 9) dX12_web_8 rfl rfl ?_
    refine Z.aload_n (n := 10) dX12_web_9 rfl rfl ?_
    refine Z.getf (n := 13) fX12_138 dX12_web_10 rfl W93 rfl ?_
    refine Z.icmp_ne (tgt := 31) (n := 16) dX12_web_13 rfl rfl (fun c23 => ?_) (fun c23 => ?_)
    · rw [if_neg c23] at hf
      exact zX12_web_31 hJ _ _ _ hf
    · rw [if_pos c23] at hf
      refine Z.aload_n (n := 17) dX12_web_16 rfl rfl ?_
      refine Z.aload_n (n := 18) dX12_web_17 rfl rfl ?_
      obtain ⟨z24, ez24, hf⟩ := Option.bind_eq_some_iff.mp hf
      refine Z.callV (n := 21) vX12_153 (ctX12_alive ez24) hJ.rm (Nat.le_of_ble_eq_true rfl) rfl rfl (Nat.le_refl _) (Nat.le_refl _) rfl W93 rfl rfl (Nat.le_of_ble_eq_true rfl) rfl dX12_web_18 rfl (fun v w hw => ?_)
      obtain ⟨rfl, rfl⟩ := hw
      show Z _ _ _ _ _ _ _ [.int z24.1, .ref (a 93)] _
      refine Z.iconst (n := 22) (v := 1) dX12_web_21 rfl (by decide +kernel) ?_
      refine Z.iload_n (n := 23) dX12_web_22 rfl rfl ?_
      refine Z.ishl (n := 24) dX12_web_23 rfl ?_
      refine Z.iconst (n := 25) (v := -1) dX12_web_24 rfl (by decide +kernel) ?_
      refine Z.ixor (n := 26) dX12_web_25 rfl ?_
      refine Z.iand (n := 27) dX12_web_26 rfl ?_
      refine Z.putf (n := 30) pX12_147 dX12_web_27 rfl W93 (Nat.le_of_ble_eq_true rfl) rfl rfl W93s_16 ?_
      have hz := Option.some.inj hf
      subst hz
      exact Z.vret hJ dX12_web_30 rfl (Nat.le_refl _) (Nat.le_refl _) ⟨rfl, rfl⟩
def fX12_comesTo_81 (l1 : Int32) (l2 : Int32) (h : HT) : Option (Int32 × HT) :=
  some (0, hu (hu h 93 15 (((h 93 15) &&& ((((1 : Int32) <<< (l1 &&& 31)) ||| ((1 : Int32) <<< (l2 &&& 31))) ^^^ (-1 : Int32))) ||| ((1 : Int32) <<< (l1 &&& 31)))) 93 16 ((((hu h 93 15 (((h 93 15) &&& ((((1 : Int32) <<< (l1 &&& 31)) ||| ((1 : Int32) <<< (l2 &&& 31))) ^^^ (-1 : Int32))) ||| ((1 : Int32) <<< (l1 &&& 31)))) 93 16) &&& ((((1 : Int32) <<< (l1 &&& 31)) ||| ((1 : Int32) <<< (l2 &&& 31))) ^^^ (-1 : Int32))) ||| ((1 : Int32) <<< (l2 &&& 31))))
set_option maxHeartbeats 4000000 in
theorem zX12_comesTo_81 {g : GP} {a : Nat → Nat} {P : PT} {J : JT} {z : Int32 × HT} (hJ : JX g 6 0 0 (PoV g a P z) J) (l1 : Int32) (l2 : Int32) (h : HT) (hf : fX12_comesTo_81 l1 l2 h = some z) : Z g mX12_comesTo J 0 0 81 [some (.ref (a 93)), some (.int l1), some (.int l2), none] [] (WD g a h P) := by
  unfold fX12_comesTo_81 at hf
  refine Z.iconst (n := 82) (v := 1) dX12_comesTo_81 rfl (by decide +kernel) ?_
  refine Z.iload_n (n := 83) dX12_comesTo_82 rfl rfl ?_
  refine Z.ishl (n := 84) dX12_comesTo_83 rfl ?_
  refine Z.iconst (n := 85) (v := 1) dX12_comesTo_84 rfl (by decide +kernel) ?_
  refine Z.iload_n (n := 86) dX12_comesTo_85 rfl rfl ?_
  refine Z.ishl (n := 87) dX12_comesTo_86 rfl ?_
  refine Z.ior (n := 88) dX12_comesTo_87 rfl ?_
  refine Z.istore_n (n := 89) dX12_comesTo_88 rfl (by decide) rfl ?_
  refine Z.aload_n (n := 90) dX12_comesTo_89 rfl rfl ?_
  refine Z.aload_n (n := 91) dX12_comesTo_90 rfl rfl ?_
  refine Z.getf (n := 94) fX12_144 dX12_comesTo_91 rfl W93 rfl ?_
  refine Z.iload_n (n := 95) dX12_comesTo_94 rfl rfl ?_
  refine Z.iconst (n := 96) (v := -1) dX12_comesTo_95 rfl (by decide +kernel) ?_
  refine Z.ixor (n := 97) dX12_comesTo_96 rfl ?_
  refine Z.iand (n := 98) dX12_comesTo_97 rfl ?_
  refine Z.iconst (n := 99) (v := 1) dX12_comesTo_98 rfl (by decide +kernel) ?_
  refine Z.iload_n (n := 100) dX12_comesTo_99 rfl rfl ?_
  refine Z.ishl (n := 101) dX12_comesTo_100 rfl ?_
  refine Z.ior (n := 102) dX12_comesTo_101 rfl ?_
  refine Z.putf (n := 105) pX12_144 dX12_comesTo_102 rfl W93 (Nat.le_of_ble_eq_true rfl) rfl rfl W93s_15 ?_
  refine Z.aload_n (n := 106) dX12_comesTo_105 rfl rfl ?_
  refine Z.aload_n (n := 107) dX12_comesTo_106 rfl rfl ?_
  refine Z.getf (n := 110) fX12_147 dX12_comesTo_107 rfl W93 rfl ?_
  refine Z.iload_n (n := 111) dX12_comesTo_110 rfl rfl ?_
  refine Z.iconst (n := 112) (v := -1) dX12_comesTo_111 rfl (by decide +kernel) ?_
  refine Z.ixor (n := 113) dX12_comesTo_112 rfl ?_
  refine Z.iand (n := 114) dX12_comesTo_113 rfl ?_
  refine Z.iconst (n := 115) (v := 1) dX12_comesTo_114 rfl (by decide +kernel) ?_
  refine Z.iload_n (n := 116) dX12_comesTo_115 rfl rfl ?_
  refine Z.ishl (n := 117) dX12_comesTo_116 rfl ?_
  refine Z.ior (n := 118) dX12_comesTo_117 rfl ?_
  refine Z.putf (n := 121) pX12_147 dX12_comesTo_118 rfl W93 (Nat.le_of_ble_eq_true rfl) rfl rfl W93s_16 ?_
  have hz := Option.some.inj hf
  subst hz
  exact Z.vret hJ dX12_comesTo_121 rfl (Nat.le_refl _) (Nat.le_refl _) ⟨rfl, rfl⟩
def fX12_comesTo_58 (l1 : Int32) (l2 : Int32) (h : HT) : Option (Int32 × HT) :=
  Option.bind (fX12_sides l1 l2 h) fun z3 =>
  fX12_comesTo_81 l1 l2 z3.2
set_option maxHeartbeats 4000000 in
theorem zX12_comesTo_58 {g : GP} {a : Nat → Nat} {P : PT} {J : JT} {z : Int32 × HT} (hJ : JX g 6 0 0 (PoV g a P z) J) (l1 : Int32) (l2 : Int32) (h : HT) (hf : fX12_comesTo_58 l1 l2 h = some z) : Z g mX12_comesTo J 0 0 58 [some (.ref (a 93)), some (.int l1), some (.int l2), none] [] (WD g a h P) := by
  unfold fX12_comesTo_58 at hf
  refine Z.aload_n (n := 59) dX12_comesTo_58 rfl rfl ?_
  refine Z.iload_n (n := 60) dX12_comesTo_59 rfl rfl ?_
  refine Z.iload_n (n := 61) dX12_comesTo_60 rfl rfl ?_
  obtain ⟨z3, ez3, hf⟩ := Option.bind_eq_some_iff.mp hf
  refine Z.callV (n := 64) vX12_163 (ctX12_sides ez3) hJ.rm (Nat.le_of_ble_eq_true rfl) rfl rfl (Nat.le_refl _) (Nat.le_refl _) rfl W93 rfl rfl (Nat.le_of_ble_eq_true rfl) rfl dX12_comesTo_61 rfl (fun v w hw => ?_)
  obtain ⟨rfl, rfl⟩ := hw
  show Z _ _ _ _ _ _ _ [] _
  refine Z.goto (tgt := 81) dX12_comesTo_64 rfl ?_
  exact zX12_comesTo_81 hJ _ _ _ hf
def fX12_comesTo (l1 : Int32) (l2 : Int32) (h : HT) : Option (Int32 × HT) :=
  if ((hu (hu h 93 15 0) 93 16 0) 93 13) = 0 then (Option.bind (fX12_alive  (hu (hu h 93 15 0) 93 16 0)) fun z7 =>
  Option.bind (fX12_alive  (hu z7.2 93 15 (z7.1 &&& (85 : Int32)))) fun z8 =>
  fX12_comesTo_81 l1 l2 (hu z8.2 93 16 (z8.1 &&& (42 : Int32))))
  else (if ((hu (hu h 93 15 0) 93 16 0) 93 13) = 2 then (fX12_comesTo_58 l1 l2 (hu (hu h 93 15 0) 93 16 0))
  else (if ((hu (hu h 93 15 0) 93 16 0) 93 13) = 4 then (fX12_comesTo_58 l1 l2 (hu (hu h 93 15 0) 93 16 0))
  else (if ((hu (hu h 93 15 0) 93 16 0) 93 13) = 1 then (fX12_comesTo_81 l1 l2 (hu (hu h 93 15 0) 93 16 0))
  else (Option.bind (fX12_web l1 l2 (hu (hu h 93 15 0) 93 16 0)) fun z6 =>
  fX12_comesTo_81 l1 l2 z6.2))))
set_option maxHeartbeats 4000000 in
theorem ctX12_comesTo {g : GP} {a : Nat → Nat} {P : PT} {h : HT} {z : Int32 × HT} {l1 : Int32} {l2 : Int32} (hf : fX12_comesTo l1 l2 h = some z) : Ct g 6 0 0 mX12_comesTo [.ref (a 93), .int l1, .int l2] (WD g a h P) (PoV g a P z) := by
  refine Ct.of (by decide +kernel) (Nat.le_of_ble_eq_true rfl) fun J hJ => ?_
  show Z g mX12_comesTo J 0 0 0 [some (.ref (a 93)), some (.int l1), some (.int l2), none] [] (WD g a h P)
  unfold fX12_comesTo at hf
  refine Z.aload_n (n := 1) dX12_comesTo_0 rfl rfl ?_
  refine Z.iconst (n := 2) (v := 0) dX12_comesTo_1 rfl (by decide +kernel) ?_
  refine Z.putf (n := 5) pX12_144 dX12_comesTo_2 rfl W93 (Nat.le_of_ble_eq_true rfl) rfl rfl W93s_15 ?_
  refine Z.aload_n (n := 6) dX12_comesTo_5 rfl rfl ?_
  refine Z.iconst (n := 7) (v := 0) dX12_comesTo_6 rfl (by decide +kernel) ?_
  refine Z.putf (n := 10) pX12_147 dX12_comesTo_7 rfl W93 (Nat.le_of_ble_eq_true rfl) rfl rfl W93s_16 ?_
  refine Z.aload_n (n := 11) dX12_comesTo_10 rfl rfl ?_
  refine Z.getf (n := 14) fX12_135 dX12_comesTo_11 rfl W93 rfl ?_
  refine Z.if_ne (tgt := 42) (n := 17) dX12_comesTo_14 rfl rfl (fun c1 => ?_) (fun c1 => ?_)
  · rw [if_neg c1] at hf
    refine Z.aload_n (n := 43) dX12_comesTo_42 rfl rfl ?_
    refine Z.getf (n := 46) fX12_135 dX12_comesTo_43 rfl W93 rfl ?_
    refine Z.iconst (n := 47) (v := 2) dX12_comesTo_46 rfl (by decide +kernel) ?_
    refine Z.icmp_eq (tgt := 58) (n := 50) dX12_comesTo_47 rfl rfl (fun c2 => ?_) (fun c2 => ?_)
    · rw [if_pos c2] at hf
      exact zX12_comesTo_58 hJ _ _ _ hf
    · rw [if_neg c2] at hf
      refine Z.aload_n (n := 51) dX12_comesTo_50 rfl rfl ?_
      refine Z.getf (n := 54) fX12_135 dX12_comesTo_51 rfl W93 rfl ?_
      refine Z.iconst (n := 55) (v := 4) dX12_comesTo_54 rfl (by decide +kernel) ?_
      refine Z.icmp_ne (tgt := 67) (n := 58) dX12_comesTo_55 rfl rfl (fun c4 => ?_) (fun c4 => ?_)
      · rw [if_neg c4] at hf
        refine Z.aload_n (n := 68) dX12_comesTo_67 rfl rfl ?_
        refine Z.getf (n := 71) fX12_135 dX12_comesTo_68 rfl W93 rfl ?_
        refine Z.iconst (n := 72) (v := 1) dX12_comesTo_71 rfl (by decide +kernel) ?_
        refine Z.icmp_eq (tgt := 81) (n := 75) dX12_comesTo_72 rfl rfl (fun c5 => ?_) (fun c5 => ?_)
        · rw [if_pos c5] at hf
          exact zX12_comesTo_81 hJ _ _ _ hf
        · rw [if_neg c5] at hf
          refine Z.aload_n (n := 76) dX12_comesTo_75 rfl rfl ?_
          refine Z.iload_n (n := 77) dX12_comesTo_76 rfl rfl ?_
          refine Z.iload_n (n := 78) dX12_comesTo_77 rfl rfl ?_
          obtain ⟨z6, ez6, hf⟩ := Option.bind_eq_some_iff.mp hf
          refine Z.callV (n := 81) vX12_167 (ctX12_web ez6) hJ.rm (Nat.le_of_ble_eq_true rfl) rfl rfl (Nat.le_refl _) (Nat.le_refl _) rfl W93 rfl rfl (Nat.le_of_ble_eq_true rfl) rfl dX12_comesTo_78 rfl (fun v w hw => ?_)
          obtain ⟨rfl, rfl⟩ := hw
          show Z _ _ _ _ _ _ _ [] _
          exact zX12_comesTo_81 hJ _ _ _ hf
      · rw [if_pos c4] at hf
        exact zX12_comesTo_58 hJ _ _ _ hf
  · rw [if_pos c1] at hf
    refine Z.aload_n (n := 18) dX12_comesTo_17 rfl rfl ?_
    refine Z.aload_n (n := 19) dX12_comesTo_18 rfl rfl ?_
    obtain ⟨z7, ez7, hf⟩ := Option.bind_eq_some_iff.mp hf
    refine Z.callV (n := 22) vX12_153 (ctX12_alive ez7) hJ.rm (Nat.le_of_ble_eq_true rfl) rfl rfl (Nat.le_refl _) (Nat.le_refl _) rfl W93 rfl rfl (Nat.le_of_ble_eq_true rfl) rfl dX12_comesTo_19 rfl (fun v w hw => ?_)
    obtain ⟨rfl, rfl⟩ := hw
    show Z _ _ _ _ _ _ _ [.int z7.1, .ref (a 93)] _
    refine Z.bipush (n := 24) (v := 85) dX12_comesTo_22 rfl (by decide +kernel) ?_
    refine Z.iand (n := 25) dX12_comesTo_24 rfl ?_
    refine Z.putf (n := 28) pX12_144 dX12_comesTo_25 rfl W93 (Nat.le_of_ble_eq_true rfl) rfl rfl W93s_15 ?_
    refine Z.aload_n (n := 29) dX12_comesTo_28 rfl rfl ?_
    refine Z.aload_n (n := 30) dX12_comesTo_29 rfl rfl ?_
    obtain ⟨z8, ez8, hf⟩ := Option.bind_eq_some_iff.mp hf
    refine Z.callV (n := 33) vX12_153 (ctX12_alive ez8) hJ.rm (Nat.le_of_ble_eq_true rfl) rfl rfl (Nat.le_refl _) (Nat.le_refl _) rfl W93 rfl rfl (Nat.le_of_ble_eq_true rfl) rfl dX12_comesTo_30 rfl (fun v w hw => ?_)
    obtain ⟨rfl, rfl⟩ := hw
    show Z _ _ _ _ _ _ _ [.int z8.1, .ref (a 93)] _
    refine Z.bipush (n := 35) (v := 42) dX12_comesTo_33 rfl (by decide +kernel) ?_
    refine Z.iand (n := 36) dX12_comesTo_35 rfl ?_
    refine Z.putf (n := 39) pX12_147 dX12_comesTo_36 rfl W93 (Nat.le_of_ble_eq_true rfl) rfl rfl W93s_16 ?_
    refine Z.goto (tgt := 81) dX12_comesTo_39 rfl ?_
    exact zX12_comesTo_81 hJ _ _ _ hf
def fX12_comes_34 (h : HT) : Option (Int32 × HT) :=
  some ((-1), h)
set_option maxHeartbeats 4000000 in
theorem zX12_comes_34 {g : GP} {a : Nat → Nat} {P : PT} {J : JT} {z : Int32 × HT} (hJ : JX g 7 0 0 (PoI g a P z) J) (h : HT) (hf : fX12_comes_34 h = some z) : Z g mX12_comes J 0 0 34 [none, none, none, none, none] [] (WD g a h P) := by
  unfold fX12_comes_34 at hf
  refine Z.iconst (n := 35) (v := -1) dX12_comes_34 rfl (by decide +kernel) ?_
  have hz := Option.some.inj hf
  subst hz
  exact Z.iret hJ dX12_comes_35 rfl (Nat.le_refl _) (Nat.le_refl _) ⟨rfl, rfl⟩
def fX12_comes_60 (h : HT) : Option (Int32 × HT) :=
  some ((-3), h)
set_option maxHeartbeats 4000000 in
theorem zX12_comes_60 {g : GP} {a : Nat → Nat} {P : PT} {J : JT} {z : Int32 × HT} (hJ : JX g 7 0 0 (PoI g a P z) J) (h : HT) (hf : fX12_comes_60 h = some z) : Z g mX12_comes J 0 0 60 [none, none, none, none, none] [] (WD g a h P) := by
  unfold fX12_comes_60 at hf
  refine Z.bipush (n := 62) (v := -3) dX12_comes_60 rfl (by decide +kernel) ?_
  have hz := Option.some.inj hf
  subst hz
  exact Z.iret hJ dX12_comes_62 rfl (Nat.le_refl _) (Nat.le_refl _) ⟨rfl, rfl⟩
def fX12_comes_90 (s0 : Int32) (h : HT) : Option (Int32 × HT) :=
  some (s0, h)
set_option maxHeartbeats 4000000 in
theorem zX12_comes_90 {g : GP} {a : Nat → Nat} {P : PT} {J : JT} {z : Int32 × HT} (hJ : JX g 7 0 0 (PoI g a P z) J) (s0 : Int32) (h : HT) (hf : fX12_comes_90 s0 h = some z) : Z g mX12_comes J 0 0 90 [none, none, none, none, none] [.int s0] (WD g a h P) := by
  unfold fX12_comes_90 at hf
  have hz := Option.some.inj hf
  subst hz
  exact Z.iret hJ dX12_comes_90 rfl (Nat.le_refl _) (Nat.le_refl _) ⟨rfl, rfl⟩
def fX12_comes (l1 : Int32) (l2 : Int32) (l3 : Int32) (l4 : Int32) (h : HT) : Option (Int32 × HT) :=
  Option.bind (fX12_isStanding l1 h) fun z1 =>
  if z1.1 = 0 then (fX12_comes_34 z1.2)
  else (Option.bind (fX12_isKing l2 z1.2) fun z3 =>
  if z3.1 = 0 then (fX12_comes_34 z3.2)
  else (Option.bind (fX12_isKing l3 z3.2) fun z5 =>
  if z5.1 = 0 then (fX12_comes_34 z5.2)
  else (Option.bind (fX12_in l4 0 1 z5.2) fun z7 =>
  if z7.1 = 0 then (fX12_comes_34 z7.2)
  else (if l2 = l3 then (some ((-2), z7.2))
  else (Option.bind (fX12_isAlive l2 z7.2) fun z10 =>
  if z10.1 = 0 then (fX12_comes_60 z10.2)
  else (Option.bind (fX12_isAlive l3 z10.2) fun z12 =>
  if z12.1 = 0 then (fX12_comes_60 z12.2)
  else (Option.bind (fX12_takes l1 z12.2) fun z14 =>
  Option.bind (fX12_comesTo l2 l3 z14.2) fun z15 =>
  if l4 = 0 then (fX12_comes_90 (z15.2 93 15) z15.2)
  else (fX12_comes_90 (z15.2 93 16) z15.2))))))))
set_option maxHeartbeats 4000000 in
theorem ctX12_comes {g : GP} {a : Nat → Nat} {P : PT} {h : HT} {z : Int32 × HT} {l1 : Int32} {l2 : Int32} {l3 : Int32} {l4 : Int32} (hf : fX12_comes l1 l2 l3 l4 h = some z) : Ct g 7 0 0 mX12_comes [.ref (a 93), .int l1, .int l2, .int l3, .int l4] (WD g a h P) (PoI g a P z) := by
  refine Ct.of (by decide +kernel) (Nat.le_of_ble_eq_true rfl) fun J hJ => ?_
  show Z g mX12_comes J 0 0 0 [some (.ref (a 93)), some (.int l1), some (.int l2), some (.int l3), some (.int l4)] [] (WD g a h P)
  unfold fX12_comes at hf
  refine Z.aload_n (n := 1) dX12_comes_0 rfl rfl ?_
  refine Z.iload_n (n := 2) dX12_comes_1 rfl rfl ?_
  obtain ⟨z1, ez1, hf⟩ := Option.bind_eq_some_iff.mp hf
  refine Z.callV (n := 5) vX12_132 (ctX12_isStanding ez1) hJ.rm (Nat.le_of_ble_eq_true rfl) rfl rfl (Nat.le_refl _) (Nat.le_refl _) rfl W93 rfl rfl (Nat.le_of_ble_eq_true rfl) rfl dX12_comes_2 rfl (fun v w hw => ?_)
  obtain ⟨rfl, rfl⟩ := hw
  show Z _ _ _ _ _ _ _ [.int z1.1] _
  refine Z.if_eq (tgt := 34) (n := 8) dX12_comes_5 rfl rfl (fun c2 => ?_) (fun c2 => ?_)
  · rw [if_pos c2] at hf
    refine Z.fg [0, 1, 2, 3, 4] ?_
    exact zX12_comes_34 hJ _ hf
  · rw [if_neg c2] at hf
    refine Z.aload_n (n := 9) dX12_comes_8 rfl rfl ?_
    refine Z.iload_n (n := 10) dX12_comes_9 rfl rfl ?_
    obtain ⟨z3, ez3, hf⟩ := Option.bind_eq_some_iff.mp hf
    refine Z.callV (n := 13) vX12_45 (ctX12_isKing ez3) hJ.rm (Nat.le_of_ble_eq_true rfl) rfl rfl (Nat.le_refl _) (Nat.le_refl _) rfl W93 rfl rfl (Nat.le_of_ble_eq_true rfl) rfl dX12_comes_10 rfl (fun v w hw => ?_)
    obtain ⟨rfl, rfl⟩ := hw
    show Z _ _ _ _ _ _ _ [.int z3.1] _
    refine Z.if_eq (tgt := 34) (n := 16) dX12_comes_13 rfl rfl (fun c4 => ?_) (fun c4 => ?_)
    · rw [if_pos c4] at hf
      refine Z.fg [0, 1, 2, 3, 4] ?_
      exact zX12_comes_34 hJ _ hf
    · rw [if_neg c4] at hf
      refine Z.aload_n (n := 17) dX12_comes_16 rfl rfl ?_
      refine Z.iload_n (n := 18) dX12_comes_17 rfl rfl ?_
      obtain ⟨z5, ez5, hf⟩ := Option.bind_eq_some_iff.mp hf
      refine Z.callV (n := 21) vX12_45 (ctX12_isKing ez5) hJ.rm (Nat.le_of_ble_eq_true rfl) rfl rfl (Nat.le_refl _) (Nat.le_refl _) rfl W93 rfl rfl (Nat.le_of_ble_eq_true rfl) rfl dX12_comes_18 rfl (fun v w hw => ?_)
      obtain ⟨rfl, rfl⟩ := hw
      show Z _ _ _ _ _ _ _ [.int z5.1] _
      refine Z.if_eq (tgt := 34) (n := 24) dX12_comes_21 rfl rfl (fun c6 => ?_) (fun c6 => ?_)
      · rw [if_pos c6] at hf
        refine Z.fg [0, 1, 2, 3, 4] ?_
        exact zX12_comes_34 hJ _ hf
      · rw [if_neg c6] at hf
        refine Z.iload (n := 26) dX12_comes_24 rfl rfl ?_
        refine Z.iconst (n := 27) (v := 0) dX12_comes_26 rfl (by decide +kernel) ?_
        refine Z.iconst (n := 28) (v := 1) dX12_comes_27 rfl (by decide +kernel) ?_
        obtain ⟨z7, ez7, hf⟩ := Option.bind_eq_some_iff.mp hf
        refine Z.callS (n := 31) vX12_41 (ctX12_in ez7) hJ.rm (Nat.le_of_ble_eq_true rfl) rfl rfl (Nat.le_refl _) (Nat.le_refl _) rfl (Nat.le_of_ble_eq_true rfl) rfl dX12_comes_28 rfl (fun v w hw => ?_)
        obtain ⟨rfl, rfl⟩ := hw
        show Z _ _ _ _ _ _ _ [.int z7.1] _
        refine Z.if_ne (tgt := 36) (n := 34) dX12_comes_31 rfl rfl (fun c8 => ?_) (fun c8 => ?_)
        · rw [if_neg c8] at hf
          refine Z.iload_n (n := 37) dX12_comes_36 rfl rfl ?_
          refine Z.iload_n (n := 38) dX12_comes_37 rfl rfl ?_
          refine Z.icmp_ne (tgt := 44) (n := 41) dX12_comes_38 rfl rfl (fun c9 => ?_) (fun c9 => ?_)
          · rw [if_neg c9] at hf
            refine Z.aload_n (n := 45) dX12_comes_44 rfl rfl ?_
            refine Z.iload_n (n := 46) dX12_comes_45 rfl rfl ?_
            obtain ⟨z10, ez10, hf⟩ := Option.bind_eq_some_iff.mp hf
            refine Z.callV (n := 49) vX12_49 (ctX12_isAlive ez10) hJ.rm (Nat.le_of_ble_eq_true rfl) rfl rfl (Nat.le_refl _) (Nat.le_refl _) rfl W93 rfl rfl (Nat.le_of_ble_eq_true rfl) rfl dX12_comes_46 rfl (fun v w hw => ?_)
            obtain ⟨rfl, rfl⟩ := hw
            show Z _ _ _ _ _ _ _ [.int z10.1] _
            refine Z.if_eq (tgt := 60) (n := 52) dX12_comes_49 rfl rfl (fun c11 => ?_) (fun c11 => ?_)
            · rw [if_pos c11] at hf
              refine Z.fg [0, 1, 2, 3, 4] ?_
              exact zX12_comes_60 hJ _ hf
            · rw [if_neg c11] at hf
              refine Z.aload_n (n := 53) dX12_comes_52 rfl rfl ?_
              refine Z.iload_n (n := 54) dX12_comes_53 rfl rfl ?_
              obtain ⟨z12, ez12, hf⟩ := Option.bind_eq_some_iff.mp hf
              refine Z.callV (n := 57) vX12_49 (ctX12_isAlive ez12) hJ.rm (Nat.le_of_ble_eq_true rfl) rfl rfl (Nat.le_refl _) (Nat.le_refl _) rfl W93 rfl rfl (Nat.le_of_ble_eq_true rfl) rfl dX12_comes_54 rfl (fun v w hw => ?_)
              obtain ⟨rfl, rfl⟩ := hw
              show Z _ _ _ _ _ _ _ [.int z12.1] _
              refine Z.if_ne (tgt := 63) (n := 60) dX12_comes_57 rfl rfl (fun c13 => ?_) (fun c13 => ?_)
              · rw [if_neg c13] at hf
                refine Z.aload_n (n := 64) dX12_comes_63 rfl rfl ?_
                refine Z.iload_n (n := 65) dX12_comes_64 rfl rfl ?_
                obtain ⟨z14, ez14, hf⟩ := Option.bind_eq_some_iff.mp hf
                refine Z.callV (n := 68) vX12_170 (ctX12_takes ez14) hJ.rm (Nat.le_of_ble_eq_true rfl) rfl rfl (Nat.le_refl _) (Nat.le_refl _) rfl W93 rfl rfl (Nat.le_of_ble_eq_true rfl) rfl dX12_comes_65 rfl (fun v w hw => ?_)
                obtain ⟨rfl, rfl⟩ := hw
                show Z _ _ _ _ _ _ _ [] _
                refine Z.aload_n (n := 69) dX12_comes_68 rfl rfl ?_
                refine Z.iload_n (n := 70) dX12_comes_69 rfl rfl ?_
                refine Z.iload_n (n := 71) dX12_comes_70 rfl rfl ?_
                obtain ⟨z15, ez15, hf⟩ := Option.bind_eq_some_iff.mp hf
                refine Z.callV (n := 74) vX12_173 (ctX12_comesTo ez15) hJ.rm (Nat.le_of_ble_eq_true rfl) rfl rfl (Nat.le_refl _) (Nat.le_refl _) rfl W93 rfl rfl (Nat.le_of_ble_eq_true rfl) rfl dX12_comes_71 rfl (fun v w hw => ?_)
                obtain ⟨rfl, rfl⟩ := hw
                show Z _ _ _ _ _ _ _ [] _
                refine Z.iload (n := 76) dX12_comes_74 rfl rfl ?_
                refine Z.if_ne (tgt := 86) (n := 79) dX12_comes_76 rfl rfl (fun c16 => ?_) (fun c16 => ?_)
                · rw [if_neg c16] at hf
                  refine Z.aload_n (n := 87) dX12_comes_86 rfl rfl ?_
                  refine Z.getf (n := 90) fX12_147 dX12_comes_87 rfl W93 rfl ?_
                  refine Z.fg [0, 1, 2, 3, 4] ?_
                  exact zX12_comes_90 hJ _ _ hf
                · rw [if_pos c16] at hf
                  refine Z.aload_n (n := 80) dX12_comes_79 rfl rfl ?_
                  refine Z.getf (n := 83) fX12_144 dX12_comes_80 rfl W93 rfl ?_
                  refine Z.goto (tgt := 90) dX12_comes_83 rfl ?_
                  refine Z.fg [0, 1, 2, 3, 4] ?_
                  exact zX12_comes_90 hJ _ _ hf
              · rw [if_pos c13] at hf
                refine Z.fg [0, 1, 2, 3, 4] ?_
                exact zX12_comes_60 hJ _ hf
          · rw [if_pos c9] at hf
            refine Z.bipush (n := 43) (v := -2) dX12_comes_41 rfl (by decide +kernel) ?_
            have hz := Option.some.inj hf
            subst hz
            exact Z.iret hJ dX12_comes_43 rfl (Nat.le_refl _) (Nat.le_refl _) ⟨rfl, rfl⟩
        · rw [if_pos c8] at hf
          refine Z.fg [0, 1, 2, 3, 4] ?_
          exact zX12_comes_34 hJ _ hf
def fX12_sums_104 (k18_ : Int32 → Int32 → HT → Option (Int32 × HT)) (l2 : Int32) (l3 : Int32) (s0 : Int32) (s1 : Int32) (h : HT) : Option (Int32 × HT) :=
  k18_ l2 (l3 + 1) (hu h 93 18 (s1 + s0))
set_option maxHeartbeats 4000000 in
theorem zX12_sums_104 {g : GP} {a : Nat → Nat} {P : PT} {J : JT} {z : Int32 × HT} {k18_ : Int32 → Int32 → HT → Option (Int32 × HT)} (hJ : JX g 7 0 0 (PoV g a P z) J) (hk18 : ∀ (l2 : Int32) (l3 : Int32) (h : HT), k18_ l2 l3 h = some z → Z g mX12_sums J 0 0 18 [some (.ref (a 93)), none, some (.int l2), some (.int l3)] [] (WD g a h P)) (l2 : Int32) (l3 : Int32) (s0 : Int32) (s1 : Int32) (h : HT) (hf : fX12_sums_104 k18_ l2 l3 s0 s1 h = some z) : Z g mX12_sums J 0 0 104 [some (.ref (a 93)), none, some (.int l2), some (.int l3)] [.int s0, .int s1, .ref (a 93)] (WD g a h P) := by
  unfold fX12_sums_104 at hf
  refine Z.iadd (n := 105) dX12_sums_104 rfl ?_
  refine Z.putf (n := 108) pX12_179 dX12_sums_105 rfl W93 (Nat.le_of_ble_eq_true rfl) rfl rfl W93s_18 ?_
  refine Z.iinc (n := 111) (v := l3 + 1) dX12_sums_108 rfl rfl rfl (by decide) rfl ?_
  refine Z.goto (tgt := 18) dX12_sums_111 rfl ?_
  exact hk18 _ _ _ hf
def fX12_sums_64 (k18_ : Int32 → Int32 → HT → Option (Int32 × HT)) (l2 : Int32) (l3 : Int32) (s0 : Int32) (s1 : Int32) (h : HT) : Option (Int32 × HT) :=
  if ((((hu h 93 17 (s1 + s0)) 93 16) >>> (l3 &&& 31)) &&& (1 : Int32)) = 1 then (Option.bind (ck 490 ((280 : Int32) + l2)) fun j5 =>
  Option.bind (fX12_forceOf l3 ((hu h 93 17 (s1 + s0)) 94 j5) (hu h 93 17 (s1 + s0))) fun z6 =>
  fX12_sums_104 k18_ l2 l3 z6.1 ((hu h 93 17 (s1 + s0)) 93 18) z6.2)
  else (fX12_sums_104 k18_ l2 l3 0 ((hu h 93 17 (s1 + s0)) 93 18) (hu h 93 17 (s1 + s0)))
set_option maxHeartbeats 4000000 in
theorem zX12_sums_64 {g : GP} {a : Nat → Nat} {P : PT} {J : JT} {z : Int32 × HT} {k18_ : Int32 → Int32 → HT → Option (Int32 × HT)} (hJ : JX g 7 0 0 (PoV g a P z) J) (hk18 : ∀ (l2 : Int32) (l3 : Int32) (h : HT), k18_ l2 l3 h = some z → Z g mX12_sums J 0 0 18 [some (.ref (a 93)), none, some (.int l2), some (.int l3)] [] (WD g a h P)) (l2 : Int32) (l3 : Int32) (s0 : Int32) (s1 : Int32) (h : HT) (hf : fX12_sums_64 k18_ l2 l3 s0 s1 h = some z) : Z g mX12_sums J 0 0 64 [some (.ref (a 93)), none, some (.int l2), some (.int l3)] [.int s0, .int s1, .ref (a 93)] (WD g a h P) := by
  unfold fX12_sums_64 at hf
  refine Z.iadd (n := 65) dX12_sums_64 rfl ?_
  refine Z.putf (n := 68) pX12_176 dX12_sums_65 rfl W93 (Nat.le_of_ble_eq_true rfl) rfl rfl W93s_17 ?_
  refine Z.aload_n (n := 69) dX12_sums_68 rfl rfl ?_
  refine Z.dup (n := 70) dX12_sums_69 rfl rfl ?_
  refine Z.getf (n := 73) fX12_179 dX12_sums_70 rfl W93 rfl ?_
  refine Z.aload_n (n := 74) dX12_sums_73 rfl rfl ?_
  refine Z.getf (n := 77) fX12_147 dX12_sums_74 rfl W93 rfl ?_
  refine Z.iload_n (n := 78) dX12_sums_77 rfl rfl ?_
  refine Z.ishr (n := 79) dX12_sums_78 rfl ?_
  refine Z.iconst (n := 80) (v := 1) dX12_sums_79 rfl (by decide +kernel) ?_
  refine Z.iand (n := 81) dX12_sums_80 rfl ?_
  refine Z.iconst (n := 82) (v := 1) dX12_sums_81 rfl (by decide +kernel) ?_
  refine Z.icmp_ne (tgt := 103) (n := 85) dX12_sums_82 rfl rfl (fun c4 => ?_) (fun c4 => ?_)
  · rw [if_neg c4] at hf
    refine Z.iconst (n := 104) (v := 0) dX12_sums_103 rfl (by decide +kernel) ?_
    exact zX12_sums_104 hJ hk18 _ _ _ _ _ hf
  · rw [if_pos c4] at hf
    refine Z.aload_n (n := 86) dX12_sums_85 rfl rfl ?_
    refine Z.iload_n (n := 87) dX12_sums_86 rfl rfl ?_
    refine Z.aload_n (n := 88) dX12_sums_87 rfl rfl ?_
    refine Z.getf (n := 91) fX12_9 dX12_sums_88 rfl W93 rfl ?_
    refine Z.sipush (n := 94) (v := 280) dX12_sums_91 rfl (by decide +kernel) ?_
    refine Z.iload_n (n := 95) dX12_sums_94 rfl rfl ?_
    refine Z.iadd (n := 96) dX12_sums_95 rfl ?_
    obtain ⟨j5, ej5, hf⟩ := Option.bind_eq_some_iff.mp hf
    obtain ⟨hij5, hlj5⟩ := ck_spec ej5
    refine Z.iald (j := j5) (n := 97) dX12_sums_96 rfl W94 hij5 hlj5 (by decide) ?_
    obtain ⟨z6, ez6, hf⟩ := Option.bind_eq_some_iff.mp hf
    refine Z.callV (n := 100) vX12_129 (ctX12_forceOf ez6) hJ.rm (Nat.le_of_ble_eq_true rfl) rfl rfl (Nat.le_refl _) (Nat.le_refl _) rfl W93 rfl rfl (Nat.le_of_ble_eq_true rfl) rfl dX12_sums_97 rfl (fun v w hw => ?_)
    obtain ⟨rfl, rfl⟩ := hw
    show Z _ _ _ _ _ _ _ [.int z6.1, .int ((hu h 93 17 (s1 + s0)) 93 18), .ref (a 93)] _
    refine Z.goto (tgt := 104) dX12_sums_100 rfl ?_
    exact zX12_sums_104 hJ hk18 _ _ _ _ _ hf
def fX12_sums_18 : Nat → Int32 → Int32 → HT → Option (Int32 × HT)
  | 0, _, _, _ => none
  | n + 1, l2, l3, h =>
  if (h 94 0) ≤ l3 then (some (0, h))
  else (if (((h 93 15) >>> (l3 &&& 31)) &&& (1 : Int32)) = 1 then (Option.bind (ck 490 ((280 : Int32) + l2)) fun j7 =>
  Option.bind (fX12_forceOf l3 (h 94 j7) h) fun z8 =>
  fX12_sums_64 (fX12_sums_18  n) l2 l3 z8.1 (h 93 17) z8.2)
  else (fX12_sums_64 (fX12_sums_18  n) l2 l3 0 (h 93 17) h))
set_option maxHeartbeats 4000000 in
theorem zX12_sums_18 {g : GP} {a : Nat → Nat} {P : PT} {J : JT} {z : Int32 × HT} (hJ : JX g 7 0 0 (PoV g a P z) J) : ∀ (n : Nat) (l2 : Int32) (l3 : Int32) (h : HT), fX12_sums_18 n l2 l3 h = some z → Z g mX12_sums J 0 0 18 [some (.ref (a 93)), none, some (.int l2), some (.int l3)] [] (WD g a h P) := by
  intro n
  induction n with
  | zero =>
    intro _ _ _ hf
    cases hf
  | succ n ih =>
    intro l2 l3 h hf
    unfold fX12_sums_18 at hf
    refine Z.iload_n (n := 19) dX12_sums_18 rfl rfl ?_
    refine Z.aload_n (n := 20) dX12_sums_19 rfl rfl ?_
    refine Z.getf (n := 23) fX12_9 dX12_sums_20 rfl W93 rfl ?_
    refine Z.iconst (n := 24) (v := 0) dX12_sums_23 rfl (by decide +kernel) ?_
    refine Z.iald (j := 0) (n := 25) dX12_sums_24 rfl W94 (by decide +kernel) (by decide) (by decide) ?_
    refine Z.icmp_ge (tgt := 114) (n := 28) dX12_sums_25 rfl rfl (fun c2 => ?_) (fun c2 => ?_)
    · rw [if_pos c2] at hf
      have hz := Option.some.inj hf
      subst hz
      exact Z.vret hJ dX12_sums_114 rfl (Nat.le_refl _) (Nat.le_refl _) ⟨rfl, rfl⟩
    · rw [if_neg c2] at hf
      refine Z.aload_n (n := 29) dX12_sums_28 rfl rfl ?_
      refine Z.dup (n := 30) dX12_sums_29 rfl rfl ?_
      refine Z.getf (n := 33) fX12_176 dX12_sums_30 rfl W93 rfl ?_
      refine Z.aload_n (n := 34) dX12_sums_33 rfl rfl ?_
      refine Z.getf (n := 37) fX12_144 dX12_sums_34 rfl W93 rfl ?_
      refine Z.iload_n (n := 38) dX12_sums_37 rfl rfl ?_
      refine Z.ishr (n := 39) dX12_sums_38 rfl ?_
      refine Z.iconst (n := 40) (v := 1) dX12_sums_39 rfl (by decide +kernel) ?_
      refine Z.iand (n := 41) dX12_sums_40 rfl ?_
      refine Z.iconst (n := 42) (v := 1) dX12_sums_41 rfl (by decide +kernel) ?_
      refine Z.icmp_ne (tgt := 63) (n := 45) dX12_sums_42 rfl rfl (fun c3 => ?_) (fun c3 => ?_)
      · rw [if_neg c3] at hf
        refine Z.iconst (n := 64) (v := 0) dX12_sums_63 rfl (by decide +kernel) ?_
        exact zX12_sums_64 hJ ih _ _ _ _ _ hf
      · rw [if_pos c3] at hf
        refine Z.aload_n (n := 46) dX12_sums_45 rfl rfl ?_
        refine Z.iload_n (n := 47) dX12_sums_46 rfl rfl ?_
        refine Z.aload_n (n := 48) dX12_sums_47 rfl rfl ?_
        refine Z.getf (n := 51) fX12_9 dX12_sums_48 rfl W93 rfl ?_
        refine Z.sipush (n := 54) (v := 280) dX12_sums_51 rfl (by decide +kernel) ?_
        refine Z.iload_n (n := 55) dX12_sums_54 rfl rfl ?_
        refine Z.iadd (n := 56) dX12_sums_55 rfl ?_
        obtain ⟨j7, ej7, hf⟩ := Option.bind_eq_some_iff.mp hf
        obtain ⟨hij7, hlj7⟩ := ck_spec ej7
        refine Z.iald (j := j7) (n := 57) dX12_sums_56 rfl W94 hij7 hlj7 (by decide) ?_
        obtain ⟨z8, ez8, hf⟩ := Option.bind_eq_some_iff.mp hf
        refine Z.callV (n := 60) vX12_129 (ctX12_forceOf ez8) hJ.rm (Nat.le_of_ble_eq_true rfl) rfl rfl (Nat.le_refl _) (Nat.le_refl _) rfl W93 rfl rfl (Nat.le_of_ble_eq_true rfl) rfl dX12_sums_57 rfl (fun v w hw => ?_)
        obtain ⟨rfl, rfl⟩ := hw
        show Z _ _ _ _ _ _ _ [.int z8.1, .int (h 93 17), .ref (a 93)] _
        refine Z.goto (tgt := 64) dX12_sums_60 rfl ?_
        exact zX12_sums_64 hJ ih _ _ _ _ _ hf
def fX12_sums (l1 : Int32) (l2 : Int32) (h : HT) : Option (Int32 × HT) :=
  Option.bind (fX12_comesTo l1 l2 h) fun z1 =>
  fX12_sums_18 1000 l2 0 (hu (hu z1.2 93 17 0) 93 18 0)
set_option maxHeartbeats 4000000 in
theorem ctX12_sums {g : GP} {a : Nat → Nat} {P : PT} {h : HT} {z : Int32 × HT} {l1 : Int32} {l2 : Int32} (hf : fX12_sums l1 l2 h = some z) : Ct g 7 0 0 mX12_sums [.ref (a 93), .int l1, .int l2] (WD g a h P) (PoV g a P z) := by
  refine Ct.of (by decide +kernel) (Nat.le_of_ble_eq_true rfl) fun J hJ => ?_
  show Z g mX12_sums J 0 0 0 [some (.ref (a 93)), some (.int l1), some (.int l2), none] [] (WD g a h P)
  unfold fX12_sums at hf
  refine Z.aload_n (n := 1) dX12_sums_0 rfl rfl ?_
  refine Z.iload_n (n := 2) dX12_sums_1 rfl rfl ?_
  refine Z.iload_n (n := 3) dX12_sums_2 rfl rfl ?_
  obtain ⟨z1, ez1, hf⟩ := Option.bind_eq_some_iff.mp hf
  refine Z.callV (n := 6) vX12_173 (ctX12_comesTo ez1) hJ.rm (Nat.le_of_ble_eq_true rfl) rfl rfl (Nat.le_refl _) (Nat.le_refl _) rfl W93 rfl rfl (Nat.le_of_ble_eq_true rfl) rfl dX12_sums_3 rfl (fun v w hw => ?_)
  obtain ⟨rfl, rfl⟩ := hw
  show Z _ _ _ _ _ _ _ [] _
  refine Z.aload_n (n := 7) dX12_sums_6 rfl rfl ?_
  refine Z.iconst (n := 8) (v := 0) dX12_sums_7 rfl (by decide +kernel) ?_
  refine Z.putf (n := 11) pX12_176 dX12_sums_8 rfl W93 (Nat.le_of_ble_eq_true rfl) rfl rfl W93s_17 ?_
  refine Z.aload_n (n := 12) dX12_sums_11 rfl rfl ?_
  refine Z.iconst (n := 13) (v := 0) dX12_sums_12 rfl (by decide +kernel) ?_
  refine Z.putf (n := 16) pX12_179 dX12_sums_13 rfl W93 (Nat.le_of_ble_eq_true rfl) rfl rfl W93s_18 ?_
  refine Z.iconst (n := 17) (v := 0) dX12_sums_16 rfl (by decide +kernel) ?_
  refine Z.istore_n (n := 18) dX12_sums_17 rfl (by decide) rfl ?_
  refine Z.fg [1] ?_
  exact zX12_sums_18 hJ _ _ _ _ hf
def fX12_gainOf_62 (s0 : Int32) (h : HT) : Option (Int32 × HT) :=
  some (s0, h)
set_option maxHeartbeats 4000000 in
theorem zX12_gainOf_62 {g : GP} {a : Nat → Nat} {P : PT} {J : JT} {z : Int32 × HT} (hJ : JX g 8 0 0 (PoI g a P z) J) (s0 : Int32) (h : HT) (hf : fX12_gainOf_62 s0 h = some z) : Z g mX12_gainOf J 0 0 62 [none, none, none, none] [.int s0] (WD g a h P) := by
  unfold fX12_gainOf_62 at hf
  have hz := Option.some.inj hf
  subst hz
  exact Z.iret hJ dX12_gainOf_62 rfl (Nat.le_refl _) (Nat.le_refl _) ⟨rfl, rfl⟩
def fX12_gainOf (l1 : Int32) (l2 : Int32) (h : HT) : Option (Int32 × HT) :=
  Option.bind (fX12_sums l1 l2 h) fun z1 =>
  Option.bind (fX12_costOf l1 l2 z1.2) fun z2 =>
  if (z2.2 93 17) ≤ (z2.2 93 18) then (Option.bind (ck 490 (((310 : Int32) + ((7 : Int32) * l1)) + l2)) fun j4 =>
  fX12_gainOf_62 ((-z2.1) - (z2.2 94 j4)) z2.2)
  else (Option.bind (ck 490 (((310 : Int32) + ((7 : Int32) * l2)) + l1)) fun j5 =>
  fX12_gainOf_62 ((z2.2 94 j5) - z2.1) z2.2)
set_option maxHeartbeats 4000000 in
theorem ctX12_gainOf {g : GP} {a : Nat → Nat} {P : PT} {h : HT} {z : Int32 × HT} {l1 : Int32} {l2 : Int32} (hf : fX12_gainOf l1 l2 h = some z) : Ct g 8 0 0 mX12_gainOf [.ref (a 93), .int l1, .int l2] (WD g a h P) (PoI g a P z) := by
  refine Ct.of (by decide +kernel) (Nat.le_of_ble_eq_true rfl) fun J hJ => ?_
  show Z g mX12_gainOf J 0 0 0 [some (.ref (a 93)), some (.int l1), some (.int l2), none] [] (WD g a h P)
  unfold fX12_gainOf at hf
  refine Z.aload_n (n := 1) dX12_gainOf_0 rfl rfl ?_
  refine Z.iload_n (n := 2) dX12_gainOf_1 rfl rfl ?_
  refine Z.iload_n (n := 3) dX12_gainOf_2 rfl rfl ?_
  obtain ⟨z1, ez1, hf⟩ := Option.bind_eq_some_iff.mp hf
  refine Z.callV (n := 6) vX12_182 (ctX12_sums ez1) hJ.rm (Nat.le_of_ble_eq_true rfl) rfl rfl (Nat.le_refl _) (Nat.le_refl _) rfl W93 rfl rfl (Nat.le_of_ble_eq_true rfl) rfl dX12_gainOf_3 rfl (fun v w hw => ?_)
  obtain ⟨rfl, rfl⟩ := hw
  show Z _ _ _ _ _ _ _ [] _
  refine Z.aload_n (n := 7) dX12_gainOf_6 rfl rfl ?_
  refine Z.iload_n (n := 8) dX12_gainOf_7 rfl rfl ?_
  refine Z.iload_n (n := 9) dX12_gainOf_8 rfl rfl ?_
  obtain ⟨z2, ez2, hf⟩ := Option.bind_eq_some_iff.mp hf
  refine Z.callV (n := 12) vX12_125 (ctX12_costOf ez2) hJ.rm (Nat.le_of_ble_eq_true rfl) rfl rfl (Nat.le_refl _) (Nat.le_refl _) rfl W93 rfl rfl (Nat.le_of_ble_eq_true rfl) rfl dX12_gainOf_9 rfl (fun v w hw => ?_)
  obtain ⟨rfl, rfl⟩ := hw
  show Z _ _ _ _ _ _ _ [.int z2.1] _
  refine Z.istore_n (n := 13) dX12_gainOf_12 rfl (by decide) rfl ?_
  refine Z.aload_n (n := 14) dX12_gainOf_13 rfl rfl ?_
  refine Z.getf (n := 17) fX12_176 dX12_gainOf_14 rfl W93 rfl ?_
  refine Z.aload_n (n := 18) dX12_gainOf_17 rfl rfl ?_
  refine Z.getf (n := 21) fX12_179 dX12_gainOf_18 rfl W93 rfl ?_
  refine Z.icmp_le (tgt := 44) (n := 24) dX12_gainOf_21 rfl rfl (fun c3 => ?_) (fun c3 => ?_)
  · rw [if_pos c3] at hf
    refine Z.iload_n (n := 45) dX12_gainOf_44 rfl rfl ?_
    refine Z.ineg (n := 46) dX12_gainOf_45 rfl ?_
    refine Z.aload_n (n := 47) dX12_gainOf_46 rfl rfl ?_
    refine Z.getf (n := 50) fX12_9 dX12_gainOf_47 rfl W93 rfl ?_
    refine Z.sipush (n := 53) (v := 310) dX12_gainOf_50 rfl (by decide +kernel) ?_
    refine Z.bipush (n := 55) (v := 7) dX12_gainOf_53 rfl (by decide +kernel) ?_
    refine Z.iload_n (n := 56) dX12_gainOf_55 rfl rfl ?_
    refine Z.imul (n := 57) dX12_gainOf_56 rfl ?_
    refine Z.iadd (n := 58) dX12_gainOf_57 rfl ?_
    refine Z.iload_n (n := 59) dX12_gainOf_58 rfl rfl ?_
    refine Z.iadd (n := 60) dX12_gainOf_59 rfl ?_
    obtain ⟨j4, ej4, hf⟩ := Option.bind_eq_some_iff.mp hf
    obtain ⟨hij4, hlj4⟩ := ck_spec ej4
    refine Z.iald (j := j4) (n := 61) dX12_gainOf_60 rfl W94 hij4 hlj4 (by decide) ?_
    refine Z.isub (n := 62) dX12_gainOf_61 rfl ?_
    refine Z.fg [0, 1, 2, 3] ?_
    exact zX12_gainOf_62 hJ _ _ hf
  · rw [if_neg c3] at hf
    refine Z.aload_n (n := 25) dX12_gainOf_24 rfl rfl ?_
    refine Z.getf (n := 28) fX12_9 dX12_gainOf_25 rfl W93 rfl ?_
    refine Z.sipush (n := 31) (v := 310) dX12_gainOf_28 rfl (by decide +kernel) ?_
    refine Z.bipush (n := 33) (v := 7) dX12_gainOf_31 rfl (by decide +kernel) ?_
    refine Z.iload_n (n := 34) dX12_gainOf_33 rfl rfl ?_
    refine Z.imul (n := 35) dX12_gainOf_34 rfl ?_
    refine Z.iadd (n := 36) dX12_gainOf_35 rfl ?_
    refine Z.iload_n (n := 37) dX12_gainOf_36 rfl rfl ?_
    refine Z.iadd (n := 38) dX12_gainOf_37 rfl ?_
    obtain ⟨j5, ej5, hf⟩ := Option.bind_eq_some_iff.mp hf
    obtain ⟨hij5, hlj5⟩ := ck_spec ej5
    refine Z.iald (j := j5) (n := 39) dX12_gainOf_38 rfl W94 hij5 hlj5 (by decide) ?_
    refine Z.iload_n (n := 40) dX12_gainOf_39 rfl rfl ?_
    refine Z.isub (n := 41) dX12_gainOf_40 rfl ?_
    refine Z.goto (tgt := 62) dX12_gainOf_41 rfl ?_
    refine Z.fg [0, 1, 2, 3] ?_
    exact zX12_gainOf_62 hJ _ _ hf
def fX12_war_39 (h : HT) : Option (Int64 × HT) :=
  some (((-9223372036854775808) : Int64), h)
set_option maxHeartbeats 4000000 in
theorem zX12_war_39 {g : GP} {a : Nat → Nat} {P : PT} {J : JT} {z : Int64 × HT} (hJ : JX g 9 0 0 (PoL g a P z) J) (h : HT) (hf : fX12_war_39 h = some z) : Z g mX12_war J 0 0 39 [none, none, none, none, none, none] [] (WD g a h P) := by
  unfold fX12_war_39 at hf
  refine Z.ldc2 (n := 42) (v := (-9223372036854775808)) dX12_war_39 rfl wX12_185 ?_
  have hz := Option.some.inj hf
  subst hz
  exact Z.lret hJ dX12_war_42 rfl (Nat.le_refl _) (Nat.le_refl _) ⟨rfl, rfl⟩
def fX12_war_86 (s0 : Int64) (h : HT) : Option (Int64 × HT) :=
  some (s0, h)
set_option maxHeartbeats 4000000 in
theorem zX12_war_86 {g : GP} {a : Nat → Nat} {P : PT} {J : JT} {z : Int64 × HT} (hJ : JX g 9 0 0 (PoL g a P z) J) (s0 : Int64) (h : HT) (hf : fX12_war_86 s0 h = some z) : Z g mX12_war J 0 0 86 [none, none, none, none, none, none] [.long s0] (WD g a h P) := by
  unfold fX12_war_86 at hf
  have hz := Option.some.inj hf
  subst hz
  exact Z.lret hJ dX12_war_86 rfl (Nat.le_refl _) (Nat.le_refl _) ⟨rfl, rfl⟩
def fX12_war (l1 : Int32) (l2 : Int32) (l3 : Int32) (l4 : Int32) (h : HT) : Option (Int64 × HT) :=
  Option.bind (fX12_isStanding l1 h) fun z1 =>
  if z1.1 = 0 then (fX12_war_39 z1.2)
  else (Option.bind (fX12_isAlive l2 z1.2) fun z3 =>
  if z3.1 = 0 then (fX12_war_39 z3.2)
  else (Option.bind (fX12_isAlive l3 z3.2) fun z5 =>
  if z5.1 = 0 then (fX12_war_39 z5.2)
  else (if l2 = l3 then (fX12_war_39 z5.2)
  else (Option.bind (fX12_in l4 0 2 z5.2) fun z8 =>
  if z8.1 = 0 then (fX12_war_39 z8.2)
  else (Option.bind (fX12_takes l1 z8.2) fun z10 =>
  Option.bind (fX12_gainOf l2 l3 z10.2) fun z11 =>
  if l4 = 0 then (fX12_war_86 ((z11.2 93 17).toInt64) z11.2)
  else (if l4 = 1 then (fX12_war_86 ((z11.2 93 18).toInt64) z11.2)
  else (fX12_war_86 z11.1.toInt64 z11.2)))))))
set_option maxHeartbeats 4000000 in
theorem ctX12_war {g : GP} {a : Nat → Nat} {P : PT} {h : HT} {z : Int64 × HT} {l1 : Int32} {l2 : Int32} {l3 : Int32} {l4 : Int32} (hf : fX12_war l1 l2 l3 l4 h = some z) : Ct g 9 0 0 mX12_war [.ref (a 93), .int l1, .int l2, .int l3, .int l4] (WD g a h P) (PoL g a P z) := by
  refine Ct.of (by decide +kernel) (Nat.le_of_ble_eq_true rfl) fun J hJ => ?_
  show Z g mX12_war J 0 0 0 [some (.ref (a 93)), some (.int l1), some (.int l2), some (.int l3), some (.int l4), none] [] (WD g a h P)
  unfold fX12_war at hf
  refine Z.aload_n (n := 1) dX12_war_0 rfl rfl ?_
  refine Z.iload_n (n := 2) dX12_war_1 rfl rfl ?_
  obtain ⟨z1, ez1, hf⟩ := Option.bind_eq_some_iff.mp hf
  refine Z.callV (n := 5) vX12_132 (ctX12_isStanding ez1) hJ.rm (Nat.le_of_ble_eq_true rfl) rfl rfl (Nat.le_refl _) (Nat.le_refl _) rfl W93 rfl rfl (Nat.le_of_ble_eq_true rfl) rfl dX12_war_2 rfl (fun v w hw => ?_)
  obtain ⟨rfl, rfl⟩ := hw
  show Z _ _ _ _ _ _ _ [.int z1.1] _
  refine Z.if_eq (tgt := 39) (n := 8) dX12_war_5 rfl rfl (fun c2 => ?_) (fun c2 => ?_)
  · rw [if_pos c2] at hf
    refine Z.fg [0, 1, 2, 3, 4] ?_
    exact zX12_war_39 hJ _ hf
  · rw [if_neg c2] at hf
    refine Z.aload_n (n := 9) dX12_war_8 rfl rfl ?_
    refine Z.iload_n (n := 10) dX12_war_9 rfl rfl ?_
    obtain ⟨z3, ez3, hf⟩ := Option.bind_eq_some_iff.mp hf
    refine Z.callV (n := 13) vX12_49 (ctX12_isAlive ez3) hJ.rm (Nat.le_of_ble_eq_true rfl) rfl rfl (Nat.le_refl _) (Nat.le_refl _) rfl W93 rfl rfl (Nat.le_of_ble_eq_true rfl) rfl dX12_war_10 rfl (fun v w hw => ?_)
    obtain ⟨rfl, rfl⟩ := hw
    show Z _ _ _ _ _ _ _ [.int z3.1] _
    refine Z.if_eq (tgt := 39) (n := 16) dX12_war_13 rfl rfl (fun c4 => ?_) (fun c4 => ?_)
    · rw [if_pos c4] at hf
      refine Z.fg [0, 1, 2, 3, 4] ?_
      exact zX12_war_39 hJ _ hf
    · rw [if_neg c4] at hf
      refine Z.aload_n (n := 17) dX12_war_16 rfl rfl ?_
      refine Z.iload_n (n := 18) dX12_war_17 rfl rfl ?_
      obtain ⟨z5, ez5, hf⟩ := Option.bind_eq_some_iff.mp hf
      refine Z.callV (n := 21) vX12_49 (ctX12_isAlive ez5) hJ.rm (Nat.le_of_ble_eq_true rfl) rfl rfl (Nat.le_refl _) (Nat.le_refl _) rfl W93 rfl rfl (Nat.le_of_ble_eq_true rfl) rfl dX12_war_18 rfl (fun v w hw => ?_)
      obtain ⟨rfl, rfl⟩ := hw
      show Z _ _ _ _ _ _ _ [.int z5.1] _
      refine Z.if_eq (tgt := 39) (n := 24) dX12_war_21 rfl rfl (fun c6 => ?_) (fun c6 => ?_)
      · rw [if_pos c6] at hf
        refine Z.fg [0, 1, 2, 3, 4] ?_
        exact zX12_war_39 hJ _ hf
      · rw [if_neg c6] at hf
        refine Z.iload_n (n := 25) dX12_war_24 rfl rfl ?_
        refine Z.iload_n (n := 26) dX12_war_25 rfl rfl ?_
        refine Z.icmp_eq (tgt := 39) (n := 29) dX12_war_26 rfl rfl (fun c7 => ?_) (fun c7 => ?_)
        · rw [if_pos c7] at hf
          refine Z.fg [0, 1, 2, 3, 4] ?_
          exact zX12_war_39 hJ _ hf
        · rw [if_neg c7] at hf
          refine Z.iload (n := 31) dX12_war_29 rfl rfl ?_
          refine Z.iconst (n := 32) (v := 0) dX12_war_31 rfl (by decide +kernel) ?_
          refine Z.iconst (n := 33) (v := 2) dX12_war_32 rfl (by decide +kernel) ?_
          obtain ⟨z8, ez8, hf⟩ := Option.bind_eq_some_iff.mp hf
          refine Z.callS (n := 36) vX12_41 (ctX12_in ez8) hJ.rm (Nat.le_of_ble_eq_true rfl) rfl rfl (Nat.le_refl _) (Nat.le_refl _) rfl (Nat.le_of_ble_eq_true rfl) rfl dX12_war_33 rfl (fun v w hw => ?_)
          obtain ⟨rfl, rfl⟩ := hw
          show Z _ _ _ _ _ _ _ [.int z8.1] _
          refine Z.if_ne (tgt := 43) (n := 39) dX12_war_36 rfl rfl (fun c9 => ?_) (fun c9 => ?_)
          · rw [if_neg c9] at hf
            refine Z.aload_n (n := 44) dX12_war_43 rfl rfl ?_
            refine Z.iload_n (n := 45) dX12_war_44 rfl rfl ?_
            obtain ⟨z10, ez10, hf⟩ := Option.bind_eq_some_iff.mp hf
            refine Z.callV (n := 48) vX12_170 (ctX12_takes ez10) hJ.rm (Nat.le_of_ble_eq_true rfl) rfl rfl (Nat.le_refl _) (Nat.le_refl _) rfl W93 rfl rfl (Nat.le_of_ble_eq_true rfl) rfl dX12_war_45 rfl (fun v w hw => ?_)
            obtain ⟨rfl, rfl⟩ := hw
            show Z _ _ _ _ _ _ _ [] _
            refine Z.aload_n (n := 49) dX12_war_48 rfl rfl ?_
            refine Z.iload_n (n := 50) dX12_war_49 rfl rfl ?_
            refine Z.iload_n (n := 51) dX12_war_50 rfl rfl ?_
            obtain ⟨z11, ez11, hf⟩ := Option.bind_eq_some_iff.mp hf
            refine Z.callV (n := 54) vX12_187 (ctX12_gainOf ez11) hJ.rm (Nat.le_of_ble_eq_true rfl) rfl rfl (Nat.le_refl _) (Nat.le_refl _) rfl W93 rfl rfl (Nat.le_of_ble_eq_true rfl) rfl dX12_war_51 rfl (fun v w hw => ?_)
            obtain ⟨rfl, rfl⟩ := hw
            show Z _ _ _ _ _ _ _ [.int z11.1] _
            refine Z.istore (n := 56) dX12_war_54 rfl (by decide) rfl ?_
            refine Z.iload (n := 58) dX12_war_56 rfl rfl ?_
            refine Z.if_ne (tgt := 69) (n := 61) dX12_war_58 rfl rfl (fun c12 => ?_) (fun c12 => ?_)
            · rw [if_neg c12] at hf
              refine Z.iload (n := 71) dX12_war_69 rfl rfl ?_
              refine Z.iconst (n := 72) (v := 1) dX12_war_71 rfl (by decide +kernel) ?_
              refine Z.icmp_ne (tgt := 83) (n := 75) dX12_war_72 rfl rfl (fun c13 => ?_) (fun c13 => ?_)
              · rw [if_neg c13] at hf
                refine Z.iload (n := 85) dX12_war_83 rfl rfl ?_
                refine Z.i2l (n := 86) dX12_war_85 rfl rfl ?_
                refine Z.fg [0, 1, 2, 3, 4, 5] ?_
                exact zX12_war_86 hJ _ _ hf
              · rw [if_pos c13] at hf
                refine Z.aload_n (n := 76) dX12_war_75 rfl rfl ?_
                refine Z.getf (n := 79) fX12_179 dX12_war_76 rfl W93 rfl ?_
                refine Z.i2l (n := 80) dX12_war_79 rfl rfl ?_
                refine Z.goto (tgt := 86) dX12_war_80 rfl ?_
                refine Z.fg [0, 1, 2, 3, 4, 5] ?_
                exact zX12_war_86 hJ _ _ hf
            · rw [if_pos c12] at hf
              refine Z.aload_n (n := 62) dX12_war_61 rfl rfl ?_
              refine Z.getf (n := 65) fX12_176 dX12_war_62 rfl W93 rfl ?_
              refine Z.i2l (n := 66) dX12_war_65 rfl rfl ?_
              refine Z.goto (tgt := 86) dX12_war_66 rfl ?_
              refine Z.fg [0, 1, 2, 3, 4, 5] ?_
              exact zX12_war_86 hJ _ _ hf
          · rw [if_pos c9] at hf
            refine Z.fg [0, 1, 2, 3, 4] ?_
            exact zX12_war_39 hJ _ hf
def fX12_doesDare_35 (s0 : Int32) (h : HT) : Option (Int32 × HT) :=
  Option.bind (cb s0) fun u2 =>
  some (s0, h)
set_option maxHeartbeats 4000000 in
theorem zX12_doesDare_35 {g : GP} {a : Nat → Nat} {P : PT} {J : JT} {z : Int32 × HT} (hJ : JX g 9 0 0 (PoI g a P z) J) (s0 : Int32) (h : HT) (hf : fX12_doesDare_35 s0 h = some z) : Z g mX12_doesDare J 0 0 35 [none, none, none] [.int s0] (WD g a h P) := by
  unfold fX12_doesDare_35 at hf
  obtain ⟨u2, eu2, hf⟩ := Option.bind_eq_some_iff.mp hf
  have hz := Option.some.inj hf
  subst hz
  exact Z.zret hJ dX12_doesDare_35 rfl (cb_nar eu2) (Nat.le_refl _) (Nat.le_refl _) ⟨rfl, rfl⟩
def fX12_doesDare_34 (h : HT) : Option (Int32 × HT) :=
  fX12_doesDare_35 0 h
set_option maxHeartbeats 4000000 in
theorem zX12_doesDare_34 {g : GP} {a : Nat → Nat} {P : PT} {J : JT} {z : Int32 × HT} (hJ : JX g 9 0 0 (PoI g a P z) J) (h : HT) (hf : fX12_doesDare_34 h = some z) : Z g mX12_doesDare J 0 0 34 [none, none, none] [] (WD g a h P) := by
  unfold fX12_doesDare_34 at hf
  refine Z.iconst (n := 35) (v := 0) dX12_doesDare_34 rfl (by decide +kernel) ?_
  exact zX12_doesDare_35 hJ _ _ hf
def fX12_doesDare (l1 : Int32) (l2 : Int32) (h : HT) : Option (Int32 × HT) :=
  if l1 = l2 then (fX12_doesDare_34 h)
  else (Option.bind (fX12_isAlive l1 h) fun z3 =>
  if z3.1 = 0 then (fX12_doesDare_34 z3.2)
  else (Option.bind (fX12_isAlive l2 z3.2) fun z5 =>
  if z5.1 = 0 then (fX12_doesDare_34 z5.2)
  else (Option.bind (fX12_gainOf l1 l2 z5.2) fun z7 =>
  if z7.1 ≤ 0 then (fX12_doesDare_34 z7.2)
  else (fX12_doesDare_35 1 z7.2))))
set_option maxHeartbeats 4000000 in
theorem ctX12_doesDare {g : GP} {a : Nat → Nat} {P : PT} {h : HT} {z : Int32 × HT} {l1 : Int32} {l2 : Int32} (hf : fX12_doesDare l1 l2 h = some z) : Ct g 9 0 0 mX12_doesDare [.ref (a 93), .int l1, .int l2] (WD g a h P) (PoI g a P z) := by
  refine Ct.of (by decide +kernel) (Nat.le_of_ble_eq_true rfl) fun J hJ => ?_
  show Z g mX12_doesDare J 0 0 0 [some (.ref (a 93)), some (.int l1), some (.int l2)] [] (WD g a h P)
  unfold fX12_doesDare at hf
  refine Z.iload_n (n := 1) dX12_doesDare_0 rfl rfl ?_
  refine Z.iload_n (n := 2) dX12_doesDare_1 rfl rfl ?_
  refine Z.icmp_eq (tgt := 34) (n := 5) dX12_doesDare_2 rfl rfl (fun c1 => ?_) (fun c1 => ?_)
  · rw [if_pos c1] at hf
    refine Z.fg [0, 1, 2] ?_
    exact zX12_doesDare_34 hJ _ hf
  · rw [if_neg c1] at hf
    refine Z.aload_n (n := 6) dX12_doesDare_5 rfl rfl ?_
    refine Z.iload_n (n := 7) dX12_doesDare_6 rfl rfl ?_
    obtain ⟨z3, ez3, hf⟩ := Option.bind_eq_some_iff.mp hf
    refine Z.callV (n := 10) vX12_49 (ctX12_isAlive ez3) hJ.rm (Nat.le_of_ble_eq_true rfl) rfl rfl (Nat.le_refl _) (Nat.le_refl _) rfl W93 rfl rfl (Nat.le_of_ble_eq_true rfl) rfl dX12_doesDare_7 rfl (fun v w hw => ?_)
    obtain ⟨rfl, rfl⟩ := hw
    show Z _ _ _ _ _ _ _ [.int z3.1] _
    refine Z.if_eq (tgt := 34) (n := 13) dX12_doesDare_10 rfl rfl (fun c4 => ?_) (fun c4 => ?_)
    · rw [if_pos c4] at hf
      refine Z.fg [0, 1, 2] ?_
      exact zX12_doesDare_34 hJ _ hf
    · rw [if_neg c4] at hf
      refine Z.aload_n (n := 14) dX12_doesDare_13 rfl rfl ?_
      refine Z.iload_n (n := 15) dX12_doesDare_14 rfl rfl ?_
      obtain ⟨z5, ez5, hf⟩ := Option.bind_eq_some_iff.mp hf
      refine Z.callV (n := 18) vX12_49 (ctX12_isAlive ez5) hJ.rm (Nat.le_of_ble_eq_true rfl) rfl rfl (Nat.le_refl _) (Nat.le_refl _) rfl W93 rfl rfl (Nat.le_of_ble_eq_true rfl) rfl dX12_doesDare_15 rfl (fun v w hw => ?_)
      obtain ⟨rfl, rfl⟩ := hw
      show Z _ _ _ _ _ _ _ [.int z5.1] _
      refine Z.if_eq (tgt := 34) (n := 21) dX12_doesDare_18 rfl rfl (fun c6 => ?_) (fun c6 => ?_)
      · rw [if_pos c6] at hf
        refine Z.fg [0, 1, 2] ?_
        exact zX12_doesDare_34 hJ _ hf
      · rw [if_neg c6] at hf
        refine Z.aload_n (n := 22) dX12_doesDare_21 rfl rfl ?_
        refine Z.iload_n (n := 23) dX12_doesDare_22 rfl rfl ?_
        refine Z.iload_n (n := 24) dX12_doesDare_23 rfl rfl ?_
        obtain ⟨z7, ez7, hf⟩ := Option.bind_eq_some_iff.mp hf
        refine Z.callV (n := 27) vX12_187 (ctX12_gainOf ez7) hJ.rm (Nat.le_of_ble_eq_true rfl) rfl rfl (Nat.le_refl _) (Nat.le_refl _) rfl W93 rfl rfl (Nat.le_of_ble_eq_true rfl) rfl dX12_doesDare_24 rfl (fun v w hw => ?_)
        obtain ⟨rfl, rfl⟩ := hw
        show Z _ _ _ _ _ _ _ [.int z7.1] _
        refine Z.if_le (tgt := 34) (n := 30) dX12_doesDare_27 rfl rfl (fun c8 => ?_) (fun c8 => ?_)
        · rw [if_pos c8] at hf
          refine Z.fg [0, 1, 2] ?_
          exact zX12_doesDare_34 hJ _ hf
        · rw [if_neg c8] at hf
          refine Z.iconst (n := 31) (v := 1) dX12_doesDare_30 rfl (by decide +kernel) ?_
          refine Z.goto (tgt := 35) dX12_doesDare_31 rfl ?_
          refine Z.fg [0, 1, 2] ?_
          exact zX12_doesDare_35 hJ _ _ hf
def fX12_darers_31 (k4_ : Int32 → Int32 → Int32 → HT → Option (Int32 × HT)) (l1 : Int32) (l3 : Int32) (s0 : Int32) (s1 : Int32) (h : HT) : Option (Int32 × HT) :=
  k4_ l1 (s1 ||| s0) (l3 + 1) h
set_option maxHeartbeats 4000000 in
theorem zX12_darers_31 {g : GP} {a : Nat → Nat} {P : PT} {J : JT} {z : Int32 × HT} {k4_ : Int32 → Int32 → Int32 → HT → Option (Int32 × HT)} (hJ : JX g 10 0 0 (PoI g a P z) J) (hk4 : ∀ (l1 : Int32) (l2 : Int32) (l3 : Int32) (h : HT), k4_ l1 l2 l3 h = some z → Z g mX12_darers J 0 0 4 [some (.ref (a 93)), some (.int l1), some (.int l2), some (.int l3)] [] (WD g a h P)) (l1 : Int32) (l3 : Int32) (s0 : Int32) (s1 : Int32) (h : HT) (hf : fX12_darers_31 k4_ l1 l3 s0 s1 h = some z) : Z g mX12_darers J 0 0 31 [some (.ref (a 93)), some (.int l1), none, some (.int l3)] [.int s0, .int s1] (WD g a h P) := by
  unfold fX12_darers_31 at hf
  refine Z.ior (n := 32) dX12_darers_31 rfl ?_
  refine Z.istore_n (n := 33) dX12_darers_32 rfl (by decide) rfl ?_
  refine Z.iinc (n := 36) (v := l3 + 1) dX12_darers_33 rfl rfl rfl (by decide) rfl ?_
  refine Z.goto (tgt := 4) dX12_darers_36 rfl ?_
  exact hk4 _ _ _ _ hf
def fX12_darers_4 : Nat → Int32 → Int32 → Int32 → HT → Option (Int32 × HT)
  | 0, _, _, _, _ => none
  | n + 1, l1, l2, l3, h =>
  if (h 94 0) ≤ l3 then (some (l2, h))
  else (Option.bind (fX12_doesDare l3 l1 h) fun z2 =>
  if z2.1 = 0 then (fX12_darers_31 (fX12_darers_4  n) l1 l3 0 l2 z2.2)
  else (fX12_darers_31 (fX12_darers_4  n) l1 l3 ((1 : Int32) <<< (l3 &&& 31)) l2 z2.2))
set_option maxHeartbeats 4000000 in
theorem zX12_darers_4 {g : GP} {a : Nat → Nat} {P : PT} {J : JT} {z : Int32 × HT} (hJ : JX g 10 0 0 (PoI g a P z) J) : ∀ (n : Nat) (l1 : Int32) (l2 : Int32) (l3 : Int32) (h : HT), fX12_darers_4 n l1 l2 l3 h = some z → Z g mX12_darers J 0 0 4 [some (.ref (a 93)), some (.int l1), some (.int l2), some (.int l3)] [] (WD g a h P) := by
  intro n
  induction n with
  | zero =>
    intro _ _ _ _ hf
    cases hf
  | succ n ih =>
    intro l1 l2 l3 h hf
    unfold fX12_darers_4 at hf
    refine Z.iload_n (n := 5) dX12_darers_4 rfl rfl ?_
    refine Z.aload_n (n := 6) dX12_darers_5 rfl rfl ?_
    refine Z.getf (n := 9) fX12_9 dX12_darers_6 rfl W93 rfl ?_
    refine Z.iconst (n := 10) (v := 0) dX12_darers_9 rfl (by decide +kernel) ?_
    refine Z.iald (j := 0) (n := 11) dX12_darers_10 rfl W94 (by decide +kernel) (by decide) (by decide) ?_
    refine Z.icmp_ge (tgt := 39) (n := 14) dX12_darers_11 rfl rfl (fun c1 => ?_) (fun c1 => ?_)
    · rw [if_pos c1] at hf
      refine Z.iload_n (n := 40) dX12_darers_39 rfl rfl ?_
      have hz := Option.some.inj hf
      subst hz
      exact Z.iret hJ dX12_darers_40 rfl (Nat.le_refl _) (Nat.le_refl _) ⟨rfl, rfl⟩
    · rw [if_neg c1] at hf
      refine Z.iload_n (n := 15) dX12_darers_14 rfl rfl ?_
      refine Z.aload_n (n := 16) dX12_darers_15 rfl rfl ?_
      refine Z.iload_n (n := 17) dX12_darers_16 rfl rfl ?_
      refine Z.iload_n (n := 18) dX12_darers_17 rfl rfl ?_
      obtain ⟨z2, ez2, hf⟩ := Option.bind_eq_some_iff.mp hf
      refine Z.callV (n := 21) vX12_190 (ctX12_doesDare ez2) hJ.rm (Nat.le_of_ble_eq_true rfl) rfl rfl (Nat.le_refl _) (Nat.le_refl _) rfl W93 rfl rfl (Nat.le_of_ble_eq_true rfl) rfl dX12_darers_18 rfl (fun v w hw => ?_)
      obtain ⟨rfl, rfl⟩ := hw
      show Z _ _ _ _ _ _ _ [.int z2.1, .int l2] _
      refine Z.if_eq (tgt := 30) (n := 24) dX12_darers_21 rfl rfl (fun c3 => ?_) (fun c3 => ?_)
      · rw [if_pos c3] at hf
        refine Z.iconst (n := 31) (v := 0) dX12_darers_30 rfl (by decide +kernel) ?_
        refine Z.fg [2] ?_
        exact zX12_darers_31 hJ ih _ _ _ _ _ hf
      · rw [if_neg c3] at hf
        refine Z.iconst (n := 25) (v := 1) dX12_darers_24 rfl (by decide +kernel) ?_
        refine Z.iload_n (n := 26) dX12_darers_25 rfl rfl ?_
        refine Z.ishl (n := 27) dX12_darers_26 rfl ?_
        refine Z.goto (tgt := 31) dX12_darers_27 rfl ?_
        refine Z.fg [2] ?_
        exact zX12_darers_31 hJ ih _ _ _ _ _ hf
def fX12_darers (l1 : Int32) (h : HT) : Option (Int32 × HT) :=
  fX12_darers_4 1000 l1 0 0 h
set_option maxHeartbeats 4000000 in
theorem ctX12_darers {g : GP} {a : Nat → Nat} {P : PT} {h : HT} {z : Int32 × HT} {l1 : Int32} (hf : fX12_darers l1 h = some z) : Ct g 10 0 0 mX12_darers [.ref (a 93), .int l1] (WD g a h P) (PoI g a P z) := by
  refine Ct.of (by decide +kernel) (Nat.le_of_ble_eq_true rfl) fun J hJ => ?_
  show Z g mX12_darers J 0 0 0 [some (.ref (a 93)), some (.int l1), none, none] [] (WD g a h P)
  unfold fX12_darers at hf
  refine Z.iconst (n := 1) (v := 0) dX12_darers_0 rfl (by decide +kernel) ?_
  refine Z.istore_n (n := 2) dX12_darers_1 rfl (by decide) rfl ?_
  refine Z.iconst (n := 3) (v := 0) dX12_darers_2 rfl (by decide +kernel) ?_
  refine Z.istore_n (n := 4) dX12_darers_3 rfl (by decide) rfl ?_
  exact zX12_darers_4 hJ _ _ _ _ _ hf
def fX12_dares_25 (h : HT) : Option (Int32 × HT) :=
  some ((-1), h)
set_option maxHeartbeats 4000000 in
theorem zX12_dares_25 {g : GP} {a : Nat → Nat} {P : PT} {J : JT} {z : Int32 × HT} (hJ : JX g 11 0 0 (PoI g a P z) J) (h : HT) (hf : fX12_dares_25 h = some z) : Z g mX12_dares J 0 0 25 [none, none, none, none, none, none] [] (WD g a h P) := by
  unfold fX12_dares_25 at hf
  refine Z.iconst (n := 26) (v := -1) dX12_dares_25 rfl (by decide +kernel) ?_
  have hz := Option.some.inj hf
  subst hz
  exact Z.iret hJ dX12_dares_26 rfl (Nat.le_refl _) (Nat.le_refl _) ⟨rfl, rfl⟩
def fX12_dares_80 (k49_ : Int32 → Int32 → Int32 → HT → Option (Int32 × HT)) (l2 : Int32) (l5 : Int32) (s0 : Int32) (s1 : Int32) (h : HT) : Option (Int32 × HT) :=
  k49_ l2 (s1 ||| s0) (l5 + 1) h
set_option maxHeartbeats 4000000 in
theorem zX12_dares_80 {g : GP} {a : Nat → Nat} {P : PT} {J : JT} {z : Int32 × HT} {k49_ : Int32 → Int32 → Int32 → HT → Option (Int32 × HT)} (hJ : JX g 11 0 0 (PoI g a P z) J) (hk49 : ∀ (l2 : Int32) (l4 : Int32) (l5 : Int32) (h : HT), k49_ l2 l4 l5 h = some z → Z g mX12_dares J 0 0 49 [some (.ref (a 93)), none, some (.int l2), none, some (.int l4), some (.int l5)] [] (WD g a h P)) (l2 : Int32) (l5 : Int32) (s0 : Int32) (s1 : Int32) (h : HT) (hf : fX12_dares_80 k49_ l2 l5 s0 s1 h = some z) : Z g mX12_dares J 0 0 80 [some (.ref (a 93)), none, some (.int l2), none, none, some (.int l5)] [.int s0, .int s1] (WD g a h P) := by
  unfold fX12_dares_80 at hf
  refine Z.ior (n := 81) dX12_dares_80 rfl ?_
  refine Z.istore (n := 83) dX12_dares_81 rfl (by decide) rfl ?_
  refine Z.iinc (n := 86) (v := l5 + 1) dX12_dares_83 rfl rfl rfl (by decide) rfl ?_
  refine Z.goto (tgt := 49) dX12_dares_86 rfl ?_
  exact hk49 _ _ _ _ hf
def fX12_dares_49 : Nat → Int32 → Int32 → Int32 → HT → Option (Int32 × HT)
  | 0, _, _, _, _ => none
  | n + 1, l2, l4, l5, h =>
  if (h 94 0) ≤ l5 then (some (l4, h))
  else (Option.bind (fX12_doesDare l2 l5 h) fun z10 =>
  if z10.1 = 0 then (fX12_dares_80 (fX12_dares_49  n) l2 l5 0 l4 z10.2)
  else (fX12_dares_80 (fX12_dares_49  n) l2 l5 ((1 : Int32) <<< (l5 &&& 31)) l4 z10.2))
set_option maxHeartbeats 4000000 in
theorem zX12_dares_49 {g : GP} {a : Nat → Nat} {P : PT} {J : JT} {z : Int32 × HT} (hJ : JX g 11 0 0 (PoI g a P z) J) : ∀ (n : Nat) (l2 : Int32) (l4 : Int32) (l5 : Int32) (h : HT), fX12_dares_49 n l2 l4 l5 h = some z → Z g mX12_dares J 0 0 49 [some (.ref (a 93)), none, some (.int l2), none, some (.int l4), some (.int l5)] [] (WD g a h P) := by
  intro n
  induction n with
  | zero =>
    intro _ _ _ _ hf
    cases hf
  | succ n ih =>
    intro l2 l4 l5 h hf
    unfold fX12_dares_49 at hf
    refine Z.iload (n := 51) dX12_dares_49 rfl rfl ?_
    refine Z.aload_n (n := 52) dX12_dares_51 rfl rfl ?_
    refine Z.getf (n := 55) fX12_9 dX12_dares_52 rfl W93 rfl ?_
    refine Z.iconst (n := 56) (v := 0) dX12_dares_55 rfl (by decide +kernel) ?_
    refine Z.iald (j := 0) (n := 57) dX12_dares_56 rfl W94 (by decide +kernel) (by decide) (by decide) ?_
    refine Z.icmp_ge (tgt := 89) (n := 60) dX12_dares_57 rfl rfl (fun c9 => ?_) (fun c9 => ?_)
    · rw [if_pos c9] at hf
      refine Z.iload (n := 91) dX12_dares_89 rfl rfl ?_
      have hz := Option.some.inj hf
      subst hz
      exact Z.iret hJ dX12_dares_91 rfl (Nat.le_refl _) (Nat.le_refl _) ⟨rfl, rfl⟩
    · rw [if_neg c9] at hf
      refine Z.iload (n := 62) dX12_dares_60 rfl rfl ?_
      refine Z.aload_n (n := 63) dX12_dares_62 rfl rfl ?_
      refine Z.iload_n (n := 64) dX12_dares_63 rfl rfl ?_
      refine Z.iload (n := 66) dX12_dares_64 rfl rfl ?_
      obtain ⟨z10, ez10, hf⟩ := Option.bind_eq_some_iff.mp hf
      refine Z.callV (n := 69) vX12_190 (ctX12_doesDare ez10) hJ.rm (Nat.le_of_ble_eq_true rfl) rfl rfl (Nat.le_refl _) (Nat.le_refl _) rfl W93 rfl rfl (Nat.le_of_ble_eq_true rfl) rfl dX12_dares_66 rfl (fun v w hw => ?_)
      obtain ⟨rfl, rfl⟩ := hw
      show Z _ _ _ _ _ _ _ [.int z10.1, .int l4] _
      refine Z.if_eq (tgt := 79) (n := 72) dX12_dares_69 rfl rfl (fun c11 => ?_) (fun c11 => ?_)
      · rw [if_pos c11] at hf
        refine Z.iconst (n := 80) (v := 0) dX12_dares_79 rfl (by decide +kernel) ?_
        refine Z.fg [4] ?_
        exact zX12_dares_80 hJ ih _ _ _ _ _ hf
      · rw [if_neg c11] at hf
        refine Z.iconst (n := 73) (v := 1) dX12_dares_72 rfl (by decide +kernel) ?_
        refine Z.iload (n := 75) dX12_dares_73 rfl rfl ?_
        refine Z.ishl (n := 76) dX12_dares_75 rfl ?_
        refine Z.goto (tgt := 80) dX12_dares_76 rfl ?_
        refine Z.fg [4] ?_
        exact zX12_dares_80 hJ ih _ _ _ _ _ hf
def fX12_dares (l1 : Int32) (l2 : Int32) (l3 : Int32) (h : HT) : Option (Int32 × HT) :=
  Option.bind (fX12_isStanding l1 h) fun z1 =>
  if z1.1 = 0 then (fX12_dares_25 z1.2)
  else (Option.bind (fX12_isKing l2 z1.2) fun z3 =>
  if z3.1 = 0 then (fX12_dares_25 z3.2)
  else (Option.bind (fX12_in l3 0 1 z3.2) fun z5 =>
  if z5.1 = 0 then (fX12_dares_25 z5.2)
  else (Option.bind (fX12_takes l1 z5.2) fun z7 =>
  if l3 = 1 then (Option.bind (fX12_darers l2 z7.2) fun z12 =>
  some (z12.1, z12.2))
  else (fX12_dares_49 1000 l2 0 0 z7.2))))
set_option maxHeartbeats 4000000 in
theorem ctX12_dares {g : GP} {a : Nat → Nat} {P : PT} {h : HT} {z : Int32 × HT} {l1 : Int32} {l2 : Int32} {l3 : Int32} (hf : fX12_dares l1 l2 l3 h = some z) : Ct g 11 0 0 mX12_dares [.ref (a 93), .int l1, .int l2, .int l3] (WD g a h P) (PoI g a P z) := by
  refine Ct.of (by decide +kernel) (Nat.le_of_ble_eq_true rfl) fun J hJ => ?_
  show Z g mX12_dares J 0 0 0 [some (.ref (a 93)), some (.int l1), some (.int l2), some (.int l3), none, none] [] (WD g a h P)
  unfold fX12_dares at hf
  refine Z.aload_n (n := 1) dX12_dares_0 rfl rfl ?_
  refine Z.iload_n (n := 2) dX12_dares_1 rfl rfl ?_
  obtain ⟨z1, ez1, hf⟩ := Option.bind_eq_some_iff.mp hf
  refine Z.callV (n := 5) vX12_132 (ctX12_isStanding ez1) hJ.rm (Nat.le_of_ble_eq_true rfl) rfl rfl (Nat.le_refl _) (Nat.le_refl _) rfl W93 rfl rfl (Nat.le_of_ble_eq_true rfl) rfl dX12_dares_2 rfl (fun v w hw => ?_)
  obtain ⟨rfl, rfl⟩ := hw
  show Z _ _ _ _ _ _ _ [.int z1.1] _
  refine Z.if_eq (tgt := 25) (n := 8) dX12_dares_5 rfl rfl (fun c2 => ?_) (fun c2 => ?_)
  · rw [if_pos c2] at hf
    refine Z.fg [0, 1, 2, 3] ?_
    exact zX12_dares_25 hJ _ hf
  · rw [if_neg c2] at hf
    refine Z.aload_n (n := 9) dX12_dares_8 rfl rfl ?_
    refine Z.iload_n (n := 10) dX12_dares_9 rfl rfl ?_
    obtain ⟨z3, ez3, hf⟩ := Option.bind_eq_some_iff.mp hf
    refine Z.callV (n := 13) vX12_45 (ctX12_isKing ez3) hJ.rm (Nat.le_of_ble_eq_true rfl) rfl rfl (Nat.le_refl _) (Nat.le_refl _) rfl W93 rfl rfl (Nat.le_of_ble_eq_true rfl) rfl dX12_dares_10 rfl (fun v w hw => ?_)
    obtain ⟨rfl, rfl⟩ := hw
    show Z _ _ _ _ _ _ _ [.int z3.1] _
    refine Z.if_eq (tgt := 25) (n := 16) dX12_dares_13 rfl rfl (fun c4 => ?_) (fun c4 => ?_)
    · rw [if_pos c4] at hf
      refine Z.fg [0, 1, 2, 3] ?_
      exact zX12_dares_25 hJ _ hf
    · rw [if_neg c4] at hf
      refine Z.iload_n (n := 17) dX12_dares_16 rfl rfl ?_
      refine Z.iconst (n := 18) (v := 0) dX12_dares_17 rfl (by decide +kernel) ?_
      refine Z.iconst (n := 19) (v := 1) dX12_dares_18 rfl (by decide +kernel) ?_
      obtain ⟨z5, ez5, hf⟩ := Option.bind_eq_some_iff.mp hf
      refine Z.callS (n := 22) vX12_41 (ctX12_in ez5) hJ.rm (Nat.le_of_ble_eq_true rfl) rfl rfl (Nat.le_refl _) (Nat.le_refl _) rfl (Nat.le_of_ble_eq_true rfl) rfl dX12_dares_19 rfl (fun v w hw => ?_)
      obtain ⟨rfl, rfl⟩ := hw
      show Z _ _ _ _ _ _ _ [.int z5.1] _
      refine Z.if_ne (tgt := 27) (n := 25) dX12_dares_22 rfl rfl (fun c6 => ?_) (fun c6 => ?_)
      · rw [if_neg c6] at hf
        refine Z.aload_n (n := 28) dX12_dares_27 rfl rfl ?_
        refine Z.iload_n (n := 29) dX12_dares_28 rfl rfl ?_
        obtain ⟨z7, ez7, hf⟩ := Option.bind_eq_some_iff.mp hf
        refine Z.callV (n := 32) vX12_170 (ctX12_takes ez7) hJ.rm (Nat.le_of_ble_eq_true rfl) rfl rfl (Nat.le_refl _) (Nat.le_refl _) rfl W93 rfl rfl (Nat.le_of_ble_eq_true rfl) rfl dX12_dares_29 rfl (fun v w hw => ?_)
        obtain ⟨rfl, rfl⟩ := hw
        show Z _ _ _ _ _ _ _ [] _
        refine Z.iload_n (n := 33) dX12_dares_32 rfl rfl ?_
        refine Z.iconst (n := 34) (v := 1) dX12_dares_33 rfl (by decide +kernel) ?_
        refine Z.icmp_ne (tgt := 43) (n := 37) dX12_dares_34 rfl rfl (fun c8 => ?_) (fun c8 => ?_)
        · rw [if_neg c8] at hf
          refine Z.iconst (n := 44) (v := 0) dX12_dares_43 rfl (by decide +kernel) ?_
          refine Z.istore (n := 46) dX12_dares_44 rfl (by decide) rfl ?_
          refine Z.iconst (n := 47) (v := 0) dX12_dares_46 rfl (by decide +kernel) ?_
          refine Z.istore (n := 49) dX12_dares_47 rfl (by decide) rfl ?_
          refine Z.fg [1, 3] ?_
          exact zX12_dares_49 hJ _ _ _ _ _ hf
        · rw [if_pos c8] at hf
          refine Z.aload_n (n := 38) dX12_dares_37 rfl rfl ?_
          refine Z.iload_n (n := 39) dX12_dares_38 rfl rfl ?_
          obtain ⟨z12, ez12, hf⟩ := Option.bind_eq_some_iff.mp hf
          refine Z.callV (n := 42) vX12_193 (ctX12_darers ez12) hJ.rm (Nat.le_of_ble_eq_true rfl) rfl rfl (Nat.le_refl _) (Nat.le_refl _) rfl W93 rfl rfl (Nat.le_of_ble_eq_true rfl) rfl dX12_dares_39 rfl (fun v w hw => ?_)
          obtain ⟨rfl, rfl⟩ := hw
          show Z _ _ _ _ _ _ _ [.int z12.1] _
          have hz := Option.some.inj hf
          subst hz
          exact Z.iret hJ dX12_dares_42 rfl (Nat.le_refl _) (Nat.le_refl _) ⟨rfl, rfl⟩
      · rw [if_pos c6] at hf
        refine Z.fg [0, 1, 2, 3] ?_
        exact zX12_dares_25 hJ _ hf
def fX12_firstWar_14 (k2_ : Int32 → HT → Option (Int32 × HT)) : Nat → Int32 → Int32 → HT → Option (Int32 × HT)
  | 0, _, _, _ => none
  | n + 1, l1, l2, h =>
  if (h 94 0) ≤ l2 then (k2_ (l1 + 1) h)
  else (Option.bind (fX12_doesDare l1 l2 h) fun z3 =>
  if z3.1 = 0 then (fX12_firstWar_14 k2_ n l1 (l2 + 1) z3.2)
  else (some (((10 : Int32) * l1) + l2, z3.2)))
set_option maxHeartbeats 4000000 in
theorem zX12_firstWar_14 {g : GP} {a : Nat → Nat} {P : PT} {J : JT} {z : Int32 × HT} {k2_ : Int32 → HT → Option (Int32 × HT)} (hJ : JX g 10 0 0 (PoI g a P z) J) (hk2 : ∀ (l1 : Int32) (h : HT), k2_ l1 h = some z → Z g mX12_firstWar J 0 0 2 [some (.ref (a 93)), some (.int l1), none] [] (WD g a h P)) : ∀ (n : Nat) (l1 : Int32) (l2 : Int32) (h : HT), fX12_firstWar_14 k2_ n l1 l2 h = some z → Z g mX12_firstWar J 0 0 14 [some (.ref (a 93)), some (.int l1), some (.int l2)] [] (WD g a h P) := by
  intro n
  induction n with
  | zero =>
    intro _ _ _ hf
    cases hf
  | succ n ih =>
    intro l1 l2 h hf
    unfold fX12_firstWar_14 at hf
    refine Z.iload_n (n := 15) dX12_firstWar_14 rfl rfl ?_
    refine Z.aload_n (n := 16) dX12_firstWar_15 rfl rfl ?_
    refine Z.getf (n := 19) fX12_9 dX12_firstWar_16 rfl W93 rfl ?_
    refine Z.iconst (n := 20) (v := 0) dX12_firstWar_19 rfl (by decide +kernel) ?_
    refine Z.iald (j := 0) (n := 21) dX12_firstWar_20 rfl W94 (by decide +kernel) (by decide) (by decide) ?_
    refine Z.icmp_ge (tgt := 46) (n := 24) dX12_firstWar_21 rfl rfl (fun c2 => ?_) (fun c2 => ?_)
    · rw [if_pos c2] at hf
      refine Z.iinc (n := 49) (v := l1 + 1) dX12_firstWar_46 rfl rfl rfl (by decide) rfl ?_
      refine Z.goto (tgt := 2) dX12_firstWar_49 rfl ?_
      refine Z.fg [2] ?_
      exact hk2 _ _ hf
    · rw [if_neg c2] at hf
      refine Z.aload_n (n := 25) dX12_firstWar_24 rfl rfl ?_
      refine Z.iload_n (n := 26) dX12_firstWar_25 rfl rfl ?_
      refine Z.iload_n (n := 27) dX12_firstWar_26 rfl rfl ?_
      obtain ⟨z3, ez3, hf⟩ := Option.bind_eq_some_iff.mp hf
      refine Z.callV (n := 30) vX12_190 (ctX12_doesDare ez3) hJ.rm (Nat.le_of_ble_eq_true rfl) rfl rfl (Nat.le_refl _) (Nat.le_refl _) rfl W93 rfl rfl (Nat.le_of_ble_eq_true rfl) rfl dX12_firstWar_27 rfl (fun v w hw => ?_)
      obtain ⟨rfl, rfl⟩ := hw
      show Z _ _ _ _ _ _ _ [.int z3.1] _
      refine Z.if_eq (tgt := 40) (n := 33) dX12_firstWar_30 rfl rfl (fun c4 => ?_) (fun c4 => ?_)
      · rw [if_pos c4] at hf
        refine Z.iinc (n := 43) (v := l2 + 1) dX12_firstWar_40 rfl rfl rfl (by decide) rfl ?_
        refine Z.goto (tgt := 14) dX12_firstWar_43 rfl ?_
        exact ih _ _ _ hf
      · rw [if_neg c4] at hf
        refine Z.bipush (n := 35) (v := 10) dX12_firstWar_33 rfl (by decide +kernel) ?_
        refine Z.iload_n (n := 36) dX12_firstWar_35 rfl rfl ?_
        refine Z.imul (n := 37) dX12_firstWar_36 rfl ?_
        refine Z.iload_n (n := 38) dX12_firstWar_37 rfl rfl ?_
        refine Z.iadd (n := 39) dX12_firstWar_38 rfl ?_
        have hz := Option.some.inj hf
        subst hz
        exact Z.iret hJ dX12_firstWar_39 rfl (Nat.le_refl _) (Nat.le_refl _) ⟨rfl, rfl⟩
def fX12_firstWar_2 : Nat → Int32 → HT → Option (Int32 × HT)
  | 0, _, _ => none
  | n + 1, l1, h =>
  if (h 94 0) ≤ l1 then (some ((-5), h))
  else (fX12_firstWar_14 (fX12_firstWar_2  n) 1000 l1 0 h)
set_option maxHeartbeats 4000000 in
theorem zX12_firstWar_2 {g : GP} {a : Nat → Nat} {P : PT} {J : JT} {z : Int32 × HT} (hJ : JX g 10 0 0 (PoI g a P z) J) : ∀ (n : Nat) (l1 : Int32) (h : HT), fX12_firstWar_2 n l1 h = some z → Z g mX12_firstWar J 0 0 2 [some (.ref (a 93)), some (.int l1), none] [] (WD g a h P) := by
  intro n
  induction n with
  | zero =>
    intro _ _ hf
    cases hf
  | succ n ih =>
    intro l1 h hf
    unfold fX12_firstWar_2 at hf
    refine Z.iload_n (n := 3) dX12_firstWar_2 rfl rfl ?_
    refine Z.aload_n (n := 4) dX12_firstWar_3 rfl rfl ?_
    refine Z.getf (n := 7) fX12_9 dX12_firstWar_4 rfl W93 rfl ?_
    refine Z.iconst (n := 8) (v := 0) dX12_firstWar_7 rfl (by decide +kernel) ?_
    refine Z.iald (j := 0) (n := 9) dX12_firstWar_8 rfl W94 (by decide +kernel) (by decide) (by decide) ?_
    refine Z.icmp_ge (tgt := 52) (n := 12) dX12_firstWar_9 rfl rfl (fun c1 => ?_) (fun c1 => ?_)
    · rw [if_pos c1] at hf
      refine Z.bipush (n := 54) (v := -5) dX12_firstWar_52 rfl (by decide +kernel) ?_
      have hz := Option.some.inj hf
      subst hz
      exact Z.iret hJ dX12_firstWar_54 rfl (Nat.le_refl _) (Nat.le_refl _) ⟨rfl, rfl⟩
    · rw [if_neg c1] at hf
      refine Z.iconst (n := 13) (v := 0) dX12_firstWar_12 rfl (by decide +kernel) ?_
      refine Z.istore_n (n := 14) dX12_firstWar_13 rfl (by decide) rfl ?_
      exact zX12_firstWar_14 hJ ih _ _ _ _ hf
def fX12_firstWar (h : HT) : Option (Int32 × HT) :=
  fX12_firstWar_2 1000 0 h
set_option maxHeartbeats 4000000 in
theorem ctX12_firstWar {g : GP} {a : Nat → Nat} {P : PT} {h : HT} {z : Int32 × HT} (hf : fX12_firstWar h = some z) : Ct g 10 0 0 mX12_firstWar [.ref (a 93)] (WD g a h P) (PoI g a P z) := by
  refine Ct.of (by decide +kernel) (Nat.le_of_ble_eq_true rfl) fun J hJ => ?_
  show Z g mX12_firstWar J 0 0 0 [some (.ref (a 93)), none, none] [] (WD g a h P)
  unfold fX12_firstWar at hf
  refine Z.iconst (n := 1) (v := 0) dX12_firstWar_0 rfl (by decide +kernel) ?_
  refine Z.istore_n (n := 2) dX12_firstWar_1 rfl (by decide) rfl ?_
  exact zX12_firstWar_2 hJ _ _ _ hf
def fX12_first (l1 : Int32) (h : HT) : Option (Int32 × HT) :=
  Option.bind (fX12_isStanding l1 h) fun z1 =>
  if z1.1 = 0 then (some ((-1), z1.2))
  else (Option.bind (fX12_takes l1 z1.2) fun z3 =>
  Option.bind (fX12_firstWar  z3.2) fun z4 =>
  some (z4.1, z4.2))
set_option maxHeartbeats 4000000 in
theorem ctX12_first {g : GP} {a : Nat → Nat} {P : PT} {h : HT} {z : Int32 × HT} {l1 : Int32} (hf : fX12_first l1 h = some z) : Ct g 11 0 0 mX12_first [.ref (a 93), .int l1] (WD g a h P) (PoI g a P z) := by
  refine Ct.of (by decide +kernel) (Nat.le_of_ble_eq_true rfl) fun J hJ => ?_
  show Z g mX12_first J 0 0 0 [some (.ref (a 93)), some (.int l1)] [] (WD g a h P)
  unfold fX12_first at hf
  refine Z.aload_n (n := 1) dX12_first_0 rfl rfl ?_
  refine Z.iload_n (n := 2) dX12_first_1 rfl rfl ?_
  obtain ⟨z1, ez1, hf⟩ := Option.bind_eq_some_iff.mp hf
  refine Z.callV (n := 5) vX12_132 (ctX12_isStanding ez1) hJ.rm (Nat.le_of_ble_eq_true rfl) rfl rfl (Nat.le_refl _) (Nat.le_refl _) rfl W93 rfl rfl (Nat.le_of_ble_eq_true rfl) rfl dX12_first_2 rfl (fun v w hw => ?_)
  obtain ⟨rfl, rfl⟩ := hw
  show Z _ _ _ _ _ _ _ [.int z1.1] _
  refine Z.if_ne (tgt := 10) (n := 8) dX12_first_5 rfl rfl (fun c2 => ?_) (fun c2 => ?_)
  · rw [if_neg c2] at hf
    refine Z.aload_n (n := 11) dX12_first_10 rfl rfl ?_
    refine Z.iload_n (n := 12) dX12_first_11 rfl rfl ?_
    obtain ⟨z3, ez3, hf⟩ := Option.bind_eq_some_iff.mp hf
    refine Z.callV (n := 15) vX12_170 (ctX12_takes ez3) hJ.rm (Nat.le_of_ble_eq_true rfl) rfl rfl (Nat.le_refl _) (Nat.le_refl _) rfl W93 rfl rfl (Nat.le_of_ble_eq_true rfl) rfl dX12_first_12 rfl (fun v w hw => ?_)
    obtain ⟨rfl, rfl⟩ := hw
    show Z _ _ _ _ _ _ _ [] _
    refine Z.aload_n (n := 16) dX12_first_15 rfl rfl ?_
    obtain ⟨z4, ez4, hf⟩ := Option.bind_eq_some_iff.mp hf
    refine Z.callV (n := 19) vX12_196 (ctX12_firstWar ez4) hJ.rm (Nat.le_of_ble_eq_true rfl) rfl rfl (Nat.le_refl _) (Nat.le_refl _) rfl W93 rfl rfl (Nat.le_of_ble_eq_true rfl) rfl dX12_first_16 rfl (fun v w hw => ?_)
    obtain ⟨rfl, rfl⟩ := hw
    show Z _ _ _ _ _ _ _ [.int z4.1] _
    have hz := Option.some.inj hf
    subst hz
    exact Z.iret hJ dX12_first_19 rfl (Nat.le_refl _) (Nat.le_refl _) ⟨rfl, rfl⟩
  · rw [if_pos c2] at hf
    refine Z.iconst (n := 9) (v := -1) dX12_first_8 rfl (by decide +kernel) ?_
    have hz := Option.some.inj hf
    subst hz
    exact Z.iret hJ dX12_first_9 rfl (Nat.le_refl _) (Nat.le_refl _) ⟨rfl, rfl⟩
def fX12_doesKeep_41 (s0 : Int32) (h : HT) : Option (Int32 × HT) :=
  Option.bind (cb s0) fun u5 =>
  some (s0, h)
set_option maxHeartbeats 4000000 in
theorem zX12_doesKeep_41 {g : GP} {a : Nat → Nat} {P : PT} {J : JT} {z : Int32 × HT} (hJ : JX g 3 0 0 (PoI g a P z) J) (s0 : Int32) (h : HT) (hf : fX12_doesKeep_41 s0 h = some z) : Z g mX12_doesKeep J 0 0 41 [none, none, none, none, none] [.int s0] (WD g a h P) := by
  unfold fX12_doesKeep_41 at hf
  obtain ⟨u5, eu5, hf⟩ := Option.bind_eq_some_iff.mp hf
  have hz := Option.some.inj hf
  subst hz
  exact Z.zret hJ dX12_doesKeep_41 rfl (cb_nar eu5) (Nat.le_refl _) (Nat.le_refl _) ⟨rfl, rfl⟩
def fX12_doesKeep_40 (h : HT) : Option (Int32 × HT) :=
  fX12_doesKeep_41 0 h
set_option maxHeartbeats 4000000 in
theorem zX12_doesKeep_40 {g : GP} {a : Nat → Nat} {P : PT} {J : JT} {z : Int32 × HT} (hJ : JX g 3 0 0 (PoI g a P z) J) (h : HT) (hf : fX12_doesKeep_40 h = some z) : Z g mX12_doesKeep J 0 0 40 [none, none, none, none, none] [] (WD g a h P) := by
  unfold fX12_doesKeep_40 at hf
  refine Z.iconst (n := 41) (v := 0) dX12_doesKeep_40 rfl (by decide +kernel) ?_
  exact zX12_doesKeep_41 hJ _ _ hf
def fX12_doesKeep_20 (l1 : Int32) (l3 : Int32) (h : HT) : Option (Int32 × HT) :=
  Option.bind (fX12_costOf l1 l3 h) fun z3 =>
  if (z3.2 94 6) < z3.1 then (fX12_doesKeep_40 z3.2)
  else (fX12_doesKeep_41 1 z3.2)
set_option maxHeartbeats 4000000 in
theorem zX12_doesKeep_20 {g : GP} {a : Nat → Nat} {P : PT} {J : JT} {z : Int32 × HT} (hJ : JX g 3 0 0 (PoI g a P z) J) (l1 : Int32) (l3 : Int32) (h : HT) (hf : fX12_doesKeep_20 l1 l3 h = some z) : Z g mX12_doesKeep J 0 0 20 [some (.ref (a 93)), some (.int l1), none, some (.int l3), none] [] (WD g a h P) := by
  unfold fX12_doesKeep_20 at hf
  refine Z.aload_n (n := 21) dX12_doesKeep_20 rfl rfl ?_
  refine Z.iload_n (n := 22) dX12_doesKeep_21 rfl rfl ?_
  refine Z.iload_n (n := 23) dX12_doesKeep_22 rfl rfl ?_
  obtain ⟨z3, ez3, hf⟩ := Option.bind_eq_some_iff.mp hf
  refine Z.callV (n := 26) vX12_125 (ctX12_costOf ez3) hJ.rm (Nat.le_of_ble_eq_true rfl) rfl rfl (Nat.le_refl _) (Nat.le_refl _) rfl W93 rfl rfl (Nat.le_of_ble_eq_true rfl) rfl dX12_doesKeep_23 rfl (fun v w hw => ?_)
  obtain ⟨rfl, rfl⟩ := hw
  show Z _ _ _ _ _ _ _ [.int z3.1] _
  refine Z.aload_n (n := 27) dX12_doesKeep_26 rfl rfl ?_
  refine Z.getf (n := 30) fX12_9 dX12_doesKeep_27 rfl W93 rfl ?_
  refine Z.bipush (n := 32) (v := 6) dX12_doesKeep_30 rfl (by decide +kernel) ?_
  refine Z.iald (j := 6) (n := 33) dX12_doesKeep_32 rfl W94 (by decide +kernel) (by decide) (by decide) ?_
  refine Z.icmp_gt (tgt := 40) (n := 36) dX12_doesKeep_33 rfl rfl (fun c4 => ?_) (fun c4 => ?_)
  · rw [if_pos c4] at hf
    refine Z.fg [0, 1, 3] ?_
    exact zX12_doesKeep_40 hJ _ hf
  · rw [if_neg c4] at hf
    refine Z.iconst (n := 37) (v := 1) dX12_doesKeep_36 rfl (by decide +kernel) ?_
    refine Z.goto (tgt := 41) dX12_doesKeep_37 rfl ?_
    refine Z.fg [0, 1, 3] ?_
    exact zX12_doesKeep_41 hJ _ _ hf
def fX12_doesKeep (l1 : Int32) (l2 : Int32) (l3 : Int32) (h : HT) : Option (Int32 × HT) :=
  Option.bind (fX12_pactOf l1 l2 h) fun z1 =>
  if z1.1 = 1 then (fX12_doesKeep_20 l1 l3 z1.2)
  else (if z1.1 = 2 then (fX12_doesKeep_20 l1 l3 z1.2)
  else (fX12_doesKeep_40 z1.2))
set_option maxHeartbeats 4000000 in
theorem ctX12_doesKeep {g : GP} {a : Nat → Nat} {P : PT} {h : HT} {z : Int32 × HT} {l1 : Int32} {l2 : Int32} {l3 : Int32} (hf : fX12_doesKeep l1 l2 l3 h = some z) : Ct g 3 0 0 mX12_doesKeep [.ref (a 93), .int l1, .int l2, .int l3] (WD g a h P) (PoI g a P z) := by
  refine Ct.of (by decide +kernel) (Nat.le_of_ble_eq_true rfl) fun J hJ => ?_
  show Z g mX12_doesKeep J 0 0 0 [some (.ref (a 93)), some (.int l1), some (.int l2), some (.int l3), none] [] (WD g a h P)
  unfold fX12_doesKeep at hf
  refine Z.aload_n (n := 1) dX12_doesKeep_0 rfl rfl ?_
  refine Z.iload_n (n := 2) dX12_doesKeep_1 rfl rfl ?_
  refine Z.iload_n (n := 3) dX12_doesKeep_2 rfl rfl ?_
  obtain ⟨z1, ez1, hf⟩ := Option.bind_eq_some_iff.mp hf
  refine Z.callV (n := 6) vX12_156 (ctX12_pactOf ez1) hJ.rm (Nat.le_of_ble_eq_true rfl) rfl rfl (Nat.le_refl _) (Nat.le_refl _) rfl W93 rfl rfl (Nat.le_of_ble_eq_true rfl) rfl dX12_doesKeep_3 rfl (fun v w hw => ?_)
  obtain ⟨rfl, rfl⟩ := hw
  show Z _ _ _ _ _ _ _ [.int z1.1] _
  refine Z.istore (n := 8) dX12_doesKeep_6 rfl (by decide) rfl ?_
  refine Z.iload (n := 10) dX12_doesKeep_8 rfl rfl ?_
  refine Z.iconst (n := 11) (v := 1) dX12_doesKeep_10 rfl (by decide +kernel) ?_
  refine Z.icmp_eq (tgt := 20) (n := 14) dX12_doesKeep_11 rfl rfl (fun c2 => ?_) (fun c2 => ?_)
  · rw [if_pos c2] at hf
    refine Z.fg [2, 4] ?_
    exact zX12_doesKeep_20 hJ _ _ _ hf
  · rw [if_neg c2] at hf
    refine Z.iload (n := 16) dX12_doesKeep_14 rfl rfl ?_
    refine Z.iconst (n := 17) (v := 2) dX12_doesKeep_16 rfl (by decide +kernel) ?_
    refine Z.icmp_ne (tgt := 40) (n := 20) dX12_doesKeep_17 rfl rfl (fun c6 => ?_) (fun c6 => ?_)
    · rw [if_neg c6] at hf
      refine Z.fg [0, 1, 2, 3, 4] ?_
      exact zX12_doesKeep_40 hJ _ hf
    · rw [if_pos c6] at hf
      refine Z.fg [2, 4] ?_
      exact zX12_doesKeep_20 hJ _ _ _ hf
def fX12_keeps_24 (h : HT) : Option (Int32 × HT) :=
  some ((-1), h)
set_option maxHeartbeats 4000000 in
theorem zX12_keeps_24 {g : GP} {a : Nat → Nat} {P : PT} {J : JT} {z : Int32 × HT} (hJ : JX g 4 0 0 (PoI g a P z) J) (h : HT) (hf : fX12_keeps_24 h = some z) : Z g mX12_keeps J 0 0 24 [none, none, none, none] [] (WD g a h P) := by
  unfold fX12_keeps_24 at hf
  refine Z.iconst (n := 25) (v := -1) dX12_keeps_24 rfl (by decide +kernel) ?_
  have hz := Option.some.inj hf
  subst hz
  exact Z.iret hJ dX12_keeps_25 rfl (Nat.le_refl _) (Nat.le_refl _) ⟨rfl, rfl⟩
def fX12_keeps_41 (h : HT) : Option (Int32 × HT) :=
  some ((-2), h)
set_option maxHeartbeats 4000000 in
theorem zX12_keeps_41 {g : GP} {a : Nat → Nat} {P : PT} {J : JT} {z : Int32 × HT} (hJ : JX g 4 0 0 (PoI g a P z) J) (h : HT) (hf : fX12_keeps_41 h = some z) : Z g mX12_keeps J 0 0 41 [none, none, none, none] [] (WD g a h P) := by
  unfold fX12_keeps_41 at hf
  refine Z.bipush (n := 43) (v := -2) dX12_keeps_41 rfl (by decide +kernel) ?_
  have hz := Option.some.inj hf
  subst hz
  exact Z.iret hJ dX12_keeps_43 rfl (Nat.le_refl _) (Nat.le_refl _) ⟨rfl, rfl⟩
def fX12_keeps_68 (h : HT) : Option (Int32 × HT) :=
  some ((-3), h)
set_option maxHeartbeats 4000000 in
theorem zX12_keeps_68 {g : GP} {a : Nat → Nat} {P : PT} {J : JT} {z : Int32 × HT} (hJ : JX g 4 0 0 (PoI g a P z) J) (h : HT) (hf : fX12_keeps_68 h = some z) : Z g mX12_keeps J 0 0 68 [none, none, none, none] [] (WD g a h P) := by
  unfold fX12_keeps_68 at hf
  refine Z.bipush (n := 70) (v := -3) dX12_keeps_68 rfl (by decide +kernel) ?_
  have hz := Option.some.inj hf
  subst hz
  exact Z.iret hJ dX12_keeps_70 rfl (Nat.le_refl _) (Nat.le_refl _) ⟨rfl, rfl⟩
def fX12_keeps_86 (s0 : Int32) (h : HT) : Option (Int32 × HT) :=
  some (s0, h)
set_option maxHeartbeats 4000000 in
theorem zX12_keeps_86 {g : GP} {a : Nat → Nat} {P : PT} {J : JT} {z : Int32 × HT} (hJ : JX g 4 0 0 (PoI g a P z) J) (s0 : Int32) (h : HT) (hf : fX12_keeps_86 s0 h = some z) : Z g mX12_keeps J 0 0 86 [none, none, none, none] [.int s0] (WD g a h P) := by
  unfold fX12_keeps_86 at hf
  have hz := Option.some.inj hf
  subst hz
  exact Z.iret hJ dX12_keeps_86 rfl (Nat.le_refl _) (Nat.le_refl _) ⟨rfl, rfl⟩
def fX12_keeps (l1 : Int32) (l2 : Int32) (l3 : Int32) (h : HT) : Option (Int32 × HT) :=
  Option.bind (fX12_isKing l1 h) fun z1 =>
  if z1.1 = 0 then (fX12_keeps_24 z1.2)
  else (Option.bind (fX12_isKing l2 z1.2) fun z3 =>
  if z3.1 = 0 then (fX12_keeps_24 z3.2)
  else (Option.bind (fX12_isKing l3 z3.2) fun z5 =>
  if z5.1 = 0 then (fX12_keeps_24 z5.2)
  else (if l1 = l2 then (fX12_keeps_41 z5.2)
  else (if l1 = l3 then (fX12_keeps_41 z5.2)
  else (if l2 = l3 then (fX12_keeps_41 z5.2)
  else (Option.bind (fX12_isAlive l1 z5.2) fun z10 =>
  if z10.1 = 0 then (fX12_keeps_68 z10.2)
  else (Option.bind (fX12_isAlive l2 z10.2) fun z12 =>
  if z12.1 = 0 then (fX12_keeps_68 z12.2)
  else (Option.bind (fX12_isAlive l3 z12.2) fun z14 =>
  if z14.1 = 0 then (fX12_keeps_68 z14.2)
  else (Option.bind (fX12_doesKeep l1 l2 l3 z14.2) fun z16 =>
  if z16.1 = 0 then (fX12_keeps_86 0 z16.2)
  else (fX12_keeps_86 1 z16.2))))))))))
set_option maxHeartbeats 4000000 in
theorem ctX12_keeps {g : GP} {a : Nat → Nat} {P : PT} {h : HT} {z : Int32 × HT} {l1 : Int32} {l2 : Int32} {l3 : Int32} (hf : fX12_keeps l1 l2 l3 h = some z) : Ct g 4 0 0 mX12_keeps [.ref (a 93), .int l1, .int l2, .int l3] (WD g a h P) (PoI g a P z) := by
  refine Ct.of (by decide +kernel) (Nat.le_of_ble_eq_true rfl) fun J hJ => ?_
  show Z g mX12_keeps J 0 0 0 [some (.ref (a 93)), some (.int l1), some (.int l2), some (.int l3)] [] (WD g a h P)
  unfold fX12_keeps at hf
  refine Z.aload_n (n := 1) dX12_keeps_0 rfl rfl ?_
  refine Z.iload_n (n := 2) dX12_keeps_1 rfl rfl ?_
  obtain ⟨z1, ez1, hf⟩ := Option.bind_eq_some_iff.mp hf
  refine Z.callV (n := 5) vX12_45 (ctX12_isKing ez1) hJ.rm (Nat.le_of_ble_eq_true rfl) rfl rfl (Nat.le_refl _) (Nat.le_refl _) rfl W93 rfl rfl (Nat.le_of_ble_eq_true rfl) rfl dX12_keeps_2 rfl (fun v w hw => ?_)
  obtain ⟨rfl, rfl⟩ := hw
  show Z _ _ _ _ _ _ _ [.int z1.1] _
  refine Z.if_eq (tgt := 24) (n := 8) dX12_keeps_5 rfl rfl (fun c2 => ?_) (fun c2 => ?_)
  · rw [if_pos c2] at hf
    refine Z.fg [0, 1, 2, 3] ?_
    exact zX12_keeps_24 hJ _ hf
  · rw [if_neg c2] at hf
    refine Z.aload_n (n := 9) dX12_keeps_8 rfl rfl ?_
    refine Z.iload_n (n := 10) dX12_keeps_9 rfl rfl ?_
    obtain ⟨z3, ez3, hf⟩ := Option.bind_eq_some_iff.mp hf
    refine Z.callV (n := 13) vX12_45 (ctX12_isKing ez3) hJ.rm (Nat.le_of_ble_eq_true rfl) rfl rfl (Nat.le_refl _) (Nat.le_refl _) rfl W93 rfl rfl (Nat.le_of_ble_eq_true rfl) rfl dX12_keeps_10 rfl (fun v w hw => ?_)
    obtain ⟨rfl, rfl⟩ := hw
    show Z _ _ _ _ _ _ _ [.int z3.1] _
    refine Z.if_eq (tgt := 24) (n := 16) dX12_keeps_13 rfl rfl (fun c4 => ?_) (fun c4 => ?_)
    · rw [if_pos c4] at hf
      refine Z.fg [0, 1, 2, 3] ?_
      exact zX12_keeps_24 hJ _ hf
    · rw [if_neg c4] at hf
      refine Z.aload_n (n := 17) dX12_keeps_16 rfl rfl ?_
      refine Z.iload_n (n := 18) dX12_keeps_17 rfl rfl ?_
      obtain ⟨z5, ez5, hf⟩ := Option.bind_eq_some_iff.mp hf
      refine Z.callV (n := 21) vX12_45 (ctX12_isKing ez5) hJ.rm (Nat.le_of_ble_eq_true rfl) rfl rfl (Nat.le_refl _) (Nat.le_refl _) rfl W93 rfl rfl (Nat.le_of_ble_eq_true rfl) rfl dX12_keeps_18 rfl (fun v w hw => ?_)
      obtain ⟨rfl, rfl⟩ := hw
      show Z _ _ _ _ _ _ _ [.int z5.1] _
      refine Z.if_ne (tgt := 26) (n := 24) dX12_keeps_21 rfl rfl (fun c6 => ?_) (fun c6 => ?_)
      · rw [if_neg c6] at hf
        refine Z.iload_n (n := 27) dX12_keeps_26 rfl rfl ?_
        refine Z.iload_n (n := 28) dX12_keeps_27 rfl rfl ?_
        refine Z.icmp_eq (tgt := 41) (n := 31) dX12_keeps_28 rfl rfl (fun c7 => ?_) (fun c7 => ?_)
        · rw [if_pos c7] at hf
          refine Z.fg [0, 1, 2, 3] ?_
          exact zX12_keeps_41 hJ _ hf
        · rw [if_neg c7] at hf
          refine Z.iload_n (n := 32) dX12_keeps_31 rfl rfl ?_
          refine Z.iload_n (n := 33) dX12_keeps_32 rfl rfl ?_
          refine Z.icmp_eq (tgt := 41) (n := 36) dX12_keeps_33 rfl rfl (fun c8 => ?_) (fun c8 => ?_)
          · rw [if_pos c8] at hf
            refine Z.fg [0, 1, 2, 3] ?_
            exact zX12_keeps_41 hJ _ hf
          · rw [if_neg c8] at hf
            refine Z.iload_n (n := 37) dX12_keeps_36 rfl rfl ?_
            refine Z.iload_n (n := 38) dX12_keeps_37 rfl rfl ?_
            refine Z.icmp_ne (tgt := 44) (n := 41) dX12_keeps_38 rfl rfl (fun c9 => ?_) (fun c9 => ?_)
            · rw [if_neg c9] at hf
              refine Z.aload_n (n := 45) dX12_keeps_44 rfl rfl ?_
              refine Z.iload_n (n := 46) dX12_keeps_45 rfl rfl ?_
              obtain ⟨z10, ez10, hf⟩ := Option.bind_eq_some_iff.mp hf
              refine Z.callV (n := 49) vX12_49 (ctX12_isAlive ez10) hJ.rm (Nat.le_of_ble_eq_true rfl) rfl rfl (Nat.le_refl _) (Nat.le_refl _) rfl W93 rfl rfl (Nat.le_of_ble_eq_true rfl) rfl dX12_keeps_46 rfl (fun v w hw => ?_)
              obtain ⟨rfl, rfl⟩ := hw
              show Z _ _ _ _ _ _ _ [.int z10.1] _
              refine Z.if_eq (tgt := 68) (n := 52) dX12_keeps_49 rfl rfl (fun c11 => ?_) (fun c11 => ?_)
              · rw [if_pos c11] at hf
                refine Z.fg [0, 1, 2, 3] ?_
                exact zX12_keeps_68 hJ _ hf
              · rw [if_neg c11] at hf
                refine Z.aload_n (n := 53) dX12_keeps_52 rfl rfl ?_
                refine Z.iload_n (n := 54) dX12_keeps_53 rfl rfl ?_
                obtain ⟨z12, ez12, hf⟩ := Option.bind_eq_some_iff.mp hf
                refine Z.callV (n := 57) vX12_49 (ctX12_isAlive ez12) hJ.rm (Nat.le_of_ble_eq_true rfl) rfl rfl (Nat.le_refl _) (Nat.le_refl _) rfl W93 rfl rfl (Nat.le_of_ble_eq_true rfl) rfl dX12_keeps_54 rfl (fun v w hw => ?_)
                obtain ⟨rfl, rfl⟩ := hw
                show Z _ _ _ _ _ _ _ [.int z12.1] _
                refine Z.if_eq (tgt := 68) (n := 60) dX12_keeps_57 rfl rfl (fun c13 => ?_) (fun c13 => ?_)
                · rw [if_pos c13] at hf
                  refine Z.fg [0, 1, 2, 3] ?_
                  exact zX12_keeps_68 hJ _ hf
                · rw [if_neg c13] at hf
                  refine Z.aload_n (n := 61) dX12_keeps_60 rfl rfl ?_
                  refine Z.iload_n (n := 62) dX12_keeps_61 rfl rfl ?_
                  obtain ⟨z14, ez14, hf⟩ := Option.bind_eq_some_iff.mp hf
                  refine Z.callV (n := 65) vX12_49 (ctX12_isAlive ez14) hJ.rm (Nat.le_of_ble_eq_true rfl) rfl rfl (Nat.le_refl _) (Nat.le_refl _) rfl W93 rfl rfl (Nat.le_of_ble_eq_true rfl) rfl dX12_keeps_62 rfl (fun v w hw => ?_)
                  obtain ⟨rfl, rfl⟩ := hw
                  show Z _ _ _ _ _ _ _ [.int z14.1] _
                  refine Z.if_ne (tgt := 71) (n := 68) dX12_keeps_65 rfl rfl (fun c15 => ?_) (fun c15 => ?_)
                  · rw [if_neg c15] at hf
                    refine Z.aload_n (n := 72) dX12_keeps_71 rfl rfl ?_
                    refine Z.iload_n (n := 73) dX12_keeps_72 rfl rfl ?_
                    refine Z.iload_n (n := 74) dX12_keeps_73 rfl rfl ?_
                    refine Z.iload_n (n := 75) dX12_keeps_74 rfl rfl ?_
                    obtain ⟨z16, ez16, hf⟩ := Option.bind_eq_some_iff.mp hf
                    refine Z.callV (n := 78) vX12_199 (ctX12_doesKeep ez16) hJ.rm (Nat.le_of_ble_eq_true rfl) rfl rfl (Nat.le_refl _) (Nat.le_refl _) rfl W93 rfl rfl (Nat.le_of_ble_eq_true rfl) rfl dX12_keeps_75 rfl (fun v w hw => ?_)
                    obtain ⟨rfl, rfl⟩ := hw
                    show Z _ _ _ _ _ _ _ [.int z16.1] _
                    refine Z.if_eq (tgt := 85) (n := 81) dX12_keeps_78 rfl rfl (fun c17 => ?_) (fun c17 => ?_)
                    · rw [if_pos c17] at hf
                      refine Z.iconst (n := 86) (v := 0) dX12_keeps_85 rfl (by decide +kernel) ?_
                      refine Z.fg [0, 1, 2, 3] ?_
                      exact zX12_keeps_86 hJ _ _ hf
                    · rw [if_neg c17] at hf
                      refine Z.iconst (n := 82) (v := 1) dX12_keeps_81 rfl (by decide +kernel) ?_
                      refine Z.goto (tgt := 86) dX12_keeps_82 rfl ?_
                      refine Z.fg [0, 1, 2, 3] ?_
                      exact zX12_keeps_86 hJ _ _ hf
                  · rw [if_pos c15] at hf
                    refine Z.fg [0, 1, 2, 3] ?_
                    exact zX12_keeps_68 hJ _ hf
            · rw [if_pos c9] at hf
              refine Z.fg [0, 1, 2, 3] ?_
              exact zX12_keeps_41 hJ _ hf
      · rw [if_pos c6] at hf
        refine Z.fg [0, 1, 2, 3] ?_
        exact zX12_keeps_24 hJ _ hf
def fX12_empty_149 (k14_ : Int32 → Int32 → Int32 → HT → Option (Int32 × HT)) (l1 : Int32) (l3 : Int32) (s0 : Int32) (s1 : Int32) (h : HT) : Option (Int32 × HT) :=
  k14_ l1 (s1 ||| s0) (l3 + 1) h
set_option maxHeartbeats 4000000 in
theorem zX12_empty_149 {g : GP} {a : Nat → Nat} {P : PT} {J : JT} {z : Int32 × HT} {k14_ : Int32 → Int32 → Int32 → HT → Option (Int32 × HT)} (hJ : JX g 4 0 0 (PoI g a P z) J) (hk14 : ∀ (l1 : Int32) (l2 : Int32) (l3 : Int32) (h : HT), k14_ l1 l2 l3 h = some z → Z g mX12_empty J 0 0 14 [some (.ref (a 93)), some (.int l1), some (.int l2), some (.int l3), none, none, none] [] (WD g a h P)) (l1 : Int32) (l3 : Int32) (s0 : Int32) (s1 : Int32) (h : HT) (hf : fX12_empty_149 k14_ l1 l3 s0 s1 h = some z) : Z g mX12_empty J 0 0 149 [some (.ref (a 93)), some (.int l1), none, some (.int l3), none, none, none] [.int s0, .int s1] (WD g a h P) := by
  unfold fX12_empty_149 at hf
  refine Z.ior (n := 150) dX12_empty_149 rfl ?_
  refine Z.istore_n (n := 151) dX12_empty_150 rfl (by decide) rfl ?_
  refine Z.iinc (n := 154) (v := l3 + 1) dX12_empty_151 rfl rfl rfl (by decide) rfl ?_
  refine Z.goto (tgt := 14) dX12_empty_154 rfl ?_
  exact hk14 _ _ _ _ hf
def fX12_empty_136 (k14_ : Int32 → Int32 → Int32 → HT → Option (Int32 × HT)) (l1 : Int32) (l2 : Int32) (l3 : Int32) (l5 : Int32) (h : HT) : Option (Int32 × HT) :=
  if l5 = 0 then (fX12_empty_149 k14_ l1 l3 0 l2 h)
  else (fX12_empty_149 k14_ l1 l3 ((1 : Int32) <<< (l3 &&& 31)) l2 h)
set_option maxHeartbeats 4000000 in
theorem zX12_empty_136 {g : GP} {a : Nat → Nat} {P : PT} {J : JT} {z : Int32 × HT} {k14_ : Int32 → Int32 → Int32 → HT → Option (Int32 × HT)} (hJ : JX g 4 0 0 (PoI g a P z) J) (hk14 : ∀ (l1 : Int32) (l2 : Int32) (l3 : Int32) (h : HT), k14_ l1 l2 l3 h = some z → Z g mX12_empty J 0 0 14 [some (.ref (a 93)), some (.int l1), some (.int l2), some (.int l3), none, none, none] [] (WD g a h P)) (l1 : Int32) (l2 : Int32) (l3 : Int32) (l5 : Int32) (h : HT) (hf : fX12_empty_136 k14_ l1 l2 l3 l5 h = some z) : Z g mX12_empty J 0 0 136 [some (.ref (a 93)), some (.int l1), some (.int l2), some (.int l3), none, some (.int l5), none] [] (WD g a h P) := by
  unfold fX12_empty_136 at hf
  refine Z.iload_n (n := 137) dX12_empty_136 rfl rfl ?_
  refine Z.iload (n := 139) dX12_empty_137 rfl rfl ?_
  refine Z.if_eq (tgt := 148) (n := 142) dX12_empty_139 rfl rfl (fun c7 => ?_) (fun c7 => ?_)
  · rw [if_pos c7] at hf
    refine Z.iconst (n := 149) (v := 0) dX12_empty_148 rfl (by decide +kernel) ?_
    refine Z.fg [2, 5] ?_
    exact zX12_empty_149 hJ hk14 _ _ _ _ _ hf
  · rw [if_neg c7] at hf
    refine Z.iconst (n := 143) (v := 1) dX12_empty_142 rfl (by decide +kernel) ?_
    refine Z.iload_n (n := 144) dX12_empty_143 rfl rfl ?_
    refine Z.ishl (n := 145) dX12_empty_144 rfl ?_
    refine Z.goto (tgt := 149) dX12_empty_145 rfl ?_
    refine Z.fg [2, 5] ?_
    exact zX12_empty_149 hJ hk14 _ _ _ _ _ hf
def fX12_empty_128 (k14_ : Int32 → Int32 → Int32 → HT → Option (Int32 × HT)) (k75_ : Int32 → Int32 → Int32 → Int32 → Int32 → HT → Option (Int32 × HT)) (l1 : Int32) (l2 : Int32) (l3 : Int32) (l6 : Int32) (s0 : Int32) (h : HT) : Option (Int32 × HT) :=
  k75_ l1 l2 l3 s0 (l6 + 1) h
set_option maxHeartbeats 4000000 in
theorem zX12_empty_128 {g : GP} {a : Nat → Nat} {P : PT} {J : JT} {z : Int32 × HT} {k14_ : Int32 → Int32 → Int32 → HT → Option (Int32 × HT)} {k75_ : Int32 → Int32 → Int32 → Int32 → Int32 → HT → Option (Int32 × HT)} (hJ : JX g 4 0 0 (PoI g a P z) J) (hk14 : ∀ (l1 : Int32) (l2 : Int32) (l3 : Int32) (h : HT), k14_ l1 l2 l3 h = some z → Z g mX12_empty J 0 0 14 [some (.ref (a 93)), some (.int l1), some (.int l2), some (.int l3), none, none, none] [] (WD g a h P)) (hk75 : ∀ (l1 : Int32) (l2 : Int32) (l3 : Int32) (l5 : Int32) (l6 : Int32) (h : HT), k75_ l1 l2 l3 l5 l6 h = some z → Z g mX12_empty J 0 0 75 [some (.ref (a 93)), some (.int l1), some (.int l2), some (.int l3), none, some (.int l5), some (.int l6)] [] (WD g a h P)) (l1 : Int32) (l2 : Int32) (l3 : Int32) (l6 : Int32) (s0 : Int32) (h : HT) (hf : fX12_empty_128 k14_ k75_ l1 l2 l3 l6 s0 h = some z) : Z g mX12_empty J 0 0 128 [some (.ref (a 93)), some (.int l1), some (.int l2), some (.int l3), none, none, some (.int l6)] [.int s0] (WD g a h P) := by
  unfold fX12_empty_128 at hf
  refine Z.istore (n := 130) dX12_empty_128 rfl (by decide) rfl ?_
  refine Z.iinc (n := 133) (v := l6 + 1) dX12_empty_130 rfl rfl rfl (by decide) rfl ?_
  refine Z.goto (tgt := 75) dX12_empty_133 rfl ?_
  exact hk75 _ _ _ _ _ _ hf
def fX12_empty_123 (k14_ : Int32 → Int32 → Int32 → HT → Option (Int32 × HT)) (k75_ : Int32 → Int32 → Int32 → Int32 → Int32 → HT → Option (Int32 × HT)) (l1 : Int32) (l2 : Int32) (l3 : Int32) (l6 : Int32) (h : HT) : Option (Int32 × HT) :=
  fX12_empty_128 k14_ k75_ l1 l2 l3 l6 1 h
set_option maxHeartbeats 4000000 in
theorem zX12_empty_123 {g : GP} {a : Nat → Nat} {P : PT} {J : JT} {z : Int32 × HT} {k14_ : Int32 → Int32 → Int32 → HT → Option (Int32 × HT)} {k75_ : Int32 → Int32 → Int32 → Int32 → Int32 → HT → Option (Int32 × HT)} (hJ : JX g 4 0 0 (PoI g a P z) J) (hk14 : ∀ (l1 : Int32) (l2 : Int32) (l3 : Int32) (h : HT), k14_ l1 l2 l3 h = some z → Z g mX12_empty J 0 0 14 [some (.ref (a 93)), some (.int l1), some (.int l2), some (.int l3), none, none, none] [] (WD g a h P)) (hk75 : ∀ (l1 : Int32) (l2 : Int32) (l3 : Int32) (l5 : Int32) (l6 : Int32) (h : HT), k75_ l1 l2 l3 l5 l6 h = some z → Z g mX12_empty J 0 0 75 [some (.ref (a 93)), some (.int l1), some (.int l2), some (.int l3), none, some (.int l5), some (.int l6)] [] (WD g a h P)) (l1 : Int32) (l2 : Int32) (l3 : Int32) (l6 : Int32) (h : HT) (hf : fX12_empty_123 k14_ k75_ l1 l2 l3 l6 h = some z) : Z g mX12_empty J 0 0 123 [some (.ref (a 93)), some (.int l1), some (.int l2), some (.int l3), none, none, some (.int l6)] [] (WD g a h P) := by
  unfold fX12_empty_123 at hf
  refine Z.iconst (n := 124) (v := 1) dX12_empty_123 rfl (by decide +kernel) ?_
  refine Z.goto (tgt := 128) dX12_empty_124 rfl ?_
  exact zX12_empty_128 hJ hk14 hk75 _ _ _ _ _ _ hf
def fX12_empty_75 (k14_ : Int32 → Int32 → Int32 → HT → Option (Int32 × HT)) : Nat → Int32 → Int32 → Int32 → Int32 → Int32 → HT → Option (Int32 × HT)
  | 0, _, _, _, _, _, _ => none
  | n + 1, l1, l2, l3, l5, l6, h =>
  if (h 94 0) ≤ l6 then (fX12_empty_136 k14_ l1 l2 l3 l5 h)
  else (if l5 = 0 then (fX12_empty_136 k14_ l1 l2 l3 l5 h)
  else (if l6 = l1 then (fX12_empty_123 k14_ (fX12_empty_75 k14_ n) l1 l2 l3 l6 h)
  else (if l6 = l3 then (fX12_empty_123 k14_ (fX12_empty_75 k14_ n) l1 l2 l3 l6 h)
  else (Option.bind (fX12_isAlive l6 h) fun z11 =>
  if z11.1 = 0 then (fX12_empty_123 k14_ (fX12_empty_75 k14_ n) l1 l2 l3 l6 z11.2)
  else (Option.bind (fX12_doesKeep l1 l3 l6 z11.2) fun z13 =>
  if z13.1 = 0 then (fX12_empty_123 k14_ (fX12_empty_75 k14_ n) l1 l2 l3 l6 z13.2)
  else (fX12_empty_128 k14_ (fX12_empty_75 k14_ n) l1 l2 l3 l6 0 z13.2))))))
set_option maxHeartbeats 4000000 in
theorem zX12_empty_75 {g : GP} {a : Nat → Nat} {P : PT} {J : JT} {z : Int32 × HT} {k14_ : Int32 → Int32 → Int32 → HT → Option (Int32 × HT)} (hJ : JX g 4 0 0 (PoI g a P z) J) (hk14 : ∀ (l1 : Int32) (l2 : Int32) (l3 : Int32) (h : HT), k14_ l1 l2 l3 h = some z → Z g mX12_empty J 0 0 14 [some (.ref (a 93)), some (.int l1), some (.int l2), some (.int l3), none, none, none] [] (WD g a h P)) : ∀ (n : Nat) (l1 : Int32) (l2 : Int32) (l3 : Int32) (l5 : Int32) (l6 : Int32) (h : HT), fX12_empty_75 k14_ n l1 l2 l3 l5 l6 h = some z → Z g mX12_empty J 0 0 75 [some (.ref (a 93)), some (.int l1), some (.int l2), some (.int l3), none, some (.int l5), some (.int l6)] [] (WD g a h P) := by
  intro n
  induction n with
  | zero =>
    intro _ _ _ _ _ _ hf
    cases hf
  | succ n ih =>
    intro l1 l2 l3 l5 l6 h hf
    unfold fX12_empty_75 at hf
    refine Z.iload (n := 77) dX12_empty_75 rfl rfl ?_
    refine Z.aload_n (n := 78) dX12_empty_77 rfl rfl ?_
    refine Z.getf (n := 81) fX12_9 dX12_empty_78 rfl W93 rfl ?_
    refine Z.iconst (n := 82) (v := 0) dX12_empty_81 rfl (by decide +kernel) ?_
    refine Z.iald (j := 0) (n := 83) dX12_empty_82 rfl W94 (by decide +kernel) (by decide) (by decide) ?_
    refine Z.icmp_ge (tgt := 136) (n := 86) dX12_empty_83 rfl rfl (fun c6 => ?_) (fun c6 => ?_)
    · rw [if_pos c6] at hf
      refine Z.fg [6] ?_
      exact zX12_empty_136 hJ hk14 _ _ _ _ _ hf
    · rw [if_neg c6] at hf
      refine Z.iload (n := 88) dX12_empty_86 rfl rfl ?_
      refine Z.if_eq (tgt := 136) (n := 91) dX12_empty_88 rfl rfl (fun c8 => ?_) (fun c8 => ?_)
      · rw [if_pos c8] at hf
        refine Z.fg [6] ?_
        exact zX12_empty_136 hJ hk14 _ _ _ _ _ hf
      · rw [if_neg c8] at hf
        refine Z.iload (n := 93) dX12_empty_91 rfl rfl ?_
        refine Z.iload_n (n := 94) dX12_empty_93 rfl rfl ?_
        refine Z.icmp_eq (tgt := 123) (n := 97) dX12_empty_94 rfl rfl (fun c9 => ?_) (fun c9 => ?_)
        · rw [if_pos c9] at hf
          refine Z.fg [5] ?_
          exact zX12_empty_123 hJ hk14 ih _ _ _ _ _ hf
        · rw [if_neg c9] at hf
          refine Z.iload (n := 99) dX12_empty_97 rfl rfl ?_
          refine Z.iload_n (n := 100) dX12_empty_99 rfl rfl ?_
          refine Z.icmp_eq (tgt := 123) (n := 103) dX12_empty_100 rfl rfl (fun c10 => ?_) (fun c10 => ?_)
          · rw [if_pos c10] at hf
            refine Z.fg [5] ?_
            exact zX12_empty_123 hJ hk14 ih _ _ _ _ _ hf
          · rw [if_neg c10] at hf
            refine Z.aload_n (n := 104) dX12_empty_103 rfl rfl ?_
            refine Z.iload (n := 106) dX12_empty_104 rfl rfl ?_
            obtain ⟨z11, ez11, hf⟩ := Option.bind_eq_some_iff.mp hf
            refine Z.callV (n := 109) vX12_49 (ctX12_isAlive ez11) hJ.rm (Nat.le_of_ble_eq_true rfl) rfl rfl (Nat.le_refl _) (Nat.le_refl _) rfl W93 rfl rfl (Nat.le_of_ble_eq_true rfl) rfl dX12_empty_106 rfl (fun v w hw => ?_)
            obtain ⟨rfl, rfl⟩ := hw
            show Z _ _ _ _ _ _ _ [.int z11.1] _
            refine Z.if_eq (tgt := 123) (n := 112) dX12_empty_109 rfl rfl (fun c12 => ?_) (fun c12 => ?_)
            · rw [if_pos c12] at hf
              refine Z.fg [5] ?_
              exact zX12_empty_123 hJ hk14 ih _ _ _ _ _ hf
            · rw [if_neg c12] at hf
              refine Z.aload_n (n := 113) dX12_empty_112 rfl rfl ?_
              refine Z.iload_n (n := 114) dX12_empty_113 rfl rfl ?_
              refine Z.iload_n (n := 115) dX12_empty_114 rfl rfl ?_
              refine Z.iload (n := 117) dX12_empty_115 rfl rfl ?_
              obtain ⟨z13, ez13, hf⟩ := Option.bind_eq_some_iff.mp hf
              refine Z.callV (n := 120) vX12_199 (ctX12_doesKeep ez13) hJ.rm (Nat.le_of_ble_eq_true rfl) rfl rfl (Nat.le_refl _) (Nat.le_refl _) rfl W93 rfl rfl (Nat.le_of_ble_eq_true rfl) rfl dX12_empty_117 rfl (fun v w hw => ?_)
              obtain ⟨rfl, rfl⟩ := hw
              show Z _ _ _ _ _ _ _ [.int z13.1] _
              refine Z.if_ne (tgt := 127) (n := 123) dX12_empty_120 rfl rfl (fun c14 => ?_) (fun c14 => ?_)
              · rw [if_neg c14] at hf
                refine Z.iconst (n := 128) (v := 0) dX12_empty_127 rfl (by decide +kernel) ?_
                refine Z.fg [5] ?_
                exact zX12_empty_128 hJ hk14 ih _ _ _ _ _ _ hf
              · rw [if_pos c14] at hf
                refine Z.fg [5] ?_
                exact zX12_empty_123 hJ hk14 ih _ _ _ _ _ hf
def fX12_empty_70 (k14_ : Int32 → Int32 → Int32 → HT → Option (Int32 × HT)) (l1 : Int32) (l2 : Int32) (l3 : Int32) (s0 : Int32) (h : HT) : Option (Int32 × HT) :=
  fX12_empty_75 k14_ 1000 l1 l2 l3 s0 0 h
set_option maxHeartbeats 4000000 in
theorem zX12_empty_70 {g : GP} {a : Nat → Nat} {P : PT} {J : JT} {z : Int32 × HT} {k14_ : Int32 → Int32 → Int32 → HT → Option (Int32 × HT)} (hJ : JX g 4 0 0 (PoI g a P z) J) (hk14 : ∀ (l1 : Int32) (l2 : Int32) (l3 : Int32) (h : HT), k14_ l1 l2 l3 h = some z → Z g mX12_empty J 0 0 14 [some (.ref (a 93)), some (.int l1), some (.int l2), some (.int l3), none, none, none] [] (WD g a h P)) (l1 : Int32) (l2 : Int32) (l3 : Int32) (s0 : Int32) (h : HT) (hf : fX12_empty_70 k14_ l1 l2 l3 s0 h = some z) : Z g mX12_empty J 0 0 70 [some (.ref (a 93)), some (.int l1), some (.int l2), some (.int l3), none, none, none] [.int s0] (WD g a h P) := by
  unfold fX12_empty_70 at hf
  refine Z.istore (n := 72) dX12_empty_70 rfl (by decide) rfl ?_
  refine Z.iconst (n := 73) (v := 0) dX12_empty_72 rfl (by decide +kernel) ?_
  refine Z.istore (n := 75) dX12_empty_73 rfl (by decide) rfl ?_
  exact zX12_empty_75 hJ hk14 _ _ _ _ _ _ _ hf
def fX12_empty_69 (k14_ : Int32 → Int32 → Int32 → HT → Option (Int32 × HT)) (l1 : Int32) (l2 : Int32) (l3 : Int32) (h : HT) : Option (Int32 × HT) :=
  fX12_empty_70 k14_ l1 l2 l3 0 h
set_option maxHeartbeats 4000000 in
theorem zX12_empty_69 {g : GP} {a : Nat → Nat} {P : PT} {J : JT} {z : Int32 × HT} {k14_ : Int32 → Int32 → Int32 → HT → Option (Int32 × HT)} (hJ : JX g 4 0 0 (PoI g a P z) J) (hk14 : ∀ (l1 : Int32) (l2 : Int32) (l3 : Int32) (h : HT), k14_ l1 l2 l3 h = some z → Z g mX12_empty J 0 0 14 [some (.ref (a 93)), some (.int l1), some (.int l2), some (.int l3), none, none, none] [] (WD g a h P)) (l1 : Int32) (l2 : Int32) (l3 : Int32) (h : HT) (hf : fX12_empty_69 k14_ l1 l2 l3 h = some z) : Z g mX12_empty J 0 0 69 [some (.ref (a 93)), some (.int l1), some (.int l2), some (.int l3), none, none, none] [] (WD g a h P) := by
  unfold fX12_empty_69 at hf
  refine Z.iconst (n := 70) (v := 0) dX12_empty_69 rfl (by decide +kernel) ?_
  exact zX12_empty_70 hJ hk14 _ _ _ _ _ hf
def fX12_empty_65 (k14_ : Int32 → Int32 → Int32 → HT → Option (Int32 × HT)) (l1 : Int32) (l2 : Int32) (l3 : Int32) (h : HT) : Option (Int32 × HT) :=
  fX12_empty_70 k14_ l1 l2 l3 1 h
set_option maxHeartbeats 4000000 in
theorem zX12_empty_65 {g : GP} {a : Nat → Nat} {P : PT} {J : JT} {z : Int32 × HT} {k14_ : Int32 → Int32 → Int32 → HT → Option (Int32 × HT)} (hJ : JX g 4 0 0 (PoI g a P z) J) (hk14 : ∀ (l1 : Int32) (l2 : Int32) (l3 : Int32) (h : HT), k14_ l1 l2 l3 h = some z → Z g mX12_empty J 0 0 14 [some (.ref (a 93)), some (.int l1), some (.int l2), some (.int l3), none, none, none] [] (WD g a h P)) (l1 : Int32) (l2 : Int32) (l3 : Int32) (h : HT) (hf : fX12_empty_65 k14_ l1 l2 l3 h = some z) : Z g mX12_empty J 0 0 65 [some (.ref (a 93)), some (.int l1), some (.int l2), some (.int l3), none, none, none] [] (WD g a h P) := by
  unfold fX12_empty_65 at hf
  refine Z.iconst (n := 66) (v := 1) dX12_empty_65 rfl (by decide +kernel) ?_
  refine Z.goto (tgt := 70) dX12_empty_66 rfl ?_
  exact zX12_empty_70 hJ hk14 _ _ _ _ _ hf
def fX12_empty_14 : Nat → Int32 → Int32 → Int32 → HT → Option (Int32 × HT)
  | 0, _, _, _, _ => none
  | n + 1, l1, l2, l3, h =>
  if (h 94 0) ≤ l3 then (some (l2, h))
  else (Option.bind (fX12_pactOf l1 l3 h) fun z4 =>
  if l3 = l1 then (fX12_empty_69 (fX12_empty_14  n) l1 l2 l3 z4.2)
  else (Option.bind (fX12_isAlive l1 z4.2) fun z15 =>
  if z15.1 = 0 then (fX12_empty_69 (fX12_empty_14  n) l1 l2 l3 z15.2)
  else (Option.bind (fX12_isAlive l3 z15.2) fun z17 =>
  if z17.1 = 0 then (fX12_empty_69 (fX12_empty_14  n) l1 l2 l3 z17.2)
  else (if z4.1 = 1 then (fX12_empty_65 (fX12_empty_14  n) l1 l2 l3 z17.2)
  else (if z4.1 = 2 then (fX12_empty_65 (fX12_empty_14  n) l1 l2 l3 z17.2)
  else (fX12_empty_69 (fX12_empty_14  n) l1 l2 l3 z17.2))))))
set_option maxHeartbeats 4000000 in
theorem zX12_empty_14 {g : GP} {a : Nat → Nat} {P : PT} {J : JT} {z : Int32 × HT} (hJ : JX g 4 0 0 (PoI g a P z) J) : ∀ (n : Nat) (l1 : Int32) (l2 : Int32) (l3 : Int32) (h : HT), fX12_empty_14 n l1 l2 l3 h = some z → Z g mX12_empty J 0 0 14 [some (.ref (a 93)), some (.int l1), some (.int l2), some (.int l3), none, none, none] [] (WD g a h P) := by
  intro n
  induction n with
  | zero =>
    intro _ _ _ _ hf
    cases hf
  | succ n ih =>
    intro l1 l2 l3 h hf
    unfold fX12_empty_14 at hf
    refine Z.iload_n (n := 15) dX12_empty_14 rfl rfl ?_
    refine Z.aload_n (n := 16) dX12_empty_15 rfl rfl ?_
    refine Z.getf (n := 19) fX12_9 dX12_empty_16 rfl W93 rfl ?_
    refine Z.iconst (n := 20) (v := 0) dX12_empty_19 rfl (by decide +kernel) ?_
    refine Z.iald (j := 0) (n := 21) dX12_empty_20 rfl W94 (by decide +kernel) (by decide) (by decide) ?_
    refine Z.icmp_ge (tgt := 157) (n := 24) dX12_empty_21 rfl rfl (fun c3 => ?_) (fun c3 => ?_)
    · rw [if_pos c3] at hf
      refine Z.iload_n (n := 158) dX12_empty_157 rfl rfl ?_
      have hz := Option.some.inj hf
      subst hz
      exact Z.iret hJ dX12_empty_158 rfl (Nat.le_refl _) (Nat.le_refl _) ⟨rfl, rfl⟩
    · rw [if_neg c3] at hf
      refine Z.aload_n (n := 25) dX12_empty_24 rfl rfl ?_
      refine Z.iload_n (n := 26) dX12_empty_25 rfl rfl ?_
      refine Z.iload_n (n := 27) dX12_empty_26 rfl rfl ?_
      obtain ⟨z4, ez4, hf⟩ := Option.bind_eq_some_iff.mp hf
      refine Z.callV (n := 30) vX12_156 (ctX12_pactOf ez4) hJ.rm (Nat.le_of_ble_eq_true rfl) rfl rfl (Nat.le_refl _) (Nat.le_refl _) rfl W93 rfl rfl (Nat.le_of_ble_eq_true rfl) rfl dX12_empty_27 rfl (fun v w hw => ?_)
      obtain ⟨rfl, rfl⟩ := hw
      show Z _ _ _ _ _ _ _ [.int z4.1] _
      refine Z.istore (n := 32) dX12_empty_30 rfl (by decide) rfl ?_
      refine Z.iload_n (n := 33) dX12_empty_32 rfl rfl ?_
      refine Z.iload_n (n := 34) dX12_empty_33 rfl rfl ?_
      refine Z.icmp_eq (tgt := 69) (n := 37) dX12_empty_34 rfl rfl (fun c5 => ?_) (fun c5 => ?_)
      · rw [if_pos c5] at hf
        refine Z.fg [4] ?_
        exact zX12_empty_69 hJ ih _ _ _ _ hf
      · rw [if_neg c5] at hf
        refine Z.aload_n (n := 38) dX12_empty_37 rfl rfl ?_
        refine Z.iload_n (n := 39) dX12_empty_38 rfl rfl ?_
        obtain ⟨z15, ez15, hf⟩ := Option.bind_eq_some_iff.mp hf
        refine Z.callV (n := 42) vX12_49 (ctX12_isAlive ez15) hJ.rm (Nat.le_of_ble_eq_true rfl) rfl rfl (Nat.le_refl _) (Nat.le_refl _) rfl W93 rfl rfl (Nat.le_of_ble_eq_true rfl) rfl dX12_empty_39 rfl (fun v w hw => ?_)
        obtain ⟨rfl, rfl⟩ := hw
        show Z _ _ _ _ _ _ _ [.int z15.1] _
        refine Z.if_eq (tgt := 69) (n := 45) dX12_empty_42 rfl rfl (fun c16 => ?_) (fun c16 => ?_)
        · rw [if_pos c16] at hf
          refine Z.fg [4] ?_
          exact zX12_empty_69 hJ ih _ _ _ _ hf
        · rw [if_neg c16] at hf
          refine Z.aload_n (n := 46) dX12_empty_45 rfl rfl ?_
          refine Z.iload_n (n := 47) dX12_empty_46 rfl rfl ?_
          obtain ⟨z17, ez17, hf⟩ := Option.bind_eq_some_iff.mp hf
          refine Z.callV (n := 50) vX12_49 (ctX12_isAlive ez17) hJ.rm (Nat.le_of_ble_eq_true rfl) rfl rfl (Nat.le_refl _) (Nat.le_refl _) rfl W93 rfl rfl (Nat.le_of_ble_eq_true rfl) rfl dX12_empty_47 rfl (fun v w hw => ?_)
          obtain ⟨rfl, rfl⟩ := hw
          show Z _ _ _ _ _ _ _ [.int z17.1] _
          refine Z.if_eq (tgt := 69) (n := 53) dX12_empty_50 rfl rfl (fun c18 => ?_) (fun c18 => ?_)
          · rw [if_pos c18] at hf
            refine Z.fg [4] ?_
            exact zX12_empty_69 hJ ih _ _ _ _ hf
          · rw [if_neg c18] at hf
            refine Z.iload (n := 55) dX12_empty_53 rfl rfl ?_
            refine Z.iconst (n := 56) (v := 1) dX12_empty_55 rfl (by decide +kernel) ?_
            refine Z.icmp_eq (tgt := 65) (n := 59) dX12_empty_56 rfl rfl (fun c19 => ?_) (fun c19 => ?_)
            · rw [if_pos c19] at hf
              refine Z.fg [4] ?_
              exact zX12_empty_65 hJ ih _ _ _ _ hf
            · rw [if_neg c19] at hf
              refine Z.iload (n := 61) dX12_empty_59 rfl rfl ?_
              refine Z.iconst (n := 62) (v := 2) dX12_empty_61 rfl (by decide +kernel) ?_
              refine Z.icmp_ne (tgt := 69) (n := 65) dX12_empty_62 rfl rfl (fun c20 => ?_) (fun c20 => ?_)
              · rw [if_neg c20] at hf
                refine Z.fg [4] ?_
                exact zX12_empty_69 hJ ih _ _ _ _ hf
              · rw [if_pos c20] at hf
                refine Z.fg [4] ?_
                exact zX12_empty_65 hJ ih _ _ _ _ hf
def fX12_empty (l1 : Int32) (h : HT) : Option (Int32 × HT) :=
  Option.bind (fX12_isKing l1 h) fun z1 =>
  if z1.1 = 0 then (some ((-1), z1.2))
  else (fX12_empty_14 1000 l1 0 0 z1.2)
set_option maxHeartbeats 4000000 in
theorem ctX12_empty {g : GP} {a : Nat → Nat} {P : PT} {h : HT} {z : Int32 × HT} {l1 : Int32} (hf : fX12_empty l1 h = some z) : Ct g 4 0 0 mX12_empty [.ref (a 93), .int l1] (WD g a h P) (PoI g a P z) := by
  refine Ct.of (by decide +kernel) (Nat.le_of_ble_eq_true rfl) fun J hJ => ?_
  show Z g mX12_empty J 0 0 0 [some (.ref (a 93)), some (.int l1), none, none, none, none, none] [] (WD g a h P)
  unfold fX12_empty at hf
  refine Z.aload_n (n := 1) dX12_empty_0 rfl rfl ?_
  refine Z.iload_n (n := 2) dX12_empty_1 rfl rfl ?_
  obtain ⟨z1, ez1, hf⟩ := Option.bind_eq_some_iff.mp hf
  refine Z.callV (n := 5) vX12_45 (ctX12_isKing ez1) hJ.rm (Nat.le_of_ble_eq_true rfl) rfl rfl (Nat.le_refl _) (Nat.le_refl _) rfl W93 rfl rfl (Nat.le_of_ble_eq_true rfl) rfl dX12_empty_2 rfl (fun v w hw => ?_)
  obtain ⟨rfl, rfl⟩ := hw
  show Z _ _ _ _ _ _ _ [.int z1.1] _
  refine Z.if_ne (tgt := 10) (n := 8) dX12_empty_5 rfl rfl (fun c2 => ?_) (fun c2 => ?_)
  · rw [if_neg c2] at hf
    refine Z.iconst (n := 11) (v := 0) dX12_empty_10 rfl (by decide +kernel) ?_
    refine Z.istore_n (n := 12) dX12_empty_11 rfl (by decide) rfl ?_
    refine Z.iconst (n := 13) (v := 0) dX12_empty_12 rfl (by decide +kernel) ?_
    refine Z.istore_n (n := 14) dX12_empty_13 rfl (by decide) rfl ?_
    exact zX12_empty_14 hJ _ _ _ _ _ hf
  · rw [if_pos c2] at hf
    refine Z.iconst (n := 9) (v := -1) dX12_empty_8 rfl (by decide +kernel) ?_
    have hz := Option.some.inj hf
    subst hz
    exact Z.iret hJ dX12_empty_9 rfl (Nat.le_refl _) (Nat.le_refl _) ⟨rfl, rfl⟩
def fX12_count1_4 : Nat → Int32 → Int32 → Int32 → HT → Option (Int32 × HT)
  | 0, _, _, _, _ => none
  | n + 1, l0, l1, l2, h =>
  if 7 ≤ l2 then (some (l1, h))
  else (fX12_count1_4  n l0 (l1 + ((l0 >>> (l2 &&& 31)) &&& (1 : Int32))) (l2 + 1) h)
set_option maxHeartbeats 4000000 in
theorem zX12_count1_4 {g : GP} {a : Nat → Nat} {P : PT} {J : JT} {z : Int32 × HT} (hJ : JX g 1 0 0 (PoI g a P z) J) : ∀ (n : Nat) (l0 : Int32) (l1 : Int32) (l2 : Int32) (h : HT), fX12_count1_4 n l0 l1 l2 h = some z → Z g mX12_count1 J 0 0 4 [some (.int l0), some (.int l1), some (.int l2)] [] (WD g a h P) := by
  intro n
  induction n with
  | zero =>
    intro _ _ _ _ hf
    cases hf
  | succ n ih =>
    intro l0 l1 l2 h hf
    unfold fX12_count1_4 at hf
    refine Z.iload_n (n := 5) dX12_count1_4 rfl rfl ?_
    refine Z.bipush (n := 7) (v := 7) dX12_count1_5 rfl (by decide +kernel) ?_
    refine Z.icmp_ge (tgt := 24) (n := 10) dX12_count1_7 rfl rfl (fun c1 => ?_) (fun c1 => ?_)
    · rw [if_pos c1] at hf
      refine Z.iload_n (n := 25) dX12_count1_24 rfl rfl ?_
      have hz := Option.some.inj hf
      subst hz
      exact Z.iret hJ dX12_count1_25 rfl (Nat.le_refl _) (Nat.le_refl _) ⟨rfl, rfl⟩
    · rw [if_neg c1] at hf
      refine Z.iload_n (n := 11) dX12_count1_10 rfl rfl ?_
      refine Z.iload_n (n := 12) dX12_count1_11 rfl rfl ?_
      refine Z.iload_n (n := 13) dX12_count1_12 rfl rfl ?_
      refine Z.ishr (n := 14) dX12_count1_13 rfl ?_
      refine Z.iconst (n := 15) (v := 1) dX12_count1_14 rfl (by decide +kernel) ?_
      refine Z.iand (n := 16) dX12_count1_15 rfl ?_
      refine Z.iadd (n := 17) dX12_count1_16 rfl ?_
      refine Z.istore_n (n := 18) dX12_count1_17 rfl (by decide) rfl ?_
      refine Z.iinc (n := 21) (v := l2 + 1) dX12_count1_18 rfl rfl rfl (by decide) rfl ?_
      refine Z.goto (tgt := 4) dX12_count1_21 rfl ?_
      exact ih _ _ _ _ hf
def fX12_count1 (l0 : Int32) (h : HT) : Option (Int32 × HT) :=
  fX12_count1_4 1000 l0 0 0 h
set_option maxHeartbeats 4000000 in
theorem ctX12_count1 {g : GP} {a : Nat → Nat} {P : PT} {h : HT} {z : Int32 × HT} {l0 : Int32} (hf : fX12_count1 l0 h = some z) : Ct g 1 0 0 mX12_count1 [.int l0] (WD g a h P) (PoI g a P z) := by
  refine Ct.of (by decide +kernel) (Nat.le_of_ble_eq_true rfl) fun J hJ => ?_
  show Z g mX12_count1 J 0 0 0 [some (.int l0), none, none] [] (WD g a h P)
  unfold fX12_count1 at hf
  refine Z.iconst (n := 1) (v := 0) dX12_count1_0 rfl (by decide +kernel) ?_
  refine Z.istore_n (n := 2) dX12_count1_1 rfl (by decide) rfl ?_
  refine Z.iconst (n := 3) (v := 0) dX12_count1_2 rfl (by decide +kernel) ?_
  refine Z.istore_n (n := 4) dX12_count1_3 rfl (by decide) rfl ?_
  exact zX12_count1_4 hJ _ _ _ _ _ hf
def fX12_doesDareAny_31 (l2 : Int32) (h : HT) : Option (Int32 × HT) :=
  Option.bind (cb l2) fun u2 =>
  some (l2, h)
set_option maxHeartbeats 4000000 in
theorem zX12_doesDareAny_31 {g : GP} {a : Nat → Nat} {P : PT} {J : JT} {z : Int32 × HT} (hJ : JX g 10 0 0 (PoI g a P z) J) (l2 : Int32) (h : HT) (hf : fX12_doesDareAny_31 l2 h = some z) : Z g mX12_doesDareAny J 0 0 31 [none, none, some (.int l2), none] [] (WD g a h P) := by
  unfold fX12_doesDareAny_31 at hf
  refine Z.iload_n (n := 32) dX12_doesDareAny_31 rfl rfl ?_
  obtain ⟨u2, eu2, hf⟩ := Option.bind_eq_some_iff.mp hf
  have hz := Option.some.inj hf
  subst hz
  exact Z.zret hJ dX12_doesDareAny_32 rfl (cb_nar eu2) (Nat.le_refl _) (Nat.le_refl _) ⟨rfl, rfl⟩
def fX12_doesDareAny_4 : Nat → Int32 → Int32 → Int32 → HT → Option (Int32 × HT)
  | 0, _, _, _, _ => none
  | n + 1, l1, l2, l3, h =>
  if (h 94 0) ≤ l3 then (fX12_doesDareAny_31 l2 h)
  else (if l2 = 0 then (Option.bind (fX12_doesDare l1 l3 h) fun z4 =>
  fX12_doesDareAny_4  n l1 z4.1 (l3 + 1) z4.2)
  else (fX12_doesDareAny_31 l2 h))
set_option maxHeartbeats 4000000 in
theorem zX12_doesDareAny_4 {g : GP} {a : Nat → Nat} {P : PT} {J : JT} {z : Int32 × HT} (hJ : JX g 10 0 0 (PoI g a P z) J) : ∀ (n : Nat) (l1 : Int32) (l2 : Int32) (l3 : Int32) (h : HT), fX12_doesDareAny_4 n l1 l2 l3 h = some z → Z g mX12_doesDareAny J 0 0 4 [some (.ref (a 93)), some (.int l1), some (.int l2), some (.int l3)] [] (WD g a h P) := by
  intro n
  induction n with
  | zero =>
    intro _ _ _ _ hf
    cases hf
  | succ n ih =>
    intro l1 l2 l3 h hf
    unfold fX12_doesDareAny_4 at hf
    refine Z.iload_n (n := 5) dX12_doesDareAny_4 rfl rfl ?_
    refine Z.aload_n (n := 6) dX12_doesDareAny_5 rfl rfl ?_
    refine Z.getf (n := 9) fX12_9 dX12_doesDareAny_6 rfl W93 rfl ?_
    refine Z.iconst (n := 10) (v := 0) dX12_doesDareAny_9 rfl (by decide +kernel) ?_
    refine Z.iald (j := 0) (n := 11) dX12_doesDareAny_10 rfl W94 (by decide +kernel) (by decide) (by decide) ?_
    refine Z.icmp_ge (tgt := 31) (n := 14) dX12_doesDareAny_11 rfl rfl (fun c1 => ?_) (fun c1 => ?_)
    · rw [if_pos c1] at hf
      refine Z.fg [0, 1, 3] ?_
      exact zX12_doesDareAny_31 hJ _ _ hf
    · rw [if_neg c1] at hf
      refine Z.iload_n (n := 15) dX12_doesDareAny_14 rfl rfl ?_
      refine Z.if_ne (tgt := 31) (n := 18) dX12_doesDareAny_15 rfl rfl (fun c3 => ?_) (fun c3 => ?_)
      · rw [if_neg c3] at hf
        refine Z.fg [0, 1, 3] ?_
        exact zX12_doesDareAny_31 hJ _ _ hf
      · rw [if_pos c3] at hf
        refine Z.aload_n (n := 19) dX12_doesDareAny_18 rfl rfl ?_
        refine Z.iload_n (n := 20) dX12_doesDareAny_19 rfl rfl ?_
        refine Z.iload_n (n := 21) dX12_doesDareAny_20 rfl rfl ?_
        obtain ⟨z4, ez4, hf⟩ := Option.bind_eq_some_iff.mp hf
        refine Z.callV (n := 24) vX12_190 (ctX12_doesDare ez4) hJ.rm (Nat.le_of_ble_eq_true rfl) rfl rfl (Nat.le_refl _) (Nat.le_refl _) rfl W93 rfl rfl (Nat.le_of_ble_eq_true rfl) rfl dX12_doesDareAny_21 rfl (fun v w hw => ?_)
        obtain ⟨rfl, rfl⟩ := hw
        show Z _ _ _ _ _ _ _ [.int z4.1] _
        refine Z.istore_n (n := 25) dX12_doesDareAny_24 rfl (by decide) rfl ?_
        refine Z.iinc (n := 28) (v := l3 + 1) dX12_doesDareAny_25 rfl rfl rfl (by decide) rfl ?_
        refine Z.goto (tgt := 4) dX12_doesDareAny_28 rfl ?_
        exact ih _ _ _ _ hf
def fX12_doesDareAny (l1 : Int32) (h : HT) : Option (Int32 × HT) :=
  fX12_doesDareAny_4 1000 l1 0 0 h
set_option maxHeartbeats 4000000 in
theorem ctX12_doesDareAny {g : GP} {a : Nat → Nat} {P : PT} {h : HT} {z : Int32 × HT} {l1 : Int32} (hf : fX12_doesDareAny l1 h = some z) : Ct g 10 0 0 mX12_doesDareAny [.ref (a 93), .int l1] (WD g a h P) (PoI g a P z) := by
  refine Ct.of (by decide +kernel) (Nat.le_of_ble_eq_true rfl) fun J hJ => ?_
  show Z g mX12_doesDareAny J 0 0 0 [some (.ref (a 93)), some (.int l1), none, none] [] (WD g a h P)
  unfold fX12_doesDareAny at hf
  refine Z.iconst (n := 1) (v := 0) dX12_doesDareAny_0 rfl (by decide +kernel) ?_
  refine Z.istore_n (n := 2) dX12_doesDareAny_1 rfl (by decide) rfl ?_
  refine Z.iconst (n := 3) (v := 0) dX12_doesDareAny_2 rfl (by decide +kernel) ?_
  refine Z.istore_n (n := 4) dX12_doesDareAny_3 rfl (by decide) rfl ?_
  exact zX12_doesDareAny_4 hJ _ _ _ _ _ hf
def fX12_wouldHold_79 (k2_ : Int32 → Int32 → HT → Option (Int32 × HT)) (l1 : Int32) (l2 : Int32) (h : HT) : Option (Int32 × HT) :=
  k2_ l1 (l2 + 1) h
set_option maxHeartbeats 4000000 in
theorem zX12_wouldHold_79 {g : GP} {a : Nat → Nat} {P : PT} {J : JT} {z : Int32 × HT} {k2_ : Int32 → Int32 → HT → Option (Int32 × HT)} (hJ : JX g 11 0 0 (PoI g a P z) J) (hk2 : ∀ (l1 : Int32) (l2 : Int32) (h : HT), k2_ l1 l2 h = some z → Z g mX12_wouldHold J 0 0 2 [some (.ref (a 93)), some (.int l1), some (.int l2), none, none, none] [] (WD g a h P)) (l1 : Int32) (l2 : Int32) (h : HT) (hf : fX12_wouldHold_79 k2_ l1 l2 h = some z) : Z g mX12_wouldHold J 0 0 79 [some (.ref (a 93)), some (.int l1), some (.int l2), none, none, none] [] (WD g a h P) := by
  unfold fX12_wouldHold_79 at hf
  refine Z.iinc (n := 82) (v := l2 + 1) dX12_wouldHold_79 rfl rfl rfl (by decide) rfl ?_
  refine Z.goto (tgt := 2) dX12_wouldHold_82 rfl ?_
  exact hk2 _ _ _ hf
def fX12_wouldHold_65 (k2_ : Int32 → Int32 → HT → Option (Int32 × HT)) (l1 : Int32) (l2 : Int32) (l3 : Int32) (l4 : Int32) (h : HT) : Option (Int32 × HT) :=
  Option.bind (ck 7 l2) fun j6 =>
  if l4 = 0 then (fX12_wouldHold_79 k2_ l1 l2 (hu h 99 j6 l3))
  else (some (0, hu h 99 j6 l3))
set_option maxHeartbeats 4000000 in
theorem zX12_wouldHold_65 {g : GP} {a : Nat → Nat} {P : PT} {J : JT} {z : Int32 × HT} {k2_ : Int32 → Int32 → HT → Option (Int32 × HT)} (hJ : JX g 11 0 0 (PoI g a P z) J) (hk2 : ∀ (l1 : Int32) (l2 : Int32) (h : HT), k2_ l1 l2 h = some z → Z g mX12_wouldHold J 0 0 2 [some (.ref (a 93)), some (.int l1), some (.int l2), none, none, none] [] (WD g a h P)) (l1 : Int32) (l2 : Int32) (l3 : Int32) (l4 : Int32) (h : HT) (hf : fX12_wouldHold_65 k2_ l1 l2 l3 l4 h = some z) : Z g mX12_wouldHold J 0 0 65 [some (.ref (a 93)), some (.int l1), some (.int l2), some (.int l3), some (.int l4), none] [] (WD g a h P) := by
  unfold fX12_wouldHold_65 at hf
  refine Z.aload_n (n := 66) dX12_wouldHold_65 rfl rfl ?_
  refine Z.getf (n := 69) fX12_28 dX12_wouldHold_66 rfl W93 rfl ?_
  refine Z.iload_n (n := 70) dX12_wouldHold_69 rfl rfl ?_
  refine Z.iload_n (n := 71) dX12_wouldHold_70 rfl rfl ?_
  obtain ⟨j6, ej6, hf⟩ := Option.bind_eq_some_iff.mp hf
  obtain ⟨hij6, hlj6⟩ := ck_spec ej6
  refine Z.iast (j := j6) (n := 72) dX12_wouldHold_71 rfl W99 hij6 hlj6 (by decide) W99s ?_
  refine Z.iload (n := 74) dX12_wouldHold_72 rfl rfl ?_
  refine Z.if_eq (tgt := 79) (n := 77) dX12_wouldHold_74 rfl rfl (fun c7 => ?_) (fun c7 => ?_)
  · rw [if_pos c7] at hf
    refine Z.fg [3, 4] ?_
    exact zX12_wouldHold_79 hJ hk2 _ _ _ hf
  · rw [if_neg c7] at hf
    refine Z.iconst (n := 78) (v := 0) dX12_wouldHold_77 rfl (by decide +kernel) ?_
    have hz := Option.some.inj hf
    subst hz
    exact Z.zret hJ dX12_wouldHold_78 rfl rfl (Nat.le_refl _) (Nat.le_refl _) ⟨rfl, rfl⟩
def fX12_wouldHold_33 (k2_ : Int32 → Int32 → HT → Option (Int32 × HT)) : Nat → Int32 → Int32 → Int32 → Int32 → Int32 → HT → Option (Int32 × HT)
  | 0, _, _, _, _, _, _ => none
  | n + 1, l1, l2, l3, l4, l5, h =>
  if l1 < l5 then (fX12_wouldHold_65 k2_ l1 l2 l3 l4 h)
  else (if l4 = 0 then (Option.bind (ck 7 l2) fun j9 =>
  Option.bind (fX12_doesDareAny l2 (hu h 99 j9 l5)) fun z10 =>
  fX12_wouldHold_33 k2_ n l1 l2 l3 z10.1 (l5 + 1) z10.2)
  else (fX12_wouldHold_65 k2_ l1 l2 l3 l4 h))
set_option maxHeartbeats 4000000 in
theorem zX12_wouldHold_33 {g : GP} {a : Nat → Nat} {P : PT} {J : JT} {z : Int32 × HT} {k2_ : Int32 → Int32 → HT → Option (Int32 × HT)} (hJ : JX g 11 0 0 (PoI g a P z) J) (hk2 : ∀ (l1 : Int32) (l2 : Int32) (h : HT), k2_ l1 l2 h = some z → Z g mX12_wouldHold J 0 0 2 [some (.ref (a 93)), some (.int l1), some (.int l2), none, none, none] [] (WD g a h P)) : ∀ (n : Nat) (l1 : Int32) (l2 : Int32) (l3 : Int32) (l4 : Int32) (l5 : Int32) (h : HT), fX12_wouldHold_33 k2_ n l1 l2 l3 l4 l5 h = some z → Z g mX12_wouldHold J 0 0 33 [some (.ref (a 93)), some (.int l1), some (.int l2), some (.int l3), some (.int l4), some (.int l5)] [] (WD g a h P) := by
  intro n
  induction n with
  | zero =>
    intro _ _ _ _ _ _ hf
    cases hf
  | succ n ih =>
    intro l1 l2 l3 l4 l5 h hf
    unfold fX12_wouldHold_33 at hf
    refine Z.iload (n := 35) dX12_wouldHold_33 rfl rfl ?_
    refine Z.iload_n (n := 36) dX12_wouldHold_35 rfl rfl ?_
    refine Z.icmp_gt (tgt := 65) (n := 39) dX12_wouldHold_36 rfl rfl (fun c5 => ?_) (fun c5 => ?_)
    · rw [if_pos c5] at hf
      refine Z.fg [5] ?_
      exact zX12_wouldHold_65 hJ hk2 _ _ _ _ _ hf
    · rw [if_neg c5] at hf
      refine Z.iload (n := 41) dX12_wouldHold_39 rfl rfl ?_
      refine Z.if_ne (tgt := 65) (n := 44) dX12_wouldHold_41 rfl rfl (fun c8 => ?_) (fun c8 => ?_)
      · rw [if_neg c8] at hf
        refine Z.fg [5] ?_
        exact zX12_wouldHold_65 hJ hk2 _ _ _ _ _ hf
      · rw [if_pos c8] at hf
        refine Z.aload_n (n := 45) dX12_wouldHold_44 rfl rfl ?_
        refine Z.getf (n := 48) fX12_28 dX12_wouldHold_45 rfl W93 rfl ?_
        refine Z.iload_n (n := 49) dX12_wouldHold_48 rfl rfl ?_
        refine Z.iload (n := 51) dX12_wouldHold_49 rfl rfl ?_
        obtain ⟨j9, ej9, hf⟩ := Option.bind_eq_some_iff.mp hf
        obtain ⟨hij9, hlj9⟩ := ck_spec ej9
        refine Z.iast (j := j9) (n := 52) dX12_wouldHold_51 rfl W99 hij9 hlj9 (by decide) W99s ?_
        refine Z.aload_n (n := 53) dX12_wouldHold_52 rfl rfl ?_
        refine Z.iload_n (n := 54) dX12_wouldHold_53 rfl rfl ?_
        obtain ⟨z10, ez10, hf⟩ := Option.bind_eq_some_iff.mp hf
        refine Z.callV (n := 57) vX12_202 (ctX12_doesDareAny ez10) hJ.rm (Nat.le_of_ble_eq_true rfl) rfl rfl (Nat.le_refl _) (Nat.le_refl _) rfl W93 rfl rfl (Nat.le_of_ble_eq_true rfl) rfl dX12_wouldHold_54 rfl (fun v w hw => ?_)
        obtain ⟨rfl, rfl⟩ := hw
        show Z _ _ _ _ _ _ _ [.int z10.1] _
        refine Z.istore (n := 59) dX12_wouldHold_57 rfl (by decide) rfl ?_
        refine Z.iinc (n := 62) (v := l5 + 1) dX12_wouldHold_59 rfl rfl rfl (by decide) rfl ?_
        refine Z.goto (tgt := 33) dX12_wouldHold_62 rfl ?_
        exact ih _ _ _ _ _ _ hf
def fX12_wouldHold_2 : Nat → Int32 → Int32 → HT → Option (Int32 × HT)
  | 0, _, _, _ => none
  | n + 1, l1, l2, h =>
  if (h 94 0) ≤ l2 then (some (1, h))
  else (Option.bind (fX12_isAlive l2 h) fun z2 =>
  if z2.1 = 0 then (fX12_wouldHold_79 (fX12_wouldHold_2  n) l1 l2 z2.2)
  else (Option.bind (ck 7 l2) fun j4 =>
  fX12_wouldHold_33 (fX12_wouldHold_2  n) 1000 l1 l2 (z2.2 99 j4) 0 0 z2.2))
set_option maxHeartbeats 4000000 in
theorem zX12_wouldHold_2 {g : GP} {a : Nat → Nat} {P : PT} {J : JT} {z : Int32 × HT} (hJ : JX g 11 0 0 (PoI g a P z) J) : ∀ (n : Nat) (l1 : Int32) (l2 : Int32) (h : HT), fX12_wouldHold_2 n l1 l2 h = some z → Z g mX12_wouldHold J 0 0 2 [some (.ref (a 93)), some (.int l1), some (.int l2), none, none, none] [] (WD g a h P) := by
  intro n
  induction n with
  | zero =>
    intro _ _ _ hf
    cases hf
  | succ n ih =>
    intro l1 l2 h hf
    unfold fX12_wouldHold_2 at hf
    refine Z.iload_n (n := 3) dX12_wouldHold_2 rfl rfl ?_
    refine Z.aload_n (n := 4) dX12_wouldHold_3 rfl rfl ?_
    refine Z.getf (n := 7) fX12_9 dX12_wouldHold_4 rfl W93 rfl ?_
    refine Z.iconst (n := 8) (v := 0) dX12_wouldHold_7 rfl (by decide +kernel) ?_
    refine Z.iald (j := 0) (n := 9) dX12_wouldHold_8 rfl W94 (by decide +kernel) (by decide) (by decide) ?_
    refine Z.icmp_ge (tgt := 85) (n := 12) dX12_wouldHold_9 rfl rfl (fun c1 => ?_) (fun c1 => ?_)
    · rw [if_pos c1] at hf
      refine Z.iconst (n := 86) (v := 1) dX12_wouldHold_85 rfl (by decide +kernel) ?_
      have hz := Option.some.inj hf
      subst hz
      exact Z.zret hJ dX12_wouldHold_86 rfl rfl (Nat.le_refl _) (Nat.le_refl _) ⟨rfl, rfl⟩
    · rw [if_neg c1] at hf
      refine Z.aload_n (n := 13) dX12_wouldHold_12 rfl rfl ?_
      refine Z.iload_n (n := 14) dX12_wouldHold_13 rfl rfl ?_
      obtain ⟨z2, ez2, hf⟩ := Option.bind_eq_some_iff.mp hf
      refine Z.callV (n := 17) vX12_49 (ctX12_isAlive ez2) hJ.rm (Nat.le_of_ble_eq_true rfl) rfl rfl (Nat.le_refl _) (Nat.le_refl _) rfl W93 rfl rfl (Nat.le_of_ble_eq_true rfl) rfl dX12_wouldHold_14 rfl (fun v w hw => ?_)
      obtain ⟨rfl, rfl⟩ := hw
      show Z _ _ _ _ _ _ _ [.int z2.1] _
      refine Z.if_eq (tgt := 79) (n := 20) dX12_wouldHold_17 rfl rfl (fun c3 => ?_) (fun c3 => ?_)
      · rw [if_pos c3] at hf
        exact zX12_wouldHold_79 hJ ih _ _ _ hf
      · rw [if_neg c3] at hf
        refine Z.aload_n (n := 21) dX12_wouldHold_20 rfl rfl ?_
        refine Z.getf (n := 24) fX12_28 dX12_wouldHold_21 rfl W93 rfl ?_
        refine Z.iload_n (n := 25) dX12_wouldHold_24 rfl rfl ?_
        obtain ⟨j4, ej4, hf⟩ := Option.bind_eq_some_iff.mp hf
        obtain ⟨hij4, hlj4⟩ := ck_spec ej4
        refine Z.iald (j := j4) (n := 26) dX12_wouldHold_25 rfl W99 hij4 hlj4 (by decide) ?_
        refine Z.istore_n (n := 27) dX12_wouldHold_26 rfl (by decide) rfl ?_
        refine Z.iconst (n := 28) (v := 0) dX12_wouldHold_27 rfl (by decide +kernel) ?_
        refine Z.istore (n := 30) dX12_wouldHold_28 rfl (by decide) rfl ?_
        refine Z.iconst (n := 31) (v := 0) dX12_wouldHold_30 rfl (by decide +kernel) ?_
        refine Z.istore (n := 33) dX12_wouldHold_31 rfl (by decide) rfl ?_
        exact zX12_wouldHold_33 hJ ih _ _ _ _ _ _ _ hf
def fX12_wouldHold (l1 : Int32) (h : HT) : Option (Int32 × HT) :=
  fX12_wouldHold_2 1000 l1 0 h
set_option maxHeartbeats 4000000 in
theorem ctX12_wouldHold {g : GP} {a : Nat → Nat} {P : PT} {h : HT} {z : Int32 × HT} {l1 : Int32} (hf : fX12_wouldHold l1 h = some z) : Ct g 11 0 0 mX12_wouldHold [.ref (a 93), .int l1] (WD g a h P) (PoI g a P z) := by
  refine Ct.of (by decide +kernel) (Nat.le_of_ble_eq_true rfl) fun J hJ => ?_
  show Z g mX12_wouldHold J 0 0 0 [some (.ref (a 93)), some (.int l1), none, none, none, none] [] (WD g a h P)
  unfold fX12_wouldHold at hf
  refine Z.iconst (n := 1) (v := 0) dX12_wouldHold_0 rfl (by decide +kernel) ?_
  refine Z.istore_n (n := 2) dX12_wouldHold_1 rfl (by decide) rfl ?_
  exact zX12_wouldHold_2 hJ _ _ _ _ hf
def fX12_partsb_179 (rec_X12_parts : Int32 → Int32 → HT → Option (Int32 × HT)) (k151_ : Int32 → Int32 → Int32 → HT → Option (Int32 × HT)) (l1 : Int32) (l2 : Int32) (l3 : Int32) (s0 : Int32) (s1 : Int32) (h : HT) : Option (Int32 × HT) :=
  Option.bind (rec_X12_parts s1 s0 h) fun z7 =>
  k151_ l1 l2 (l3 + 1) z7.2
set_option maxHeartbeats 4000000 in
theorem zX12_partsb_179 {g : GP} {a : Nat → Nat} {P : PT} {J : JT} {z : Int32 × HT} {rec_X12_parts : Int32 → Int32 → HT → Option (Int32 × HT)} {dr : Nat} {k151_ : Int32 → Int32 → Int32 → HT → Option (Int32 × HT)} (hJ : JX g (dr + 12) 0 0 (PoV g a P z) J) (hrec_X12_parts : ∀ (l1 l2 : Int32) (h : HT) (z : Int32 × HT), rec_X12_parts l1 l2 h = some z → Ct g dr 0 0 mX12_parts [.ref (a 93), .int l1, .int l2] (WD g a h P) (PoV g a P z)) (hk151 : ∀ (l1 : Int32) (l2 : Int32) (l3 : Int32) (h : HT), k151_ l1 l2 l3 h = some z → Z g mX12_parts J 0 0 151 [some (.ref (a 93)), some (.int l1), some (.int l2), some (.int l3), none] [] (WD g a h P)) (l1 : Int32) (l2 : Int32) (l3 : Int32) (s0 : Int32) (s1 : Int32) (h : HT) (hf : fX12_partsb_179 rec_X12_parts k151_ l1 l2 l3 s0 s1 h = some z) : Z g mX12_parts J 0 0 179 [some (.ref (a 93)), some (.int l1), some (.int l2), some (.int l3), none] [.int s0, .int s1, .ref (a 93)] (WD g a h P) := by
  unfold fX12_partsb_179 at hf
  obtain ⟨z7, ez7, hf⟩ := Option.bind_eq_some_iff.mp hf
  refine Z.callV (n := 182) vX12_229 (hrec_X12_parts _ _ _ _ ez7) hJ.rm (by omega) rfl rfl (Nat.le_refl _) (Nat.le_refl _) rfl W93 rfl rfl (Nat.le_of_ble_eq_true rfl) rfl dX12_parts_179 rfl (fun v w hw => ?_)
  obtain ⟨rfl, rfl⟩ := hw
  show Z _ _ _ _ _ _ _ [] _
  refine Z.iinc (n := 185) (v := l3 + 1) dX12_parts_182 rfl rfl rfl (by decide) rfl ?_
  refine Z.goto (tgt := 151) dX12_parts_185 rfl ?_
  exact hk151 _ _ _ _ hf
def fX12_partsb_151 (rec_X12_parts : Int32 → Int32 → HT → Option (Int32 × HT)) : Nat → Int32 → Int32 → Int32 → HT → Option (Int32 × HT)
  | 0, _, _, _, _ => none
  | n + 1, l1, l2, l3, h =>
  if l2 < l3 then (some (0, h))
  else (Option.bind (ck 7 l1) fun j5 =>
  if l3 = l2 then (fX12_partsb_179 rec_X12_parts (fX12_partsb_151 rec_X12_parts  n) l1 l2 l3 (l2 + (1 : Int32)) (l1 + (1 : Int32)) (hu h 99 j5 l3))
  else (fX12_partsb_179 rec_X12_parts (fX12_partsb_151 rec_X12_parts  n) l1 l2 l3 l2 (l1 + (1 : Int32)) (hu h 99 j5 l3)))
set_option maxHeartbeats 4000000 in
theorem zX12_partsb_151 {g : GP} {a : Nat → Nat} {P : PT} {J : JT} {z : Int32 × HT} {rec_X12_parts : Int32 → Int32 → HT → Option (Int32 × HT)} {dr : Nat} (hJ : JX g (dr + 12) 0 0 (PoV g a P z) J) (hrec_X12_parts : ∀ (l1 l2 : Int32) (h : HT) (z : Int32 × HT), rec_X12_parts l1 l2 h = some z → Ct g dr 0 0 mX12_parts [.ref (a 93), .int l1, .int l2] (WD g a h P) (PoV g a P z)) : ∀ (n : Nat) (l1 : Int32) (l2 : Int32) (l3 : Int32) (h : HT), fX12_partsb_151 rec_X12_parts n l1 l2 l3 h = some z → Z g mX12_parts J 0 0 151 [some (.ref (a 93)), some (.int l1), some (.int l2), some (.int l3), none] [] (WD g a h P) := by
  intro n
  induction n with
  | zero =>
    intro _ _ _ _ hf
    cases hf
  | succ n ih =>
    intro l1 l2 l3 h hf
    unfold fX12_partsb_151 at hf
    refine Z.iload_n (n := 152) dX12_parts_151 rfl rfl ?_
    refine Z.iload_n (n := 153) dX12_parts_152 rfl rfl ?_
    refine Z.icmp_gt (tgt := 188) (n := 156) dX12_parts_153 rfl rfl (fun c4 => ?_) (fun c4 => ?_)
    · rw [if_pos c4] at hf
      have hz := Option.some.inj hf
      subst hz
      exact Z.vret hJ dX12_parts_188 rfl (Nat.le_refl _) (Nat.le_refl _) ⟨rfl, rfl⟩
    · rw [if_neg c4] at hf
      refine Z.aload_n (n := 157) dX12_parts_156 rfl rfl ?_
      refine Z.getf (n := 160) fX12_28 dX12_parts_157 rfl W93 rfl ?_
      refine Z.iload_n (n := 161) dX12_parts_160 rfl rfl ?_
      refine Z.iload_n (n := 162) dX12_parts_161 rfl rfl ?_
      obtain ⟨j5, ej5, hf⟩ := Option.bind_eq_some_iff.mp hf
      obtain ⟨hij5, hlj5⟩ := ck_spec ej5
      refine Z.iast (j := j5) (n := 163) dX12_parts_162 rfl W99 hij5 hlj5 (by decide) W99s ?_
      refine Z.aload_n (n := 164) dX12_parts_163 rfl rfl ?_
      refine Z.iload_n (n := 165) dX12_parts_164 rfl rfl ?_
      refine Z.iconst (n := 166) (v := 1) dX12_parts_165 rfl (by decide +kernel) ?_
      refine Z.iadd (n := 167) dX12_parts_166 rfl ?_
      refine Z.iload_n (n := 168) dX12_parts_167 rfl rfl ?_
      refine Z.iload_n (n := 169) dX12_parts_168 rfl rfl ?_
      refine Z.icmp_ne (tgt := 178) (n := 172) dX12_parts_169 rfl rfl (fun c6 => ?_) (fun c6 => ?_)
      · rw [if_neg c6] at hf
        refine Z.iload_n (n := 179) dX12_parts_178 rfl rfl ?_
        exact zX12_partsb_179 hJ hrec_X12_parts ih _ _ _ _ _ _ hf
      · rw [if_pos c6] at hf
        refine Z.iload_n (n := 173) dX12_parts_172 rfl rfl ?_
        refine Z.iconst (n := 174) (v := 1) dX12_parts_173 rfl (by decide +kernel) ?_
        refine Z.iadd (n := 175) dX12_parts_174 rfl ?_
        refine Z.goto (tgt := 179) dX12_parts_175 rfl ?_
        exact zX12_partsb_179 hJ hrec_X12_parts ih _ _ _ _ _ _ hf
def fX12_partsb_123 (rec_X12_parts : Int32 → Int32 → HT → Option (Int32 × HT)) (h : HT) : Option (Int32 × HT) :=
  some (0, h)
set_option maxHeartbeats 4000000 in
theorem zX12_partsb_123 {g : GP} {a : Nat → Nat} {P : PT} {J : JT} {z : Int32 × HT} {rec_X12_parts : Int32 → Int32 → HT → Option (Int32 × HT)} {dr : Nat} (hJ : JX g (dr + 12) 0 0 (PoV g a P z) J) (hrec_X12_parts : ∀ (l1 l2 : Int32) (h : HT) (z : Int32 × HT), rec_X12_parts l1 l2 h = some z → Ct g dr 0 0 mX12_parts [.ref (a 93), .int l1, .int l2] (WD g a h P) (PoV g a P z)) (h : HT) (hf : fX12_partsb_123 rec_X12_parts h = some z) : Z g mX12_parts J 0 0 123 [none, none, none, none, none] [] (WD g a h P) := by
  unfold fX12_partsb_123 at hf
  have hz := Option.some.inj hf
  subst hz
  exact Z.vret hJ dX12_parts_123 rfl (Nat.le_refl _) (Nat.le_refl _) ⟨rfl, rfl⟩
def fX12_partsb_119 (rec_X12_parts : Int32 → Int32 → HT → Option (Int32 × HT)) (s0 : Int32) (s1 : Int32) (h : HT) : Option (Int32 × HT) :=
  fX12_partsb_123 rec_X12_parts (hu h 93 21 (s1 + s0))
set_option maxHeartbeats 4000000 in
theorem zX12_partsb_119 {g : GP} {a : Nat → Nat} {P : PT} {J : JT} {z : Int32 × HT} {rec_X12_parts : Int32 → Int32 → HT → Option (Int32 × HT)} {dr : Nat} (hJ : JX g (dr + 12) 0 0 (PoV g a P z) J) (hrec_X12_parts : ∀ (l1 l2 : Int32) (h : HT) (z : Int32 × HT), rec_X12_parts l1 l2 h = some z → Ct g dr 0 0 mX12_parts [.ref (a 93), .int l1, .int l2] (WD g a h P) (PoV g a P z)) (s0 : Int32) (s1 : Int32) (h : HT) (hf : fX12_partsb_119 rec_X12_parts s0 s1 h = some z) : Z g mX12_parts J 0 0 119 [none, none, none, none, none] [.int s0, .int s1, .ref (a 93)] (WD g a h P) := by
  unfold fX12_partsb_119 at hf
  refine Z.iadd (n := 120) dX12_parts_119 rfl ?_
  refine Z.putf (n := 123) pX12_214 dX12_parts_120 rfl W93 (Nat.le_of_ble_eq_true rfl) rfl rfl W93s_21 ?_
  exact zX12_partsb_123 hJ hrec_X12_parts _ hf
def fX12_partsb_92 (rec_X12_parts : Int32 → Int32 → HT → Option (Int32 × HT)) (l3 : Int32) (s0 : Int32) (h : HT) : Option (Int32 × HT) :=
  if l3 = 0 then (fX12_partsb_119 rec_X12_parts 0 ((hu (hu h 93 25 s0) 93 20 (((hu h 93 25 s0) 93 20) + (1 : Int32))) 93 21) (hu (hu h 93 25 s0) 93 20 (((hu h 93 25 s0) 93 20) + (1 : Int32))))
  else (fX12_partsb_119 rec_X12_parts 1 ((hu (hu h 93 25 s0) 93 20 (((hu h 93 25 s0) 93 20) + (1 : Int32))) 93 21) (hu (hu h 93 25 s0) 93 20 (((hu h 93 25 s0) 93 20) + (1 : Int32))))
set_option maxHeartbeats 4000000 in
theorem zX12_partsb_92 {g : GP} {a : Nat → Nat} {P : PT} {J : JT} {z : Int32 × HT} {rec_X12_parts : Int32 → Int32 → HT → Option (Int32 × HT)} {dr : Nat} (hJ : JX g (dr + 12) 0 0 (PoV g a P z) J) (hrec_X12_parts : ∀ (l1 l2 : Int32) (h : HT) (z : Int32 × HT), rec_X12_parts l1 l2 h = some z → Ct g dr 0 0 mX12_parts [.ref (a 93), .int l1, .int l2] (WD g a h P) (PoV g a P z)) (l3 : Int32) (s0 : Int32) (h : HT) (hf : fX12_partsb_92 rec_X12_parts l3 s0 h = some z) : Z g mX12_parts J 0 0 92 [some (.ref (a 93)), none, none, some (.int l3), none] [.int s0, .ref (a 93)] (WD g a h P) := by
  unfold fX12_partsb_92 at hf
  refine Z.putf (n := 95) pX12_226 dX12_parts_92 rfl W93 (Nat.le_of_ble_eq_true rfl) rfl rfl W93s_25 ?_
  refine Z.aload_n (n := 96) dX12_parts_95 rfl rfl ?_
  refine Z.dup (n := 97) dX12_parts_96 rfl rfl ?_
  refine Z.getf (n := 100) fX12_217 dX12_parts_97 rfl W93 rfl ?_
  refine Z.iconst (n := 101) (v := 1) dX12_parts_100 rfl (by decide +kernel) ?_
  refine Z.iadd (n := 102) dX12_parts_101 rfl ?_
  refine Z.putf (n := 105) pX12_217 dX12_parts_102 rfl W93 (Nat.le_of_ble_eq_true rfl) rfl rfl W93s_20 ?_
  refine Z.aload_n (n := 106) dX12_parts_105 rfl rfl ?_
  refine Z.dup (n := 107) dX12_parts_106 rfl rfl ?_
  refine Z.getf (n := 110) fX12_214 dX12_parts_107 rfl W93 rfl ?_
  refine Z.iload_n (n := 111) dX12_parts_110 rfl rfl ?_
  refine Z.if_eq (tgt := 118) (n := 114) dX12_parts_111 rfl rfl (fun c15 => ?_) (fun c15 => ?_)
  · rw [if_pos c15] at hf
    refine Z.iconst (n := 119) (v := 0) dX12_parts_118 rfl (by decide +kernel) ?_
    refine Z.fg [0, 3] ?_
    exact zX12_partsb_119 hJ hrec_X12_parts _ _ _ hf
  · rw [if_neg c15] at hf
    refine Z.iconst (n := 115) (v := 1) dX12_parts_114 rfl (by decide +kernel) ?_
    refine Z.goto (tgt := 119) dX12_parts_115 rfl ?_
    refine Z.fg [0, 3] ?_
    exact zX12_partsb_119 hJ hrec_X12_parts _ _ _ hf
def fX12_partsb_88 (rec_X12_parts : Int32 → Int32 → HT → Option (Int32 × HT)) (l3 : Int32) (h : HT) : Option (Int32 × HT) :=
  fX12_partsb_92 rec_X12_parts l3 (h 93 25) h
set_option maxHeartbeats 4000000 in
theorem zX12_partsb_88 {g : GP} {a : Nat → Nat} {P : PT} {J : JT} {z : Int32 × HT} {rec_X12_parts : Int32 → Int32 → HT → Option (Int32 × HT)} {dr : Nat} (hJ : JX g (dr + 12) 0 0 (PoV g a P z) J) (hrec_X12_parts : ∀ (l1 l2 : Int32) (h : HT) (z : Int32 × HT), rec_X12_parts l1 l2 h = some z → Ct g dr 0 0 mX12_parts [.ref (a 93), .int l1, .int l2] (WD g a h P) (PoV g a P z)) (l3 : Int32) (h : HT) (hf : fX12_partsb_88 rec_X12_parts l3 h = some z) : Z g mX12_parts J 0 0 88 [some (.ref (a 93)), none, none, some (.int l3), none] [.ref (a 93)] (WD g a h P) := by
  unfold fX12_partsb_88 at hf
  refine Z.aload_n (n := 89) dX12_parts_88 rfl rfl ?_
  refine Z.getf (n := 92) fX12_226 dX12_parts_89 rfl W93 rfl ?_
  exact zX12_partsb_92 hJ hrec_X12_parts _ _ _ hf
def fX12_partsb_76 (rec_X12_parts : Int32 → Int32 → HT → Option (Int32 × HT)) (l3 : Int32) (h : HT) : Option (Int32 × HT) :=
  Option.bind (ck 7 (h 93 23)) fun j17 =>
  fX12_partsb_92 rec_X12_parts l3 (h 99 j17) h
set_option maxHeartbeats 4000000 in
theorem zX12_partsb_76 {g : GP} {a : Nat → Nat} {P : PT} {J : JT} {z : Int32 × HT} {rec_X12_parts : Int32 → Int32 → HT → Option (Int32 × HT)} {dr : Nat} (hJ : JX g (dr + 12) 0 0 (PoV g a P z) J) (hrec_X12_parts : ∀ (l1 l2 : Int32) (h : HT) (z : Int32 × HT), rec_X12_parts l1 l2 h = some z → Ct g dr 0 0 mX12_parts [.ref (a 93), .int l1, .int l2] (WD g a h P) (PoV g a P z)) (l3 : Int32) (h : HT) (hf : fX12_partsb_76 rec_X12_parts l3 h = some z) : Z g mX12_parts J 0 0 76 [some (.ref (a 93)), none, none, some (.int l3), none] [.ref (a 93)] (WD g a h P) := by
  unfold fX12_partsb_76 at hf
  refine Z.aload_n (n := 77) dX12_parts_76 rfl rfl ?_
  refine Z.getf (n := 80) fX12_28 dX12_parts_77 rfl W93 rfl ?_
  refine Z.aload_n (n := 81) dX12_parts_80 rfl rfl ?_
  refine Z.getf (n := 84) fX12_223 dX12_parts_81 rfl W93 rfl ?_
  obtain ⟨j17, ej17, hf⟩ := Option.bind_eq_some_iff.mp hf
  obtain ⟨hij17, hlj17⟩ := ck_spec ej17
  refine Z.iald (j := j17) (n := 85) dX12_parts_84 rfl W99 hij17 hlj17 (by decide) ?_
  refine Z.goto (tgt := 92) dX12_parts_85 rfl ?_
  exact zX12_partsb_92 hJ hrec_X12_parts _ _ _ hf
def fX12_partsb_53 (rec_X12_parts : Int32 → Int32 → HT → Option (Int32 × HT)) (l3 : Int32) (s0 : Int32) (h : HT) : Option (Int32 × HT) :=
  if s0 = (h 93 22) then (if l3 = 0 then (if (h 93 24) = 0 then (fX12_partsb_76 rec_X12_parts l3 h)
  else (fX12_partsb_88 rec_X12_parts l3 h))
  else (fX12_partsb_76 rec_X12_parts l3 h))
  else (fX12_partsb_88 rec_X12_parts l3 h)
set_option maxHeartbeats 4000000 in
theorem zX12_partsb_53 {g : GP} {a : Nat → Nat} {P : PT} {J : JT} {z : Int32 × HT} {rec_X12_parts : Int32 → Int32 → HT → Option (Int32 × HT)} {dr : Nat} (hJ : JX g (dr + 12) 0 0 (PoV g a P z) J) (hrec_X12_parts : ∀ (l1 l2 : Int32) (h : HT) (z : Int32 × HT), rec_X12_parts l1 l2 h = some z → Ct g dr 0 0 mX12_parts [.ref (a 93), .int l1, .int l2] (WD g a h P) (PoV g a P z)) (l3 : Int32) (s0 : Int32) (h : HT) (hf : fX12_partsb_53 rec_X12_parts l3 s0 h = some z) : Z g mX12_parts J 0 0 53 [some (.ref (a 93)), none, none, some (.int l3), none] [.int s0] (WD g a h P) := by
  unfold fX12_partsb_53 at hf
  refine Z.istore (n := 55) dX12_parts_53 rfl (by decide) rfl ?_
  refine Z.aload_n (n := 56) dX12_parts_55 rfl rfl ?_
  refine Z.iload (n := 58) dX12_parts_56 rfl rfl ?_
  refine Z.aload_n (n := 59) dX12_parts_58 rfl rfl ?_
  refine Z.getf (n := 62) fX12_220 dX12_parts_59 rfl W93 rfl ?_
  refine Z.icmp_ne (tgt := 88) (n := 65) dX12_parts_62 rfl rfl (fun c14 => ?_) (fun c14 => ?_)
  · rw [if_neg c14] at hf
    refine Z.fg [4] ?_
    exact zX12_partsb_88 hJ hrec_X12_parts _ _ hf
  · rw [if_pos c14] at hf
    refine Z.iload_n (n := 66) dX12_parts_65 rfl rfl ?_
    refine Z.if_ne (tgt := 76) (n := 69) dX12_parts_66 rfl rfl (fun c16 => ?_) (fun c16 => ?_)
    · rw [if_neg c16] at hf
      refine Z.fg [4] ?_
      exact zX12_partsb_76 hJ hrec_X12_parts _ _ hf
    · rw [if_pos c16] at hf
      refine Z.aload_n (n := 70) dX12_parts_69 rfl rfl ?_
      refine Z.getf (n := 73) fX12_211 dX12_parts_70 rfl W93 rfl ?_
      refine Z.if_ne (tgt := 88) (n := 76) dX12_parts_73 rfl rfl (fun c18 => ?_) (fun c18 => ?_)
      · rw [if_neg c18] at hf
        refine Z.fg [4] ?_
        exact zX12_partsb_88 hJ hrec_X12_parts _ _ hf
      · rw [if_pos c18] at hf
        refine Z.fg [4] ?_
        exact zX12_partsb_76 hJ hrec_X12_parts _ _ hf
def fX12_partsb (rec_X12_parts : Int32 → Int32 → HT → Option (Int32 × HT)) (l1 : Int32) (l2 : Int32) (h : HT) : Option (Int32 × HT) :=
  if l1 = (h 94 0) then (Option.bind (fX12_firstWar  (hu h 93 19 ((h 93 19) + (1 : Int32)))) fun z10 =>
  if z10.1 = (-5) then (Option.bind (fX12_wouldHold l2 z10.2) fun z12 =>
  if (z12.2 93 24) = 0 then (fX12_partsb_53 rec_X12_parts z12.1 (z12.2 93 20) z12.2)
  else (fX12_partsb_53 rec_X12_parts z12.1 (z12.2 93 21) z12.2))
  else (fX12_partsb_123 rec_X12_parts z10.2))
  else (Option.bind (fX12_isAlive l1 h) fun z2 =>
  if z2.1 = 0 then (Option.bind (ck 7 l1) fun j8 =>
  Option.bind (rec_X12_parts (l1 + (1 : Int32)) l2 (hu z2.2 99 j8 9)) fun z9 =>
  some (0, z9.2))
  else (fX12_partsb_151 rec_X12_parts 1000 l1 l2 0 z2.2))
set_option maxHeartbeats 4000000 in
theorem ctX12_partsb {g : GP} {a : Nat → Nat} {P : PT} {h : HT} {z : Int32 × HT} {rec_X12_parts : Int32 → Int32 → HT → Option (Int32 × HT)} {dr : Nat} {l1 : Int32} {l2 : Int32} (hrec_X12_parts : ∀ (l1 l2 : Int32) (h : HT) (z : Int32 × HT), rec_X12_parts l1 l2 h = some z → Ct g dr 0 0 mX12_parts [.ref (a 93), .int l1, .int l2] (WD g a h P) (PoV g a P z)) (hf : fX12_partsb rec_X12_parts l1 l2 h = some z) : Ct g (dr + 12) 0 0 mX12_parts [.ref (a 93), .int l1, .int l2] (WD g a h P) (PoV g a P z) := by
  refine Ct.of (by decide +kernel) (Nat.le_of_ble_eq_true rfl) fun J hJ => ?_
  show Z g mX12_parts J 0 0 0 [some (.ref (a 93)), some (.int l1), some (.int l2), none, none] [] (WD g a h P)
  unfold fX12_partsb at hf
  refine Z.iload_n (n := 1) dX12_parts_0 rfl rfl ?_
  refine Z.aload_n (n := 2) dX12_parts_1 rfl rfl ?_
  refine Z.getf (n := 5) fX12_9 dX12_parts_2 rfl W93 rfl ?_
  refine Z.iconst (n := 6) (v := 0) dX12_parts_5 rfl (by decide +kernel) ?_
  refine Z.iald (j := 0) (n := 7) dX12_parts_6 rfl W94 (by decide +kernel) (by decide) (by decide) ?_
  refine Z.icmp_ne (tgt := 124) (n := 10) dX12_parts_7 rfl rfl (fun c1 => ?_) (fun c1 => ?_)
  · rw [if_neg c1] at hf
    refine Z.aload_n (n := 125) dX12_parts_124 rfl rfl ?_
    refine Z.iload_n (n := 126) dX12_parts_125 rfl rfl ?_
    obtain ⟨z2, ez2, hf⟩ := Option.bind_eq_some_iff.mp hf
    refine Z.callV (n := 129) vX12_49 (ctX12_isAlive ez2) hJ.rm (Nat.le_of_ble_eq_true rfl) rfl rfl (Nat.le_refl _) (Nat.le_refl _) rfl W93 rfl rfl (Nat.le_of_ble_eq_true rfl) rfl dX12_parts_126 rfl (fun v w hw => ?_)
    obtain ⟨rfl, rfl⟩ := hw
    show Z _ _ _ _ _ _ _ [.int z2.1] _
    refine Z.if_ne (tgt := 149) (n := 132) dX12_parts_129 rfl rfl (fun c3 => ?_) (fun c3 => ?_)
    · rw [if_neg c3] at hf
      refine Z.iconst (n := 150) (v := 0) dX12_parts_149 rfl (by decide +kernel) ?_
      refine Z.istore_n (n := 151) dX12_parts_150 rfl (by decide) rfl ?_
      exact zX12_partsb_151 hJ hrec_X12_parts _ _ _ _ _ hf
    · rw [if_pos c3] at hf
      refine Z.aload_n (n := 133) dX12_parts_132 rfl rfl ?_
      refine Z.getf (n := 136) fX12_28 dX12_parts_133 rfl W93 rfl ?_
      refine Z.iload_n (n := 137) dX12_parts_136 rfl rfl ?_
      refine Z.bipush (n := 139) (v := 9) dX12_parts_137 rfl (by decide +kernel) ?_
      obtain ⟨j8, ej8, hf⟩ := Option.bind_eq_some_iff.mp hf
      obtain ⟨hij8, hlj8⟩ := ck_spec ej8
      refine Z.iast (j := j8) (n := 140) dX12_parts_139 rfl W99 hij8 hlj8 (by decide) W99s ?_
      refine Z.aload_n (n := 141) dX12_parts_140 rfl rfl ?_
      refine Z.iload_n (n := 142) dX12_parts_141 rfl rfl ?_
      refine Z.iconst (n := 143) (v := 1) dX12_parts_142 rfl (by decide +kernel) ?_
      refine Z.iadd (n := 144) dX12_parts_143 rfl ?_
      refine Z.iload_n (n := 145) dX12_parts_144 rfl rfl ?_
      obtain ⟨z9, ez9, hf⟩ := Option.bind_eq_some_iff.mp hf
      refine Z.callV (n := 148) vX12_229 (hrec_X12_parts _ _ _ _ ez9) hJ.rm (by omega) rfl rfl (Nat.le_refl _) (Nat.le_refl _) rfl W93 rfl rfl (Nat.le_of_ble_eq_true rfl) rfl dX12_parts_145 rfl (fun v w hw => ?_)
      obtain ⟨rfl, rfl⟩ := hw
      show Z _ _ _ _ _ _ _ [] _
      have hz := Option.some.inj hf
      subst hz
      exact Z.vret hJ dX12_parts_148 rfl (Nat.le_refl _) (Nat.le_refl _) ⟨rfl, rfl⟩
  · rw [if_pos c1] at hf
    refine Z.aload_n (n := 11) dX12_parts_10 rfl rfl ?_
    refine Z.dup (n := 12) dX12_parts_11 rfl rfl ?_
    refine Z.getf (n := 15) fX12_205 dX12_parts_12 rfl W93 rfl ?_
    refine Z.iconst (n := 16) (v := 1) dX12_parts_15 rfl (by decide +kernel) ?_
    refine Z.iadd (n := 17) dX12_parts_16 rfl ?_
    refine Z.putf (n := 20) pX12_205 dX12_parts_17 rfl W93 (Nat.le_of_ble_eq_true rfl) rfl rfl W93s_19 ?_
    refine Z.aload_n (n := 21) dX12_parts_20 rfl rfl ?_
    obtain ⟨z10, ez10, hf⟩ := Option.bind_eq_some_iff.mp hf
    refine Z.callV (n := 24) vX12_196 (ctX12_firstWar ez10) hJ.rm (Nat.le_of_ble_eq_true rfl) rfl rfl (Nat.le_refl _) (Nat.le_refl _) rfl W93 rfl rfl (Nat.le_of_ble_eq_true rfl) rfl dX12_parts_21 rfl (fun v w hw => ?_)
    obtain ⟨rfl, rfl⟩ := hw
    show Z _ _ _ _ _ _ _ [.int z10.1] _
    refine Z.bipush (n := 26) (v := -5) dX12_parts_24 rfl (by decide +kernel) ?_
    refine Z.icmp_ne (tgt := 123) (n := 29) dX12_parts_26 rfl rfl (fun c11 => ?_) (fun c11 => ?_)
    · rw [if_neg c11] at hf
      refine Z.fg [0, 1, 2] ?_
      exact zX12_partsb_123 hJ hrec_X12_parts _ hf
    · rw [if_pos c11] at hf
      refine Z.aload_n (n := 30) dX12_parts_29 rfl rfl ?_
      refine Z.iload_n (n := 31) dX12_parts_30 rfl rfl ?_
      obtain ⟨z12, ez12, hf⟩ := Option.bind_eq_some_iff.mp hf
      refine Z.callV (n := 34) vX12_208 (ctX12_wouldHold ez12) hJ.rm (Nat.le_of_ble_eq_true rfl) rfl rfl (Nat.le_refl _) (Nat.le_refl _) rfl W93 rfl rfl (Nat.le_of_ble_eq_true rfl) rfl dX12_parts_31 rfl (fun v w hw => ?_)
      obtain ⟨rfl, rfl⟩ := hw
      show Z _ _ _ _ _ _ _ [.int z12.1] _
      refine Z.istore_n (n := 35) dX12_parts_34 rfl (by decide) rfl ?_
      refine Z.aload_n (n := 36) dX12_parts_35 rfl rfl ?_
      refine Z.getf (n := 39) fX12_211 dX12_parts_36 rfl W93 rfl ?_
      refine Z.if_eq (tgt := 49) (n := 42) dX12_parts_39 rfl rfl (fun c13 => ?_) (fun c13 => ?_)
      · rw [if_pos c13] at hf
        refine Z.aload_n (n := 50) dX12_parts_49 rfl rfl ?_
        refine Z.getf (n := 53) fX12_217 dX12_parts_50 rfl W93 rfl ?_
        refine Z.fg [1, 2] ?_
        exact zX12_partsb_53 hJ hrec_X12_parts _ _ _ hf
      · rw [if_neg c13] at hf
        refine Z.aload_n (n := 43) dX12_parts_42 rfl rfl ?_
        refine Z.getf (n := 46) fX12_214 dX12_parts_43 rfl W93 rfl ?_
        refine Z.goto (tgt := 53) dX12_parts_46 rfl ?_
        refine Z.fg [1, 2] ?_
        exact zX12_partsb_53 hJ hrec_X12_parts _ _ _ hf
def fX12_parts : Nat → Int32 → Int32 → HT → Option (Int32 × HT)
  | 0 => fun _ _ _ => none
  | n + 1 => fX12_partsb (fX12_parts n)
theorem ctX12_parts {g : GP} {a : Nat → Nat} {P : PT} : ∀ n : Nat, ∀ (l1 l2 : Int32) (h : HT) (z : Int32 × HT), fX12_parts n l1 l2 h = some z → Ct g (12 * n) 0 0 mX12_parts [.ref (a 93), .int l1, .int l2] (WD g a h P) (PoV g a P z) := by
  intro n
  induction n with
  | zero => intro _ _ h z hf; cases hf
  | succ n ih => intro l1 l2 h z hf; exact ctX12_partsb (dr := 12 * n) ih hf
def fX12_partsAll (l1 : Int32) (l2 : Int32) (l3 : Int32) (h : HT) : Option (Int32 × HT) :=
  Option.bind (cb l3) fun u1 =>
  Option.bind (fX12_parts 9 0 0 (hu (hu (hu (hu (hu (hu (hu (hu (hu h 93 13 2) 93 14 0) 93 19 0) 93 20 0) 93 21 0) 93 22 l1) 93 23 l2) 93 24 l3) 93 25 (-1))) fun z2 =>
  some (0, z2.2)
set_option maxHeartbeats 4000000 in
theorem ctX12_partsAll {g : GP} {a : Nat → Nat} {P : PT} {h : HT} {z : Int32 × HT} {l1 : Int32} {l2 : Int32} {l3 : Int32} (hf : fX12_partsAll l1 l2 l3 h = some z) : Ct g 121 0 0 mX12_partsAll [.ref (a 93), .int l1, .int l2, .int l3] (WD g a h P) (PoV g a P z) := by
  refine Ct.of (by decide +kernel) (Nat.le_of_ble_eq_true rfl) fun J hJ => ?_
  show Z g mX12_partsAll J 0 0 0 [some (.ref (a 93)), some (.int l1), some (.int l2), some (.int l3)] [] (WD g a h P)
  unfold fX12_partsAll at hf
  refine Z.aload_n (n := 1) dX12_partsAll_0 rfl rfl ?_
  refine Z.iconst (n := 2) (v := 2) dX12_partsAll_1 rfl (by decide +kernel) ?_
  refine Z.putf (n := 5) pX12_135 dX12_partsAll_2 rfl W93 (Nat.le_of_ble_eq_true rfl) rfl rfl W93s_13 ?_
  refine Z.aload_n (n := 6) dX12_partsAll_5 rfl rfl ?_
  refine Z.iconst (n := 7) (v := 0) dX12_partsAll_6 rfl (by decide +kernel) ?_
  refine Z.putf (n := 10) pX12_138 dX12_partsAll_7 rfl W93 (Nat.le_of_ble_eq_true rfl) rfl rfl W93s_14 ?_
  refine Z.aload_n (n := 11) dX12_partsAll_10 rfl rfl ?_
  refine Z.iconst (n := 12) (v := 0) dX12_partsAll_11 rfl (by decide +kernel) ?_
  refine Z.putf (n := 15) pX12_205 dX12_partsAll_12 rfl W93 (Nat.le_of_ble_eq_true rfl) rfl rfl W93s_19 ?_
  refine Z.aload_n (n := 16) dX12_partsAll_15 rfl rfl ?_
  refine Z.iconst (n := 17) (v := 0) dX12_partsAll_16 rfl (by decide +kernel) ?_
  refine Z.putf (n := 20) pX12_217 dX12_partsAll_17 rfl W93 (Nat.le_of_ble_eq_true rfl) rfl rfl W93s_20 ?_
  refine Z.aload_n (n := 21) dX12_partsAll_20 rfl rfl ?_
  refine Z.iconst (n := 22) (v := 0) dX12_partsAll_21 rfl (by decide +kernel) ?_
  refine Z.putf (n := 25) pX12_214 dX12_partsAll_22 rfl W93 (Nat.le_of_ble_eq_true rfl) rfl rfl W93s_21 ?_
  refine Z.aload_n (n := 26) dX12_partsAll_25 rfl rfl ?_
  refine Z.iload_n (n := 27) dX12_partsAll_26 rfl rfl ?_
  refine Z.putf (n := 30) pX12_220 dX12_partsAll_27 rfl W93 (Nat.le_of_ble_eq_true rfl) rfl rfl W93s_22 ?_
  refine Z.aload_n (n := 31) dX12_partsAll_30 rfl rfl ?_
  refine Z.iload_n (n := 32) dX12_partsAll_31 rfl rfl ?_
  refine Z.putf (n := 35) pX12_223 dX12_partsAll_32 rfl W93 (Nat.le_of_ble_eq_true rfl) rfl rfl W93s_23 ?_
  refine Z.aload_n (n := 36) dX12_partsAll_35 rfl rfl ?_
  refine Z.iload_n (n := 37) dX12_partsAll_36 rfl rfl ?_
  obtain ⟨u1, eu1, hf⟩ := Option.bind_eq_some_iff.mp hf
  refine Z.putf (n := 40) pX12_211 dX12_partsAll_37 rfl W93 (Nat.le_of_ble_eq_true rfl) (cb_nar eu1) (cb_fit eu1) W93s_24 ?_
  refine Z.aload_n (n := 41) dX12_partsAll_40 rfl rfl ?_
  refine Z.iconst (n := 42) (v := -1) dX12_partsAll_41 rfl (by decide +kernel) ?_
  refine Z.putf (n := 45) pX12_226 dX12_partsAll_42 rfl W93 (Nat.le_of_ble_eq_true rfl) rfl rfl W93s_25 ?_
  refine Z.aload_n (n := 46) dX12_partsAll_45 rfl rfl ?_
  refine Z.iconst (n := 47) (v := 0) dX12_partsAll_46 rfl (by decide +kernel) ?_
  refine Z.iconst (n := 48) (v := 0) dX12_partsAll_47 rfl (by decide +kernel) ?_
  obtain ⟨z2, ez2, hf⟩ := Option.bind_eq_some_iff.mp hf
  refine Z.callV (n := 51) vX12_229 (ctX12_parts 9 _ _ _ _  ez2) hJ.rm (Nat.le_of_ble_eq_true rfl) rfl rfl (Nat.le_refl _) (Nat.le_refl _) rfl W93 rfl rfl (Nat.le_of_ble_eq_true rfl) rfl dX12_partsAll_48 rfl (fun v w hw => ?_)
  obtain ⟨rfl, rfl⟩ := hw
  show Z _ _ _ _ _ _ _ [] _
  have hz := Option.some.inj hf
  subst hz
  exact Z.vret hJ dX12_partsAll_51 rfl (Nat.le_refl _) (Nat.le_refl _) ⟨rfl, rfl⟩
def fX12_all_60 (s0 : Int32) (h : HT) : Option (Int32 × HT) :=
  some (s0, h)
set_option maxHeartbeats 4000000 in
theorem zX12_all_60 {g : GP} {a : Nat → Nat} {P : PT} {J : JT} {z : Int32 × HT} (hJ : JX g 122 0 0 (PoI g a P z) J) (s0 : Int32) (h : HT) (hf : fX12_all_60 s0 h = some z) : Z g mX12_all J 0 0 60 [none, none] [.int s0] (WD g a h P) := by
  unfold fX12_all_60 at hf
  have hz := Option.some.inj hf
  subst hz
  exact Z.iret hJ dX12_all_60 rfl (Nat.le_refl _) (Nat.le_refl _) ⟨rfl, rfl⟩
def fX12_all (l1 : Int32) (h : HT) : Option (Int32 × HT) :=
  Option.bind (fX12_in l1 0 2 h) fun z1 =>
  if z1.1 = 0 then (some ((-1), z1.2))
  else (Option.bind (fX12_alive  z1.2) fun z3 =>
  Option.bind (fX12_count1 z3.1 z3.2) fun z4 =>
  if z4.1 ≤ 6 then (Option.bind (fX12_partsAll (-1) 0 0 z4.2) fun z6 =>
  if l1 = 0 then (fX12_all_60 (z6.2 93 19) z6.2)
  else (if l1 = 1 then (fX12_all_60 (z6.2 93 20) z6.2)
  else (fX12_all_60 (z6.2 93 21) z6.2)))
  else (some ((-9), z4.2)))
set_option maxHeartbeats 4000000 in
theorem ctX12_all {g : GP} {a : Nat → Nat} {P : PT} {h : HT} {z : Int32 × HT} {l1 : Int32} (hf : fX12_all l1 h = some z) : Ct g 122 0 0 mX12_all [.ref (a 93), .int l1] (WD g a h P) (PoI g a P z) := by
  refine Ct.of (by decide +kernel) (Nat.le_of_ble_eq_true rfl) fun J hJ => ?_
  show Z g mX12_all J 0 0 0 [some (.ref (a 93)), some (.int l1)] [] (WD g a h P)
  unfold fX12_all at hf
  refine Z.iload_n (n := 1) dX12_all_0 rfl rfl ?_
  refine Z.iconst (n := 2) (v := 0) dX12_all_1 rfl (by decide +kernel) ?_
  refine Z.iconst (n := 3) (v := 2) dX12_all_2 rfl (by decide +kernel) ?_
  obtain ⟨z1, ez1, hf⟩ := Option.bind_eq_some_iff.mp hf
  refine Z.callS (n := 6) vX12_41 (ctX12_in ez1) hJ.rm (Nat.le_of_ble_eq_true rfl) rfl rfl (Nat.le_refl _) (Nat.le_refl _) rfl (Nat.le_of_ble_eq_true rfl) rfl dX12_all_3 rfl (fun v w hw => ?_)
  obtain ⟨rfl, rfl⟩ := hw
  show Z _ _ _ _ _ _ _ [.int z1.1] _
  refine Z.if_ne (tgt := 11) (n := 9) dX12_all_6 rfl rfl (fun c2 => ?_) (fun c2 => ?_)
  · rw [if_neg c2] at hf
    refine Z.aload_n (n := 12) dX12_all_11 rfl rfl ?_
    obtain ⟨z3, ez3, hf⟩ := Option.bind_eq_some_iff.mp hf
    refine Z.callV (n := 15) vX12_153 (ctX12_alive ez3) hJ.rm (Nat.le_of_ble_eq_true rfl) rfl rfl (Nat.le_refl _) (Nat.le_refl _) rfl W93 rfl rfl (Nat.le_of_ble_eq_true rfl) rfl dX12_all_12 rfl (fun v w hw => ?_)
    obtain ⟨rfl, rfl⟩ := hw
    show Z _ _ _ _ _ _ _ [.int z3.1] _
    obtain ⟨z4, ez4, hf⟩ := Option.bind_eq_some_iff.mp hf
    refine Z.callS (n := 18) vX12_232 (ctX12_count1 ez4) hJ.rm (Nat.le_of_ble_eq_true rfl) rfl rfl (Nat.le_refl _) (Nat.le_refl _) rfl (Nat.le_of_ble_eq_true rfl) rfl dX12_all_15 rfl (fun v w hw => ?_)
    obtain ⟨rfl, rfl⟩ := hw
    show Z _ _ _ _ _ _ _ [.int z4.1] _
    refine Z.bipush (n := 20) (v := 6) dX12_all_18 rfl (by decide +kernel) ?_
    refine Z.icmp_le (tgt := 26) (n := 23) dX12_all_20 rfl rfl (fun c5 => ?_) (fun c5 => ?_)
    · rw [if_pos c5] at hf
      refine Z.aload_n (n := 27) dX12_all_26 rfl rfl ?_
      refine Z.iconst (n := 28) (v := -1) dX12_all_27 rfl (by decide +kernel) ?_
      refine Z.iconst (n := 29) (v := 0) dX12_all_28 rfl (by decide +kernel) ?_
      refine Z.iconst (n := 30) (v := 0) dX12_all_29 rfl (by decide +kernel) ?_
      obtain ⟨z6, ez6, hf⟩ := Option.bind_eq_some_iff.mp hf
      refine Z.callV (n := 33) vX12_235 (ctX12_partsAll ez6) hJ.rm (Nat.le_of_ble_eq_true rfl) rfl rfl (Nat.le_refl _) (Nat.le_refl _) rfl W93 rfl rfl (Nat.le_of_ble_eq_true rfl) rfl dX12_all_30 rfl (fun v w hw => ?_)
      obtain ⟨rfl, rfl⟩ := hw
      show Z _ _ _ _ _ _ _ [] _
      refine Z.iload_n (n := 34) dX12_all_33 rfl rfl ?_
      refine Z.if_ne (tgt := 44) (n := 37) dX12_all_34 rfl rfl (fun c7 => ?_) (fun c7 => ?_)
      · rw [if_neg c7] at hf
        refine Z.iload_n (n := 45) dX12_all_44 rfl rfl ?_
        refine Z.iconst (n := 46) (v := 1) dX12_all_45 rfl (by decide +kernel) ?_
        refine Z.icmp_ne (tgt := 56) (n := 49) dX12_all_46 rfl rfl (fun c8 => ?_) (fun c8 => ?_)
        · rw [if_neg c8] at hf
          refine Z.aload_n (n := 57) dX12_all_56 rfl rfl ?_
          refine Z.getf (n := 60) fX12_214 dX12_all_57 rfl W93 rfl ?_
          refine Z.fg [0, 1] ?_
          exact zX12_all_60 hJ _ _ hf
        · rw [if_pos c8] at hf
          refine Z.aload_n (n := 50) dX12_all_49 rfl rfl ?_
          refine Z.getf (n := 53) fX12_217 dX12_all_50 rfl W93 rfl ?_
          refine Z.goto (tgt := 60) dX12_all_53 rfl ?_
          refine Z.fg [0, 1] ?_
          exact zX12_all_60 hJ _ _ hf
      · rw [if_pos c7] at hf
        refine Z.aload_n (n := 38) dX12_all_37 rfl rfl ?_
        refine Z.getf (n := 41) fX12_205 dX12_all_38 rfl W93 rfl ?_
        refine Z.goto (tgt := 60) dX12_all_41 rfl ?_
        refine Z.fg [0, 1] ?_
        exact zX12_all_60 hJ _ _ hf
    · rw [if_neg c5] at hf
      refine Z.bipush (n := 25) (v := -9) dX12_all_23 rfl (by decide +kernel) ?_
      have hz := Option.some.inj hf
      subst hz
      exact Z.iret hJ dX12_all_25 rfl (Nat.le_refl _) (Nat.le_refl _) ⟨rfl, rfl⟩
  · rw [if_pos c2] at hf
    refine Z.iconst (n := 10) (v := -1) dX12_all_9 rfl (by decide +kernel) ?_
    have hz := Option.some.inj hf
    subst hz
    exact Z.iret hJ dX12_all_10 rfl (Nat.le_refl _) (Nat.le_refl _) ⟨rfl, rfl⟩
def fX12_quiet_36 (l2 : Int32) (l3 : Int32) (s0 : Int32) (h : HT) : Option (Int32 × HT) :=
  Option.bind (fX12_partsAll s0 l2 l3 h) fun z7 =>
  some (z7.2 93 25, z7.2)
set_option maxHeartbeats 4000000 in
theorem zX12_quiet_36 {g : GP} {a : Nat → Nat} {P : PT} {J : JT} {z : Int32 × HT} (hJ : JX g 122 0 0 (PoI g a P z) J) (l2 : Int32) (l3 : Int32) (s0 : Int32) (h : HT) (hf : fX12_quiet_36 l2 l3 s0 h = some z) : Z g mX12_quiet J 0 0 36 [some (.ref (a 93)), none, some (.int l2), some (.int l3)] [.int s0, .ref (a 93)] (WD g a h P) := by
  unfold fX12_quiet_36 at hf
  refine Z.iload_n (n := 37) dX12_quiet_36 rfl rfl ?_
  refine Z.iload_n (n := 38) dX12_quiet_37 rfl rfl ?_
  obtain ⟨z7, ez7, hf⟩ := Option.bind_eq_some_iff.mp hf
  refine Z.callV (n := 41) vX12_235 (ctX12_partsAll ez7) hJ.rm (Nat.le_of_ble_eq_true rfl) rfl rfl (Nat.le_refl _) (Nat.le_refl _) rfl W93 rfl rfl (Nat.le_of_ble_eq_true rfl) rfl dX12_quiet_38 rfl (fun v w hw => ?_)
  obtain ⟨rfl, rfl⟩ := hw
  show Z _ _ _ _ _ _ _ [] _
  refine Z.aload_n (n := 42) dX12_quiet_41 rfl rfl ?_
  refine Z.getf (n := 45) fX12_226 dX12_quiet_42 rfl W93 rfl ?_
  have hz := Option.some.inj hf
  subst hz
  exact Z.iret hJ dX12_quiet_45 rfl (Nat.le_refl _) (Nat.le_refl _) ⟨rfl, rfl⟩
def fX12_quiet (l1 : Int32) (l2 : Int32) (l3 : Int32) (h : HT) : Option (Int32 × HT) :=
  Option.bind (fX12_isAlive l2 h) fun z1 =>
  if z1.1 = 0 then (some ((-1), z1.2))
  else (Option.bind (fX12_alive  z1.2) fun z3 =>
  Option.bind (fX12_count1 z3.1 z3.2) fun z4 =>
  if z4.1 ≤ 6 then (if 0 ≤ l1 then (fX12_quiet_36 l2 l3 l1 z4.2)
  else (fX12_quiet_36 l2 l3 (-2) z4.2))
  else (some ((-9), z4.2)))
set_option maxHeartbeats 4000000 in
theorem ctX12_quiet {g : GP} {a : Nat → Nat} {P : PT} {h : HT} {z : Int32 × HT} {l1 : Int32} {l2 : Int32} {l3 : Int32} (hf : fX12_quiet l1 l2 l3 h = some z) : Ct g 122 0 0 mX12_quiet [.ref (a 93), .int l1, .int l2, .int l3] (WD g a h P) (PoI g a P z) := by
  refine Ct.of (by decide +kernel) (Nat.le_of_ble_eq_true rfl) fun J hJ => ?_
  show Z g mX12_quiet J 0 0 0 [some (.ref (a 93)), some (.int l1), some (.int l2), some (.int l3)] [] (WD g a h P)
  unfold fX12_quiet at hf
  refine Z.aload_n (n := 1) dX12_quiet_0 rfl rfl ?_
  refine Z.iload_n (n := 2) dX12_quiet_1 rfl rfl ?_
  obtain ⟨z1, ez1, hf⟩ := Option.bind_eq_some_iff.mp hf
  refine Z.callV (n := 5) vX12_49 (ctX12_isAlive ez1) hJ.rm (Nat.le_of_ble_eq_true rfl) rfl rfl (Nat.le_refl _) (Nat.le_refl _) rfl W93 rfl rfl (Nat.le_of_ble_eq_true rfl) rfl dX12_quiet_2 rfl (fun v w hw => ?_)
  obtain ⟨rfl, rfl⟩ := hw
  show Z _ _ _ _ _ _ _ [.int z1.1] _
  refine Z.if_ne (tgt := 10) (n := 8) dX12_quiet_5 rfl rfl (fun c2 => ?_) (fun c2 => ?_)
  · rw [if_neg c2] at hf
    refine Z.aload_n (n := 11) dX12_quiet_10 rfl rfl ?_
    obtain ⟨z3, ez3, hf⟩ := Option.bind_eq_some_iff.mp hf
    refine Z.callV (n := 14) vX12_153 (ctX12_alive ez3) hJ.rm (Nat.le_of_ble_eq_true rfl) rfl rfl (Nat.le_refl _) (Nat.le_refl _) rfl W93 rfl rfl (Nat.le_of_ble_eq_true rfl) rfl dX12_quiet_11 rfl (fun v w hw => ?_)
    obtain ⟨rfl, rfl⟩ := hw
    show Z _ _ _ _ _ _ _ [.int z3.1] _
    obtain ⟨z4, ez4, hf⟩ := Option.bind_eq_some_iff.mp hf
    refine Z.callS (n := 17) vX12_232 (ctX12_count1 ez4) hJ.rm (Nat.le_of_ble_eq_true rfl) rfl rfl (Nat.le_refl _) (Nat.le_refl _) rfl (Nat.le_of_ble_eq_true rfl) rfl dX12_quiet_14 rfl (fun v w hw => ?_)
    obtain ⟨rfl, rfl⟩ := hw
    show Z _ _ _ _ _ _ _ [.int z4.1] _
    refine Z.bipush (n := 19) (v := 6) dX12_quiet_17 rfl (by decide +kernel) ?_
    refine Z.icmp_le (tgt := 25) (n := 22) dX12_quiet_19 rfl rfl (fun c5 => ?_) (fun c5 => ?_)
    · rw [if_pos c5] at hf
      refine Z.aload_n (n := 26) dX12_quiet_25 rfl rfl ?_
      refine Z.iload_n (n := 27) dX12_quiet_26 rfl rfl ?_
      refine Z.if_ge (tgt := 35) (n := 30) dX12_quiet_27 rfl rfl (fun c6 => ?_) (fun c6 => ?_)
      · rw [if_pos c6] at hf
        refine Z.iload_n (n := 36) dX12_quiet_35 rfl rfl ?_
        refine Z.fg [1] ?_
        exact zX12_quiet_36 hJ _ _ _ _ hf
      · rw [if_neg c6] at hf
        refine Z.bipush (n := 32) (v := -2) dX12_quiet_30 rfl (by decide +kernel) ?_
        refine Z.goto (tgt := 36) dX12_quiet_32 rfl ?_
        refine Z.fg [1] ?_
        exact zX12_quiet_36 hJ _ _ _ _ hf
    · rw [if_neg c5] at hf
      refine Z.bipush (n := 24) (v := -9) dX12_quiet_22 rfl (by decide +kernel) ?_
      have hz := Option.some.inj hf
      subst hz
      exact Z.iret hJ dX12_quiet_24 rfl (Nat.le_refl _) (Nat.le_refl _) ⟨rfl, rfl⟩
  · rw [if_pos c2] at hf
    refine Z.iconst (n := 9) (v := -1) dX12_quiet_8 rfl (by decide +kernel) ?_
    have hz := Option.some.inj hf
    subst hz
    exact Z.iret hJ dX12_quiet_9 rfl (Nat.le_refl _) (Nat.le_refl _) ⟨rfl, rfl⟩
def fX12_leads_314 (s0 : Int32) (h : HT) : Option (Int32 × HT) :=
  some (s0, h)
set_option maxHeartbeats 4000000 in
theorem zX12_leads_314 {g : GP} {a : Nat → Nat} {P : PT} {J : JT} {z : Int32 × HT} (hJ : JX g 8 0 0 (PoI g a P z) J) (s0 : Int32) (h : HT) (hf : fX12_leads_314 s0 h = some z) : Z g mX12_leads J 0 0 314 [none, none, none, none, none, none, none, none, none, none, none, none, none] [.int s0] (WD g a h P) := by
  unfold fX12_leads_314 at hf
  have hz := Option.some.inj hf
  subst hz
  exact Z.iret hJ dX12_leads_314 rfl (Nat.le_refl _) (Nat.le_refl _) ⟨rfl, rfl⟩
def fX12_leads_295 (l3 : Int32) (h : HT) : Option (Int32 × HT) :=
  if l3 = 0 then (fX12_leads_314 0 (hu h 94 4 ((h 94 4) + (1 : Int32))))
  else (fX12_leads_314 1 (hu h 94 4 ((h 94 4) + (1 : Int32))))
set_option maxHeartbeats 4000000 in
theorem zX12_leads_295 {g : GP} {a : Nat → Nat} {P : PT} {J : JT} {z : Int32 × HT} (hJ : JX g 8 0 0 (PoI g a P z) J) (l3 : Int32) (h : HT) (hf : fX12_leads_295 l3 h = some z) : Z g mX12_leads J 0 0 295 [some (.ref (a 93)), none, none, some (.int l3), none, none, none, none, none, none, none, none, none] [] (WD g a h P) := by
  unfold fX12_leads_295 at hf
  refine Z.aload_n (n := 296) dX12_leads_295 rfl rfl ?_
  refine Z.getf (n := 299) fX12_9 dX12_leads_296 rfl W93 rfl ?_
  refine Z.iconst (n := 300) (v := 4) dX12_leads_299 rfl (by decide +kernel) ?_
  refine Z.dup2 (n := 301) dX12_leads_300 rfl rfl rfl ?_
  refine Z.iald (j := 4) (n := 302) dX12_leads_301 rfl W94 (by decide +kernel) (by decide) (by decide) ?_
  refine Z.iconst (n := 303) (v := 1) dX12_leads_302 rfl (by decide +kernel) ?_
  refine Z.iadd (n := 304) dX12_leads_303 rfl ?_
  refine Z.iast (j := 4) (n := 305) dX12_leads_304 rfl W94 (by decide +kernel) (by decide) (by decide) W94s ?_
  refine Z.iload_n (n := 306) dX12_leads_305 rfl rfl ?_
  refine Z.if_eq (tgt := 313) (n := 309) dX12_leads_306 rfl rfl (fun c8 => ?_) (fun c8 => ?_)
  · rw [if_pos c8] at hf
    refine Z.iconst (n := 314) (v := 0) dX12_leads_313 rfl (by decide +kernel) ?_
    refine Z.fg [0, 3] ?_
    exact zX12_leads_314 hJ _ _ hf
  · rw [if_neg c8] at hf
    refine Z.iconst (n := 310) (v := 1) dX12_leads_309 rfl (by decide +kernel) ?_
    refine Z.goto (tgt := 314) dX12_leads_310 rfl ?_
    refine Z.fg [0, 3] ?_
    exact zX12_leads_314 hJ _ _ hf
def fX12_leads_294 (l3 : Int32) (s0 : Int32) (s1 : Int32) (h : HT) : Option (Int32 × HT) :=
  Option.bind (ck 490 s1) fun j14 =>
  fX12_leads_295 l3 (hu h 94 j14 s0)
set_option maxHeartbeats 4000000 in
theorem zX12_leads_294 {g : GP} {a : Nat → Nat} {P : PT} {J : JT} {z : Int32 × HT} (hJ : JX g 8 0 0 (PoI g a P z) J) (l3 : Int32) (s0 : Int32) (s1 : Int32) (h : HT) (hf : fX12_leads_294 l3 s0 s1 h = some z) : Z g mX12_leads J 0 0 294 [some (.ref (a 93)), none, none, some (.int l3), none, none, none, none, none, none, none, none, none] [.int s0, .int s1, .ref (a 94)] (WD g a h P) := by
  unfold fX12_leads_294 at hf
  obtain ⟨j14, ej14, hf⟩ := Option.bind_eq_some_iff.mp hf
  obtain ⟨hij14, hlj14⟩ := ck_spec ej14
  refine Z.iast (j := j14) (n := 295) dX12_leads_294 rfl W94 hij14 hlj14 (by decide) W94s ?_
  exact zX12_leads_295 hJ _ _ hf
def fX12_leads_213 (k87_ : Int32 → Int32 → Int32 → Int64 → Int64 → Int32 → Int32 → HT → Option (Int32 × HT)) (l1 : Int32) (l2 : Int32) (l3 : Int32) (l4 : Int64) (l6 : Int64) (l8 : Int32) (l9 : Int32) (h : HT) : Option (Int32 × HT) :=
  k87_ l1 l2 l3 l4 l6 l8 (l9 + 1) h
set_option maxHeartbeats 4000000 in
theorem zX12_leads_213 {g : GP} {a : Nat → Nat} {P : PT} {J : JT} {z : Int32 × HT} {k87_ : Int32 → Int32 → Int32 → Int64 → Int64 → Int32 → Int32 → HT → Option (Int32 × HT)} (hJ : JX g 8 0 0 (PoI g a P z) J) (hk87 : ∀ (l1 : Int32) (l2 : Int32) (l3 : Int32) (l4 : Int64) (l6 : Int64) (l8 : Int32) (l9 : Int32) (h : HT), k87_ l1 l2 l3 l4 l6 l8 l9 h = some z → Z g mX12_leads J 0 0 87 [some (.ref (a 93)), some (.int l1), some (.int l2), some (.int l3), some (.long l4), none, some (.long l6), none, some (.int l8), some (.int l9), none, none, none] [] (WD g a h P)) (l1 : Int32) (l2 : Int32) (l3 : Int32) (l4 : Int64) (l6 : Int64) (l8 : Int32) (l9 : Int32) (h : HT) (hf : fX12_leads_213 k87_ l1 l2 l3 l4 l6 l8 l9 h = some z) : Z g mX12_leads J 0 0 213 [some (.ref (a 93)), some (.int l1), some (.int l2), some (.int l3), some (.long l4), none, some (.long l6), none, some (.int l8), some (.int l9), none, none, none] [] (WD g a h P) := by
  unfold fX12_leads_213 at hf
  refine Z.iinc (n := 216) (v := l9 + 1) dX12_leads_213 rfl rfl rfl (by decide) rfl ?_
  refine Z.goto (tgt := 87) dX12_leads_216 rfl ?_
  exact hk87 _ _ _ _ _ _ _ _ hf
def fX12_leads_212 (k87_ : Int32 → Int32 → Int32 → Int64 → Int64 → Int32 → Int32 → HT → Option (Int32 × HT)) (l1 : Int32) (l2 : Int32) (l3 : Int32) (l4 : Int64) (l6 : Int64) (l8 : Int32) (l9 : Int32) (s0 : Int32) (s1 : Int32) (h : HT) : Option (Int32 × HT) :=
  Option.bind (ck 490 s1) fun j20 =>
  fX12_leads_213 k87_ l1 l2 l3 l4 l6 l8 l9 (hu h 94 j20 s0)
set_option maxHeartbeats 4000000 in
theorem zX12_leads_212 {g : GP} {a : Nat → Nat} {P : PT} {J : JT} {z : Int32 × HT} {k87_ : Int32 → Int32 → Int32 → Int64 → Int64 → Int32 → Int32 → HT → Option (Int32 × HT)} (hJ : JX g 8 0 0 (PoI g a P z) J) (hk87 : ∀ (l1 : Int32) (l2 : Int32) (l3 : Int32) (l4 : Int64) (l6 : Int64) (l8 : Int32) (l9 : Int32) (h : HT), k87_ l1 l2 l3 l4 l6 l8 l9 h = some z → Z g mX12_leads J 0 0 87 [some (.ref (a 93)), some (.int l1), some (.int l2), some (.int l3), some (.long l4), none, some (.long l6), none, some (.int l8), some (.int l9), none, none, none] [] (WD g a h P)) (l1 : Int32) (l2 : Int32) (l3 : Int32) (l4 : Int64) (l6 : Int64) (l8 : Int32) (l9 : Int32) (s0 : Int32) (s1 : Int32) (h : HT) (hf : fX12_leads_212 k87_ l1 l2 l3 l4 l6 l8 l9 s0 s1 h = some z) : Z g mX12_leads J 0 0 212 [some (.ref (a 93)), some (.int l1), some (.int l2), some (.int l3), some (.long l4), none, some (.long l6), none, some (.int l8), some (.int l9), none, none, none] [.int s0, .int s1, .ref (a 94)] (WD g a h P) := by
  unfold fX12_leads_212 at hf
  obtain ⟨j20, ej20, hf⟩ := Option.bind_eq_some_iff.mp hf
  obtain ⟨hij20, hlj20⟩ := ck_spec ej20
  refine Z.iast (j := j20) (n := 213) dX12_leads_212 rfl W94 hij20 hlj20 (by decide) W94s ?_
  exact zX12_leads_213 hJ hk87 _ _ _ _ _ _ _ _ hf
def fX12_leads_204 (k87_ : Int32 → Int32 → Int32 → Int64 → Int64 → Int32 → Int32 → HT → Option (Int32 × HT)) (l1 : Int32) (l2 : Int32) (l3 : Int32) (l4 : Int64) (l6 : Int64) (l8 : Int32) (l9 : Int32) (s0 : Int32) (s1 : Int32) (s2 : Int32) (h : HT) : Option (Int32 × HT) :=
  fX12_leads_212 k87_ l1 l2 l3 l4 l6 l8 l9 (s1 - s0) s2 h
set_option maxHeartbeats 4000000 in
theorem zX12_leads_204 {g : GP} {a : Nat → Nat} {P : PT} {J : JT} {z : Int32 × HT} {k87_ : Int32 → Int32 → Int32 → Int64 → Int64 → Int32 → Int32 → HT → Option (Int32 × HT)} (hJ : JX g 8 0 0 (PoI g a P z) J) (hk87 : ∀ (l1 : Int32) (l2 : Int32) (l3 : Int32) (l4 : Int64) (l6 : Int64) (l8 : Int32) (l9 : Int32) (h : HT), k87_ l1 l2 l3 l4 l6 l8 l9 h = some z → Z g mX12_leads J 0 0 87 [some (.ref (a 93)), some (.int l1), some (.int l2), some (.int l3), some (.long l4), none, some (.long l6), none, some (.int l8), some (.int l9), none, none, none] [] (WD g a h P)) (l1 : Int32) (l2 : Int32) (l3 : Int32) (l4 : Int64) (l6 : Int64) (l8 : Int32) (l9 : Int32) (s0 : Int32) (s1 : Int32) (s2 : Int32) (h : HT) (hf : fX12_leads_204 k87_ l1 l2 l3 l4 l6 l8 l9 s0 s1 s2 h = some z) : Z g mX12_leads J 0 0 204 [some (.ref (a 93)), some (.int l1), some (.int l2), some (.int l3), some (.long l4), none, some (.long l6), none, some (.int l8), some (.int l9), none, none, none] [.int s0, .int s1, .int s2, .ref (a 94)] (WD g a h P) := by
  unfold fX12_leads_204 at hf
  refine Z.isub (n := 205) dX12_leads_204 rfl ?_
  refine Z.goto (tgt := 212) dX12_leads_205 rfl ?_
  exact zX12_leads_212 hJ hk87 _ _ _ _ _ _ _ _ _ _ hf
def fX12_leads_161 (k87_ : Int32 → Int32 → Int32 → Int64 → Int64 → Int32 → Int32 → HT → Option (Int32 × HT)) (l1 : Int32) (l2 : Int32) (l3 : Int32) (l4 : Int64) (l6 : Int64) (l8 : Int32) (l9 : Int32) (l10 : Int32) (l12 : Int32) (h : HT) : Option (Int32 × HT) :=
  if l10 = l3 then (if (lg_cmp l6 0) = 0 then (fX12_leads_204 k87_ l1 l2 l3 l4 l6 l8 l9 0 l12 ((270 : Int32) + l9) h)
  else (Option.bind (nzl ((2 : Int64) * l6)) fun u22 =>
  fX12_leads_204 k87_ l1 l2 l3 l4 l6 l8 l9 (((l12.toInt64 * l4) / ((2 : Int64) * l6)).toInt32) l12 ((270 : Int32) + l9) h))
  else (fX12_leads_212 k87_ l1 l2 l3 l4 l6 l8 l9 (l12 / (2 : Int32)) ((270 : Int32) + l9) h)
set_option maxHeartbeats 4000000 in
theorem zX12_leads_161 {g : GP} {a : Nat → Nat} {P : PT} {J : JT} {z : Int32 × HT} {k87_ : Int32 → Int32 → Int32 → Int64 → Int64 → Int32 → Int32 → HT → Option (Int32 × HT)} (hJ : JX g 8 0 0 (PoI g a P z) J) (hk87 : ∀ (l1 : Int32) (l2 : Int32) (l3 : Int32) (l4 : Int64) (l6 : Int64) (l8 : Int32) (l9 : Int32) (h : HT), k87_ l1 l2 l3 l4 l6 l8 l9 h = some z → Z g mX12_leads J 0 0 87 [some (.ref (a 93)), some (.int l1), some (.int l2), some (.int l3), some (.long l4), none, some (.long l6), none, some (.int l8), some (.int l9), none, none, none] [] (WD g a h P)) (l1 : Int32) (l2 : Int32) (l3 : Int32) (l4 : Int64) (l6 : Int64) (l8 : Int32) (l9 : Int32) (l10 : Int32) (l12 : Int32) (h : HT) (hf : fX12_leads_161 k87_ l1 l2 l3 l4 l6 l8 l9 l10 l12 h = some z) : Z g mX12_leads J 0 0 161 [some (.ref (a 93)), some (.int l1), some (.int l2), some (.int l3), some (.long l4), none, some (.long l6), none, some (.int l8), some (.int l9), some (.int l10), none, some (.int l12)] [] (WD g a h P) := by
  unfold fX12_leads_161 at hf
  refine Z.aload_n (n := 162) dX12_leads_161 rfl rfl ?_
  refine Z.getf (n := 165) fX12_9 dX12_leads_162 rfl W93 rfl ?_
  refine Z.sipush (n := 168) (v := 270) dX12_leads_165 rfl (by decide +kernel) ?_
  refine Z.iload (n := 170) dX12_leads_168 rfl rfl ?_
  refine Z.iadd (n := 171) dX12_leads_170 rfl ?_
  refine Z.iload (n := 173) dX12_leads_171 rfl rfl ?_
  refine Z.iload_n (n := 174) dX12_leads_173 rfl rfl ?_
  refine Z.icmp_ne (tgt := 208) (n := 177) dX12_leads_174 rfl rfl (fun c19 => ?_) (fun c19 => ?_)
  · rw [if_neg c19] at hf
    refine Z.iload (n := 210) dX12_leads_208 rfl rfl ?_
    refine Z.iconst (n := 211) (v := 2) dX12_leads_210 rfl (by decide +kernel) ?_
    refine Z.idiv (n := 212) dX12_leads_211 rfl (by decide +kernel) ?_
    refine Z.fg [10, 12] ?_
    exact zX12_leads_212 hJ hk87 _ _ _ _ _ _ _ _ _ _ hf
  · rw [if_pos c19] at hf
    refine Z.iload (n := 179) dX12_leads_177 rfl rfl ?_
    refine Z.lload (n := 181) dX12_leads_179 rfl rfl ?_
    refine Z.lconst (n := 182) (v := 0) dX12_leads_181 rfl (by decide +kernel) ?_
    refine Z.lcmp (n := 183) dX12_leads_182 rfl rfl ?_
    refine Z.if_ne (tgt := 190) (n := 186) dX12_leads_183 rfl rfl (fun c21 => ?_) (fun c21 => ?_)
    · rw [if_neg c21] at hf
      refine Z.iload (n := 192) dX12_leads_190 rfl rfl ?_
      refine Z.i2l (n := 193) dX12_leads_192 rfl rfl ?_
      refine Z.lload (n := 195) dX12_leads_193 rfl rfl ?_
      refine Z.lmul (n := 196) dX12_leads_195 rfl ?_
      refine Z.ldc2 (n := 199) (v := 2) dX12_leads_196 rfl wX12_239 ?_
      refine Z.lload (n := 201) dX12_leads_199 rfl rfl ?_
      refine Z.lmul (n := 202) dX12_leads_201 rfl ?_
      obtain ⟨u22, eu22, hf⟩ := Option.bind_eq_some_iff.mp hf
      refine Z.ldiv (n := 203) dX12_leads_202 rfl (nzl_spec eu22) ?_
      refine Z.l2i (n := 204) dX12_leads_203 rfl rfl ?_
      refine Z.fg [10, 12] ?_
      exact zX12_leads_204 hJ hk87 _ _ _ _ _ _ _ _ _ _ _ hf
    · rw [if_pos c21] at hf
      refine Z.iconst (n := 187) (v := 0) dX12_leads_186 rfl (by decide +kernel) ?_
      refine Z.goto (tgt := 204) dX12_leads_187 rfl ?_
      refine Z.fg [10, 12] ?_
      exact zX12_leads_204 hJ hk87 _ _ _ _ _ _ _ _ _ _ _ hf
def fX12_leads_136 (k87_ : Int32 → Int32 → Int32 → Int64 → Int64 → Int32 → Int32 → HT → Option (Int32 × HT)) (l1 : Int32) (l2 : Int32) (l3 : Int32) (l4 : Int64) (l6 : Int64) (l8 : Int32) (l9 : Int32) (l10 : Int32) (s0 : Int32) (h : HT) : Option (Int32 × HT) :=
  Option.bind (ck 490 ((270 : Int32) + l9)) fun j17 =>
  if l10 = 0 then (if s0 = 0 then (fX12_leads_213 k87_ l1 l2 l3 l4 l6 l8 l9 h)
  else (fX12_leads_161 k87_ l1 l2 l3 l4 l6 l8 l9 l10 (h 94 j17) h))
  else (fX12_leads_161 k87_ l1 l2 l3 l4 l6 l8 l9 l10 (h 94 j17) h)
set_option maxHeartbeats 4000000 in
theorem zX12_leads_136 {g : GP} {a : Nat → Nat} {P : PT} {J : JT} {z : Int32 × HT} {k87_ : Int32 → Int32 → Int32 → Int64 → Int64 → Int32 → Int32 → HT → Option (Int32 × HT)} (hJ : JX g 8 0 0 (PoI g a P z) J) (hk87 : ∀ (l1 : Int32) (l2 : Int32) (l3 : Int32) (l4 : Int64) (l6 : Int64) (l8 : Int32) (l9 : Int32) (h : HT), k87_ l1 l2 l3 l4 l6 l8 l9 h = some z → Z g mX12_leads J 0 0 87 [some (.ref (a 93)), some (.int l1), some (.int l2), some (.int l3), some (.long l4), none, some (.long l6), none, some (.int l8), some (.int l9), none, none, none] [] (WD g a h P)) (l1 : Int32) (l2 : Int32) (l3 : Int32) (l4 : Int64) (l6 : Int64) (l8 : Int32) (l9 : Int32) (l10 : Int32) (s0 : Int32) (h : HT) (hf : fX12_leads_136 k87_ l1 l2 l3 l4 l6 l8 l9 l10 s0 h = some z) : Z g mX12_leads J 0 0 136 [some (.ref (a 93)), some (.int l1), some (.int l2), some (.int l3), some (.long l4), none, some (.long l6), none, some (.int l8), some (.int l9), some (.int l10), none, none] [.int s0] (WD g a h P) := by
  unfold fX12_leads_136 at hf
  refine Z.istore (n := 138) dX12_leads_136 rfl (by decide) rfl ?_
  refine Z.aload_n (n := 139) dX12_leads_138 rfl rfl ?_
  refine Z.getf (n := 142) fX12_9 dX12_leads_139 rfl W93 rfl ?_
  refine Z.sipush (n := 145) (v := 270) dX12_leads_142 rfl (by decide +kernel) ?_
  refine Z.iload (n := 147) dX12_leads_145 rfl rfl ?_
  refine Z.iadd (n := 148) dX12_leads_147 rfl ?_
  obtain ⟨j17, ej17, hf⟩ := Option.bind_eq_some_iff.mp hf
  obtain ⟨hij17, hlj17⟩ := ck_spec ej17
  refine Z.iald (j := j17) (n := 149) dX12_leads_148 rfl W94 hij17 hlj17 (by decide) ?_
  refine Z.istore (n := 151) dX12_leads_149 rfl (by decide) rfl ?_
  refine Z.iload (n := 153) dX12_leads_151 rfl rfl ?_
  refine Z.if_ne (tgt := 161) (n := 156) dX12_leads_153 rfl rfl (fun c18 => ?_) (fun c18 => ?_)
  · rw [if_neg c18] at hf
    refine Z.fg [11] ?_
    exact zX12_leads_161 hJ hk87 _ _ _ _ _ _ _ _ _ _ hf
  · rw [if_pos c18] at hf
    refine Z.iload (n := 158) dX12_leads_156 rfl rfl ?_
    refine Z.if_eq (tgt := 213) (n := 161) dX12_leads_158 rfl rfl (fun c23 => ?_) (fun c23 => ?_)
    · rw [if_pos c23] at hf
      refine Z.fg [10, 11, 12] ?_
      exact zX12_leads_213 hJ hk87 _ _ _ _ _ _ _ _ hf
    · rw [if_neg c23] at hf
      refine Z.fg [11] ?_
      exact zX12_leads_161 hJ hk87 _ _ _ _ _ _ _ _ _ _ hf
def fX12_leads_116 (k87_ : Int32 → Int32 → Int32 → Int64 → Int64 → Int32 → Int32 → HT → Option (Int32 × HT)) (l1 : Int32) (l2 : Int32) (l3 : Int32) (l4 : Int64) (l6 : Int64) (l8 : Int32) (l9 : Int32) (s0 : Int32) (h : HT) : Option (Int32 × HT) :=
  if (((h 93 16) >>> (l9 &&& 31)) &&& (1 : Int32)) = 1 then (fX12_leads_136 k87_ l1 l2 l3 l4 l6 l8 l9 s0 1 h)
  else (fX12_leads_136 k87_ l1 l2 l3 l4 l6 l8 l9 s0 0 h)
set_option maxHeartbeats 4000000 in
theorem zX12_leads_116 {g : GP} {a : Nat → Nat} {P : PT} {J : JT} {z : Int32 × HT} {k87_ : Int32 → Int32 → Int32 → Int64 → Int64 → Int32 → Int32 → HT → Option (Int32 × HT)} (hJ : JX g 8 0 0 (PoI g a P z) J) (hk87 : ∀ (l1 : Int32) (l2 : Int32) (l3 : Int32) (l4 : Int64) (l6 : Int64) (l8 : Int32) (l9 : Int32) (h : HT), k87_ l1 l2 l3 l4 l6 l8 l9 h = some z → Z g mX12_leads J 0 0 87 [some (.ref (a 93)), some (.int l1), some (.int l2), some (.int l3), some (.long l4), none, some (.long l6), none, some (.int l8), some (.int l9), none, none, none] [] (WD g a h P)) (l1 : Int32) (l2 : Int32) (l3 : Int32) (l4 : Int64) (l6 : Int64) (l8 : Int32) (l9 : Int32) (s0 : Int32) (h : HT) (hf : fX12_leads_116 k87_ l1 l2 l3 l4 l6 l8 l9 s0 h = some z) : Z g mX12_leads J 0 0 116 [some (.ref (a 93)), some (.int l1), some (.int l2), some (.int l3), some (.long l4), none, some (.long l6), none, some (.int l8), some (.int l9), none, none, none] [.int s0] (WD g a h P) := by
  unfold fX12_leads_116 at hf
  refine Z.istore (n := 118) dX12_leads_116 rfl (by decide) rfl ?_
  refine Z.aload_n (n := 119) dX12_leads_118 rfl rfl ?_
  refine Z.getf (n := 122) fX12_147 dX12_leads_119 rfl W93 rfl ?_
  refine Z.iload (n := 124) dX12_leads_122 rfl rfl ?_
  refine Z.ishr (n := 125) dX12_leads_124 rfl ?_
  refine Z.iconst (n := 126) (v := 1) dX12_leads_125 rfl (by decide +kernel) ?_
  refine Z.iand (n := 127) dX12_leads_126 rfl ?_
  refine Z.iconst (n := 128) (v := 1) dX12_leads_127 rfl (by decide +kernel) ?_
  refine Z.icmp_ne (tgt := 135) (n := 131) dX12_leads_128 rfl rfl (fun c16 => ?_) (fun c16 => ?_)
  · rw [if_neg c16] at hf
    refine Z.iconst (n := 136) (v := 0) dX12_leads_135 rfl (by decide +kernel) ?_
    exact zX12_leads_136 hJ hk87 _ _ _ _ _ _ _ _ _ _ hf
  · rw [if_pos c16] at hf
    refine Z.iconst (n := 132) (v := 1) dX12_leads_131 rfl (by decide +kernel) ?_
    refine Z.goto (tgt := 136) dX12_leads_132 rfl ?_
    exact zX12_leads_136 hJ hk87 _ _ _ _ _ _ _ _ _ _ hf
def fX12_leads_87 : Nat → Int32 → Int32 → Int32 → Int64 → Int64 → Int32 → Int32 → HT → Option (Int32 × HT)
  | 0, _, _, _, _, _, _, _, _ => none
  | n + 1, l1, l2, l3, l4, l6, l8, l9, h =>
  if (h 94 0) ≤ l9 then (if l3 = 0 then (fX12_leads_295 l3 h)
  else (Option.bind (ck 490 ((290 : Int32) + l2)) fun j9 =>
  Option.bind (ck 490 ((270 : Int32) + l2)) fun j10 =>
  Option.bind (ck 490 ((300 : Int32) + l2)) fun j11 =>
  Option.bind (ck 490 ((270 : Int32) + l1)) fun j12 =>
  if (((hu (hu (hu h 94 j9 1) 94 j10 0) 94 j11 l1) 94 j12) + l8) ≤ 99 then (fX12_leads_294 l3 (((hu (hu (hu h 94 j9 1) 94 j10 0) 94 j11 l1) 94 j12) + l8) ((270 : Int32) + l1) (hu (hu (hu h 94 j9 1) 94 j10 0) 94 j11 l1))
  else (fX12_leads_294 l3 99 ((270 : Int32) + l1) (hu (hu (hu h 94 j9 1) 94 j10 0) 94 j11 l1))))
  else (if (((h 93 15) >>> (l9 &&& 31)) &&& (1 : Int32)) = 1 then (fX12_leads_116 (fX12_leads_87  n) l1 l2 l3 l4 l6 l8 l9 1 h)
  else (fX12_leads_116 (fX12_leads_87  n) l1 l2 l3 l4 l6 l8 l9 0 h))
set_option maxHeartbeats 4000000 in
theorem zX12_leads_87 {g : GP} {a : Nat → Nat} {P : PT} {J : JT} {z : Int32 × HT} (hJ : JX g 8 0 0 (PoI g a P z) J) : ∀ (n : Nat) (l1 : Int32) (l2 : Int32) (l3 : Int32) (l4 : Int64) (l6 : Int64) (l8 : Int32) (l9 : Int32) (h : HT), fX12_leads_87 n l1 l2 l3 l4 l6 l8 l9 h = some z → Z g mX12_leads J 0 0 87 [some (.ref (a 93)), some (.int l1), some (.int l2), some (.int l3), some (.long l4), none, some (.long l6), none, some (.int l8), some (.int l9), none, none, none] [] (WD g a h P) := by
  intro n
  induction n with
  | zero =>
    intro _ _ _ _ _ _ _ _ hf
    cases hf
  | succ n ih =>
    intro l1 l2 l3 l4 l6 l8 l9 h hf
    unfold fX12_leads_87 at hf
    refine Z.iload (n := 89) dX12_leads_87 rfl rfl ?_
    refine Z.aload_n (n := 90) dX12_leads_89 rfl rfl ?_
    refine Z.getf (n := 93) fX12_9 dX12_leads_90 rfl W93 rfl ?_
    refine Z.iconst (n := 94) (v := 0) dX12_leads_93 rfl (by decide +kernel) ?_
    refine Z.iald (j := 0) (n := 95) dX12_leads_94 rfl W94 (by decide +kernel) (by decide) (by decide) ?_
    refine Z.icmp_ge (tgt := 219) (n := 98) dX12_leads_95 rfl rfl (fun c6 => ?_) (fun c6 => ?_)
    · rw [if_pos c6] at hf
      refine Z.iload_n (n := 220) dX12_leads_219 rfl rfl ?_
      refine Z.if_eq (tgt := 295) (n := 223) dX12_leads_220 rfl rfl (fun c7 => ?_) (fun c7 => ?_)
      · rw [if_pos c7] at hf
        refine Z.fg [1, 2, 4, 6, 8, 9] ?_
        exact zX12_leads_295 hJ _ _ hf
      · rw [if_neg c7] at hf
        refine Z.aload_n (n := 224) dX12_leads_223 rfl rfl ?_
        refine Z.getf (n := 227) fX12_9 dX12_leads_224 rfl W93 rfl ?_
        refine Z.sipush (n := 230) (v := 290) dX12_leads_227 rfl (by decide +kernel) ?_
        refine Z.iload_n (n := 231) dX12_leads_230 rfl rfl ?_
        refine Z.iadd (n := 232) dX12_leads_231 rfl ?_
        refine Z.iconst (n := 233) (v := 1) dX12_leads_232 rfl (by decide +kernel) ?_
        obtain ⟨j9, ej9, hf⟩ := Option.bind_eq_some_iff.mp hf
        obtain ⟨hij9, hlj9⟩ := ck_spec ej9
        refine Z.iast (j := j9) (n := 234) dX12_leads_233 rfl W94 hij9 hlj9 (by decide) W94s ?_
        refine Z.aload_n (n := 235) dX12_leads_234 rfl rfl ?_
        refine Z.getf (n := 238) fX12_9 dX12_leads_235 rfl W93 rfl ?_
        refine Z.sipush (n := 241) (v := 270) dX12_leads_238 rfl (by decide +kernel) ?_
        refine Z.iload_n (n := 242) dX12_leads_241 rfl rfl ?_
        refine Z.iadd (n := 243) dX12_leads_242 rfl ?_
        refine Z.iconst (n := 244) (v := 0) dX12_leads_243 rfl (by decide +kernel) ?_
        obtain ⟨j10, ej10, hf⟩ := Option.bind_eq_some_iff.mp hf
        obtain ⟨hij10, hlj10⟩ := ck_spec ej10
        refine Z.iast (j := j10) (n := 245) dX12_leads_244 rfl W94 hij10 hlj10 (by decide) W94s ?_
        refine Z.aload_n (n := 246) dX12_leads_245 rfl rfl ?_
        refine Z.getf (n := 249) fX12_9 dX12_leads_246 rfl W93 rfl ?_
        refine Z.sipush (n := 252) (v := 300) dX12_leads_249 rfl (by decide +kernel) ?_
        refine Z.iload_n (n := 253) dX12_leads_252 rfl rfl ?_
        refine Z.iadd (n := 254) dX12_leads_253 rfl ?_
        refine Z.iload_n (n := 255) dX12_leads_254 rfl rfl ?_
        obtain ⟨j11, ej11, hf⟩ := Option.bind_eq_some_iff.mp hf
        obtain ⟨hij11, hlj11⟩ := ck_spec ej11
        refine Z.iast (j := j11) (n := 256) dX12_leads_255 rfl W94 hij11 hlj11 (by decide) W94s ?_
        refine Z.aload_n (n := 257) dX12_leads_256 rfl rfl ?_
        refine Z.getf (n := 260) fX12_9 dX12_leads_257 rfl W93 rfl ?_
        refine Z.sipush (n := 263) (v := 270) dX12_leads_260 rfl (by decide +kernel) ?_
        refine Z.iload_n (n := 264) dX12_leads_263 rfl rfl ?_
        refine Z.iadd (n := 265) dX12_leads_264 rfl ?_
        obtain ⟨j12, ej12, hf⟩ := Option.bind_eq_some_iff.mp hf
        obtain ⟨hij12, hlj12⟩ := ck_spec ej12
        refine Z.iald (j := j12) (n := 266) dX12_leads_265 rfl W94 hij12 hlj12 (by decide) ?_
        refine Z.iload (n := 268) dX12_leads_266 rfl rfl ?_
        refine Z.iadd (n := 269) dX12_leads_268 rfl ?_
        refine Z.istore (n := 271) dX12_leads_269 rfl (by decide) rfl ?_
        refine Z.aload_n (n := 272) dX12_leads_271 rfl rfl ?_
        refine Z.getf (n := 275) fX12_9 dX12_leads_272 rfl W93 rfl ?_
        refine Z.sipush (n := 278) (v := 270) dX12_leads_275 rfl (by decide +kernel) ?_
        refine Z.iload_n (n := 279) dX12_leads_278 rfl rfl ?_
        refine Z.iadd (n := 280) dX12_leads_279 rfl ?_
        refine Z.iload (n := 282) dX12_leads_280 rfl rfl ?_
        refine Z.bipush (n := 284) (v := 99) dX12_leads_282 rfl (by decide +kernel) ?_
        refine Z.icmp_le (tgt := 292) (n := 287) dX12_leads_284 rfl rfl (fun c13 => ?_) (fun c13 => ?_)
        · rw [if_pos c13] at hf
          refine Z.iload (n := 294) dX12_leads_292 rfl rfl ?_
          refine Z.fg [1, 2, 4, 6, 8, 9] ?_
          exact zX12_leads_294 hJ _ _ _ _ hf
        · rw [if_neg c13] at hf
          refine Z.bipush (n := 289) (v := 99) dX12_leads_287 rfl (by decide +kernel) ?_
          refine Z.goto (tgt := 294) dX12_leads_289 rfl ?_
          refine Z.fg [1, 2, 4, 6, 8, 9] ?_
          exact zX12_leads_294 hJ _ _ _ _ hf
    · rw [if_neg c6] at hf
      refine Z.aload_n (n := 99) dX12_leads_98 rfl rfl ?_
      refine Z.getf (n := 102) fX12_144 dX12_leads_99 rfl W93 rfl ?_
      refine Z.iload (n := 104) dX12_leads_102 rfl rfl ?_
      refine Z.ishr (n := 105) dX12_leads_104 rfl ?_
      refine Z.iconst (n := 106) (v := 1) dX12_leads_105 rfl (by decide +kernel) ?_
      refine Z.iand (n := 107) dX12_leads_106 rfl ?_
      refine Z.iconst (n := 108) (v := 1) dX12_leads_107 rfl (by decide +kernel) ?_
      refine Z.icmp_ne (tgt := 115) (n := 111) dX12_leads_108 rfl rfl (fun c15 => ?_) (fun c15 => ?_)
      · rw [if_neg c15] at hf
        refine Z.iconst (n := 116) (v := 0) dX12_leads_115 rfl (by decide +kernel) ?_
        exact zX12_leads_116 hJ ih _ _ _ _ _ _ _ _ _ hf
      · rw [if_pos c15] at hf
        refine Z.iconst (n := 112) (v := 1) dX12_leads_111 rfl (by decide +kernel) ?_
        refine Z.goto (tgt := 116) dX12_leads_112 rfl ?_
        exact zX12_leads_116 hJ ih _ _ _ _ _ _ _ _ _ hf
def fX12_leads_59 (l1 : Int32) (l2 : Int32) (l3 : Int32) (l4 : Int64) (s0 : Int64) (h : HT) : Option (Int32 × HT) :=
  Option.bind (ck 490 ((270 : Int32) + l2)) fun j5 =>
  fX12_leads_87 1000 l1 l2 l3 l4 s0 (((h 94 j5) * (h 94 8)) / (100 : Int32)) 0 h
set_option maxHeartbeats 4000000 in
theorem zX12_leads_59 {g : GP} {a : Nat → Nat} {P : PT} {J : JT} {z : Int32 × HT} (hJ : JX g 8 0 0 (PoI g a P z) J) (l1 : Int32) (l2 : Int32) (l3 : Int32) (l4 : Int64) (s0 : Int64) (h : HT) (hf : fX12_leads_59 l1 l2 l3 l4 s0 h = some z) : Z g mX12_leads J 0 0 59 [some (.ref (a 93)), some (.int l1), some (.int l2), some (.int l3), some (.long l4), none, none, none, none, none, none, none, none] [.long s0] (WD g a h P) := by
  unfold fX12_leads_59 at hf
  refine Z.lstore (n := 61) dX12_leads_59 rfl (by decide) rfl ?_
  refine Z.aload_n (n := 62) dX12_leads_61 rfl rfl ?_
  refine Z.getf (n := 65) fX12_9 dX12_leads_62 rfl W93 rfl ?_
  refine Z.sipush (n := 68) (v := 270) dX12_leads_65 rfl (by decide +kernel) ?_
  refine Z.iload_n (n := 69) dX12_leads_68 rfl rfl ?_
  refine Z.iadd (n := 70) dX12_leads_69 rfl ?_
  obtain ⟨j5, ej5, hf⟩ := Option.bind_eq_some_iff.mp hf
  obtain ⟨hij5, hlj5⟩ := ck_spec ej5
  refine Z.iald (j := j5) (n := 71) dX12_leads_70 rfl W94 hij5 hlj5 (by decide) ?_
  refine Z.aload_n (n := 72) dX12_leads_71 rfl rfl ?_
  refine Z.getf (n := 75) fX12_9 dX12_leads_72 rfl W93 rfl ?_
  refine Z.bipush (n := 77) (v := 8) dX12_leads_75 rfl (by decide +kernel) ?_
  refine Z.iald (j := 8) (n := 78) dX12_leads_77 rfl W94 (by decide +kernel) (by decide) (by decide) ?_
  refine Z.imul (n := 79) dX12_leads_78 rfl ?_
  refine Z.bipush (n := 81) (v := 100) dX12_leads_79 rfl (by decide +kernel) ?_
  refine Z.idiv (n := 82) dX12_leads_81 rfl (by decide +kernel) ?_
  refine Z.istore (n := 84) dX12_leads_82 rfl (by decide) rfl ?_
  refine Z.iconst (n := 85) (v := 0) dX12_leads_84 rfl (by decide +kernel) ?_
  refine Z.istore (n := 87) dX12_leads_85 rfl (by decide) rfl ?_
  exact zX12_leads_87 hJ _ _ _ _ _ _ _ _ _ hf
def fX12_leads_40 (l1 : Int32) (l2 : Int32) (l3 : Int32) (s0 : Int64) (h : HT) : Option (Int32 × HT) :=
  if l3 = 0 then (fX12_leads_59 l1 l2 l3 s0 ((h 93 18).toInt64) h)
  else (fX12_leads_59 l1 l2 l3 s0 ((h 93 17).toInt64) h)
set_option maxHeartbeats 4000000 in
theorem zX12_leads_40 {g : GP} {a : Nat → Nat} {P : PT} {J : JT} {z : Int32 × HT} (hJ : JX g 8 0 0 (PoI g a P z) J) (l1 : Int32) (l2 : Int32) (l3 : Int32) (s0 : Int64) (h : HT) (hf : fX12_leads_40 l1 l2 l3 s0 h = some z) : Z g mX12_leads J 0 0 40 [some (.ref (a 93)), some (.int l1), some (.int l2), some (.int l3), none, none, none, none, none, none, none, none, none] [.long s0] (WD g a h P) := by
  unfold fX12_leads_40 at hf
  refine Z.lstore (n := 42) dX12_leads_40 rfl (by decide) rfl ?_
  refine Z.iload_n (n := 43) dX12_leads_42 rfl rfl ?_
  refine Z.if_eq (tgt := 54) (n := 46) dX12_leads_43 rfl rfl (fun c4 => ?_) (fun c4 => ?_)
  · rw [if_pos c4] at hf
    refine Z.aload_n (n := 55) dX12_leads_54 rfl rfl ?_
    refine Z.getf (n := 58) fX12_179 dX12_leads_55 rfl W93 rfl ?_
    refine Z.i2l (n := 59) dX12_leads_58 rfl rfl ?_
    exact zX12_leads_59 hJ _ _ _ _ _ _ hf
  · rw [if_neg c4] at hf
    refine Z.aload_n (n := 47) dX12_leads_46 rfl rfl ?_
    refine Z.getf (n := 50) fX12_176 dX12_leads_47 rfl W93 rfl ?_
    refine Z.i2l (n := 51) dX12_leads_50 rfl rfl ?_
    refine Z.goto (tgt := 59) dX12_leads_51 rfl ?_
    exact zX12_leads_59 hJ _ _ _ _ _ _ hf
def fX12_leads_22 (l1 : Int32) (l2 : Int32) (s0 : Int32) (h : HT) : Option (Int32 × HT) :=
  if s0 = 0 then (fX12_leads_40 l1 l2 s0 ((h 93 17).toInt64) h)
  else (fX12_leads_40 l1 l2 s0 ((h 93 18).toInt64) h)
set_option maxHeartbeats 4000000 in
theorem zX12_leads_22 {g : GP} {a : Nat → Nat} {P : PT} {J : JT} {z : Int32 × HT} (hJ : JX g 8 0 0 (PoI g a P z) J) (l1 : Int32) (l2 : Int32) (s0 : Int32) (h : HT) (hf : fX12_leads_22 l1 l2 s0 h = some z) : Z g mX12_leads J 0 0 22 [some (.ref (a 93)), some (.int l1), some (.int l2), none, none, none, none, none, none, none, none, none, none] [.int s0] (WD g a h P) := by
  unfold fX12_leads_22 at hf
  refine Z.istore_n (n := 23) dX12_leads_22 rfl (by decide) rfl ?_
  refine Z.iload_n (n := 24) dX12_leads_23 rfl rfl ?_
  refine Z.if_eq (tgt := 35) (n := 27) dX12_leads_24 rfl rfl (fun c3 => ?_) (fun c3 => ?_)
  · rw [if_pos c3] at hf
    refine Z.aload_n (n := 36) dX12_leads_35 rfl rfl ?_
    refine Z.getf (n := 39) fX12_176 dX12_leads_36 rfl W93 rfl ?_
    refine Z.i2l (n := 40) dX12_leads_39 rfl rfl ?_
    exact zX12_leads_40 hJ _ _ _ _ _ hf
  · rw [if_neg c3] at hf
    refine Z.aload_n (n := 28) dX12_leads_27 rfl rfl ?_
    refine Z.getf (n := 31) fX12_179 dX12_leads_28 rfl W93 rfl ?_
    refine Z.i2l (n := 32) dX12_leads_31 rfl rfl ?_
    refine Z.goto (tgt := 40) dX12_leads_32 rfl ?_
    exact zX12_leads_40 hJ _ _ _ _ _ hf
def fX12_leads (l1 : Int32) (l2 : Int32) (h : HT) : Option (Int32 × HT) :=
  Option.bind (fX12_sums l1 l2 h) fun z1 =>
  if (z1.2 93 17) ≤ (z1.2 93 18) then (fX12_leads_22 l1 l2 0 z1.2)
  else (fX12_leads_22 l1 l2 1 z1.2)
set_option maxHeartbeats 4000000 in
theorem ctX12_leads {g : GP} {a : Nat → Nat} {P : PT} {h : HT} {z : Int32 × HT} {l1 : Int32} {l2 : Int32} (hf : fX12_leads l1 l2 h = some z) : Ct g 8 0 0 mX12_leads [.ref (a 93), .int l1, .int l2] (WD g a h P) (PoI g a P z) := by
  refine Ct.of (by decide +kernel) (Nat.le_of_ble_eq_true rfl) fun J hJ => ?_
  show Z g mX12_leads J 0 0 0 [some (.ref (a 93)), some (.int l1), some (.int l2), none, none, none, none, none, none, none, none, none, none] [] (WD g a h P)
  unfold fX12_leads at hf
  refine Z.aload_n (n := 1) dX12_leads_0 rfl rfl ?_
  refine Z.iload_n (n := 2) dX12_leads_1 rfl rfl ?_
  refine Z.iload_n (n := 3) dX12_leads_2 rfl rfl ?_
  obtain ⟨z1, ez1, hf⟩ := Option.bind_eq_some_iff.mp hf
  refine Z.callV (n := 6) vX12_182 (ctX12_sums ez1) hJ.rm (Nat.le_of_ble_eq_true rfl) rfl rfl (Nat.le_refl _) (Nat.le_refl _) rfl W93 rfl rfl (Nat.le_of_ble_eq_true rfl) rfl dX12_leads_3 rfl (fun v w hw => ?_)
  obtain ⟨rfl, rfl⟩ := hw
  show Z _ _ _ _ _ _ _ [] _
  refine Z.aload_n (n := 7) dX12_leads_6 rfl rfl ?_
  refine Z.getf (n := 10) fX12_176 dX12_leads_7 rfl W93 rfl ?_
  refine Z.aload_n (n := 11) dX12_leads_10 rfl rfl ?_
  refine Z.getf (n := 14) fX12_179 dX12_leads_11 rfl W93 rfl ?_
  refine Z.icmp_le (tgt := 21) (n := 17) dX12_leads_14 rfl rfl (fun c2 => ?_) (fun c2 => ?_)
  · rw [if_pos c2] at hf
    refine Z.iconst (n := 22) (v := 0) dX12_leads_21 rfl (by decide +kernel) ?_
    exact zX12_leads_22 hJ _ _ _ _ hf
  · rw [if_neg c2] at hf
    refine Z.iconst (n := 18) (v := 1) dX12_leads_17 rfl (by decide +kernel) ?_
    refine Z.goto (tgt := 22) dX12_leads_18 rfl ?_
    exact zX12_leads_22 hJ _ _ _ _ hf
def fX12_lead_24 (h : HT) : Option (Int32 × HT) :=
  some ((-1), h)
set_option maxHeartbeats 4000000 in
theorem zX12_lead_24 {g : GP} {a : Nat → Nat} {P : PT} {J : JT} {z : Int32 × HT} (hJ : JX g 9 0 0 (PoI g a P z) J) (h : HT) (hf : fX12_lead_24 h = some z) : Z g mX12_lead J 0 0 24 [none, none, none, none] [] (WD g a h P) := by
  unfold fX12_lead_24 at hf
  refine Z.iconst (n := 25) (v := -1) dX12_lead_24 rfl (by decide +kernel) ?_
  have hz := Option.some.inj hf
  subst hz
  exact Z.iret hJ dX12_lead_25 rfl (Nat.le_refl _) (Nat.le_refl _) ⟨rfl, rfl⟩
def fX12_lead_50 (h : HT) : Option (Int32 × HT) :=
  some ((-3), h)
set_option maxHeartbeats 4000000 in
theorem zX12_lead_50 {g : GP} {a : Nat → Nat} {P : PT} {J : JT} {z : Int32 × HT} (hJ : JX g 9 0 0 (PoI g a P z) J) (h : HT) (hf : fX12_lead_50 h = some z) : Z g mX12_lead J 0 0 50 [none, none, none, none] [] (WD g a h P) := by
  unfold fX12_lead_50 at hf
  refine Z.bipush (n := 52) (v := -3) dX12_lead_50 rfl (by decide +kernel) ?_
  have hz := Option.some.inj hf
  subst hz
  exact Z.iret hJ dX12_lead_52 rfl (Nat.le_refl _) (Nat.le_refl _) ⟨rfl, rfl⟩
def fX12_lead (l1 : Int32) (l2 : Int32) (l3 : Int32) (h : HT) : Option (Int32 × HT) :=
  Option.bind (fX12_isStanding l1 h) fun z1 =>
  if z1.1 = 0 then (fX12_lead_24 z1.2)
  else (Option.bind (fX12_isKing l2 z1.2) fun z3 =>
  if z3.1 = 0 then (fX12_lead_24 z3.2)
  else (Option.bind (fX12_isKing l3 z3.2) fun z5 =>
  if z5.1 = 0 then (fX12_lead_24 z5.2)
  else (if l2 = l3 then (some ((-2), z5.2))
  else (Option.bind (fX12_isAlive l2 z5.2) fun z8 =>
  if z8.1 = 0 then (fX12_lead_50 z8.2)
  else (Option.bind (fX12_isAlive l3 z8.2) fun z10 =>
  if z10.1 = 0 then (fX12_lead_50 z10.2)
  else (Option.bind (fX12_takes l1 z10.2) fun z12 =>
  Option.bind (fX12_leads l2 l3 z12.2) fun z13 =>
  some (z13.1, z13.2)))))))
set_option maxHeartbeats 4000000 in
theorem ctX12_lead {g : GP} {a : Nat → Nat} {P : PT} {h : HT} {z : Int32 × HT} {l1 : Int32} {l2 : Int32} {l3 : Int32} (hf : fX12_lead l1 l2 l3 h = some z) : Ct g 9 0 0 mX12_lead [.ref (a 93), .int l1, .int l2, .int l3] (WD g a h P) (PoI g a P z) := by
  refine Ct.of (by decide +kernel) (Nat.le_of_ble_eq_true rfl) fun J hJ => ?_
  show Z g mX12_lead J 0 0 0 [some (.ref (a 93)), some (.int l1), some (.int l2), some (.int l3)] [] (WD g a h P)
  unfold fX12_lead at hf
  refine Z.aload_n (n := 1) dX12_lead_0 rfl rfl ?_
  refine Z.iload_n (n := 2) dX12_lead_1 rfl rfl ?_
  obtain ⟨z1, ez1, hf⟩ := Option.bind_eq_some_iff.mp hf
  refine Z.callV (n := 5) vX12_132 (ctX12_isStanding ez1) hJ.rm (Nat.le_of_ble_eq_true rfl) rfl rfl (Nat.le_refl _) (Nat.le_refl _) rfl W93 rfl rfl (Nat.le_of_ble_eq_true rfl) rfl dX12_lead_2 rfl (fun v w hw => ?_)
  obtain ⟨rfl, rfl⟩ := hw
  show Z _ _ _ _ _ _ _ [.int z1.1] _
  refine Z.if_eq (tgt := 24) (n := 8) dX12_lead_5 rfl rfl (fun c2 => ?_) (fun c2 => ?_)
  · rw [if_pos c2] at hf
    refine Z.fg [0, 1, 2, 3] ?_
    exact zX12_lead_24 hJ _ hf
  · rw [if_neg c2] at hf
    refine Z.aload_n (n := 9) dX12_lead_8 rfl rfl ?_
    refine Z.iload_n (n := 10) dX12_lead_9 rfl rfl ?_
    obtain ⟨z3, ez3, hf⟩ := Option.bind_eq_some_iff.mp hf
    refine Z.callV (n := 13) vX12_45 (ctX12_isKing ez3) hJ.rm (Nat.le_of_ble_eq_true rfl) rfl rfl (Nat.le_refl _) (Nat.le_refl _) rfl W93 rfl rfl (Nat.le_of_ble_eq_true rfl) rfl dX12_lead_10 rfl (fun v w hw => ?_)
    obtain ⟨rfl, rfl⟩ := hw
    show Z _ _ _ _ _ _ _ [.int z3.1] _
    refine Z.if_eq (tgt := 24) (n := 16) dX12_lead_13 rfl rfl (fun c4 => ?_) (fun c4 => ?_)
    · rw [if_pos c4] at hf
      refine Z.fg [0, 1, 2, 3] ?_
      exact zX12_lead_24 hJ _ hf
    · rw [if_neg c4] at hf
      refine Z.aload_n (n := 17) dX12_lead_16 rfl rfl ?_
      refine Z.iload_n (n := 18) dX12_lead_17 rfl rfl ?_
      obtain ⟨z5, ez5, hf⟩ := Option.bind_eq_some_iff.mp hf
      refine Z.callV (n := 21) vX12_45 (ctX12_isKing ez5) hJ.rm (Nat.le_of_ble_eq_true rfl) rfl rfl (Nat.le_refl _) (Nat.le_refl _) rfl W93 rfl rfl (Nat.le_of_ble_eq_true rfl) rfl dX12_lead_18 rfl (fun v w hw => ?_)
      obtain ⟨rfl, rfl⟩ := hw
      show Z _ _ _ _ _ _ _ [.int z5.1] _
      refine Z.if_ne (tgt := 26) (n := 24) dX12_lead_21 rfl rfl (fun c6 => ?_) (fun c6 => ?_)
      · rw [if_neg c6] at hf
        refine Z.iload_n (n := 27) dX12_lead_26 rfl rfl ?_
        refine Z.iload_n (n := 28) dX12_lead_27 rfl rfl ?_
        refine Z.icmp_ne (tgt := 34) (n := 31) dX12_lead_28 rfl rfl (fun c7 => ?_) (fun c7 => ?_)
        · rw [if_neg c7] at hf
          refine Z.aload_n (n := 35) dX12_lead_34 rfl rfl ?_
          refine Z.iload_n (n := 36) dX12_lead_35 rfl rfl ?_
          obtain ⟨z8, ez8, hf⟩ := Option.bind_eq_some_iff.mp hf
          refine Z.callV (n := 39) vX12_49 (ctX12_isAlive ez8) hJ.rm (Nat.le_of_ble_eq_true rfl) rfl rfl (Nat.le_refl _) (Nat.le_refl _) rfl W93 rfl rfl (Nat.le_of_ble_eq_true rfl) rfl dX12_lead_36 rfl (fun v w hw => ?_)
          obtain ⟨rfl, rfl⟩ := hw
          show Z _ _ _ _ _ _ _ [.int z8.1] _
          refine Z.if_eq (tgt := 50) (n := 42) dX12_lead_39 rfl rfl (fun c9 => ?_) (fun c9 => ?_)
          · rw [if_pos c9] at hf
            refine Z.fg [0, 1, 2, 3] ?_
            exact zX12_lead_50 hJ _ hf
          · rw [if_neg c9] at hf
            refine Z.aload_n (n := 43) dX12_lead_42 rfl rfl ?_
            refine Z.iload_n (n := 44) dX12_lead_43 rfl rfl ?_
            obtain ⟨z10, ez10, hf⟩ := Option.bind_eq_some_iff.mp hf
            refine Z.callV (n := 47) vX12_49 (ctX12_isAlive ez10) hJ.rm (Nat.le_of_ble_eq_true rfl) rfl rfl (Nat.le_refl _) (Nat.le_refl _) rfl W93 rfl rfl (Nat.le_of_ble_eq_true rfl) rfl dX12_lead_44 rfl (fun v w hw => ?_)
            obtain ⟨rfl, rfl⟩ := hw
            show Z _ _ _ _ _ _ _ [.int z10.1] _
            refine Z.if_ne (tgt := 53) (n := 50) dX12_lead_47 rfl rfl (fun c11 => ?_) (fun c11 => ?_)
            · rw [if_neg c11] at hf
              refine Z.aload_n (n := 54) dX12_lead_53 rfl rfl ?_
              refine Z.iload_n (n := 55) dX12_lead_54 rfl rfl ?_
              obtain ⟨z12, ez12, hf⟩ := Option.bind_eq_some_iff.mp hf
              refine Z.callV (n := 58) vX12_170 (ctX12_takes ez12) hJ.rm (Nat.le_of_ble_eq_true rfl) rfl rfl (Nat.le_refl _) (Nat.le_refl _) rfl W93 rfl rfl (Nat.le_of_ble_eq_true rfl) rfl dX12_lead_55 rfl (fun v w hw => ?_)
              obtain ⟨rfl, rfl⟩ := hw
              show Z _ _ _ _ _ _ _ [] _
              refine Z.aload_n (n := 59) dX12_lead_58 rfl rfl ?_
              refine Z.iload_n (n := 60) dX12_lead_59 rfl rfl ?_
              refine Z.iload_n (n := 61) dX12_lead_60 rfl rfl ?_
              obtain ⟨z13, ez13, hf⟩ := Option.bind_eq_some_iff.mp hf
              refine Z.callV (n := 64) vX12_241 (ctX12_leads ez13) hJ.rm (Nat.le_of_ble_eq_true rfl) rfl rfl (Nat.le_refl _) (Nat.le_refl _) rfl W93 rfl rfl (Nat.le_of_ble_eq_true rfl) rfl dX12_lead_61 rfl (fun v w hw => ?_)
              obtain ⟨rfl, rfl⟩ := hw
              show Z _ _ _ _ _ _ _ [.int z13.1] _
              have hz := Option.some.inj hf
              subst hz
              exact Z.iret hJ dX12_lead_64 rfl (Nat.le_refl _) (Nat.le_refl _) ⟨rfl, rfl⟩
            · rw [if_pos c11] at hf
              refine Z.fg [0, 1, 2, 3] ?_
              exact zX12_lead_50 hJ _ hf
        · rw [if_pos c7] at hf
          refine Z.bipush (n := 33) (v := -2) dX12_lead_31 rfl (by decide +kernel) ?_
          have hz := Option.some.inj hf
          subst hz
          exact Z.iret hJ dX12_lead_33 rfl (Nat.le_refl _) (Nat.le_refl _) ⟨rfl, rfl⟩
      · rw [if_pos c6] at hf
        refine Z.fg [0, 1, 2, 3] ?_
        exact zX12_lead_24 hJ _ hf
def fX12_next_17 : Nat → Int32 → HT → Option (Int32 × HT)
  | 0, _, _ => none
  | n + 1, l2, h =>
  if 20 ≤ l2 then (some (20, h))
  else (Option.bind (fX12_firstWar  h) fun z5 =>
  if z5.1 = (-5) then (some (l2, z5.2))
  else (Option.bind (fX12_leads (z5.1 / (10 : Int32)) (z5.1 - z5.1 / (10 : Int32) * (10 : Int32)) z5.2) fun z7 =>
  fX12_next_17  n (l2 + 1) z7.2))
set_option maxHeartbeats 4000000 in
theorem zX12_next_17 {g : GP} {a : Nat → Nat} {P : PT} {J : JT} {z : Int32 × HT} (hJ : JX g 11 0 0 (PoI g a P z) J) : ∀ (n : Nat) (l2 : Int32) (h : HT), fX12_next_17 n l2 h = some z → Z g mX12_next J 0 0 17 [some (.ref (a 93)), none, some (.int l2), none, none] [] (WD g a h P) := by
  intro n
  induction n with
  | zero =>
    intro _ _ hf
    cases hf
  | succ n ih =>
    intro l2 h hf
    unfold fX12_next_17 at hf
    refine Z.iload_n (n := 18) dX12_next_17 rfl rfl ?_
    refine Z.bipush (n := 20) (v := 20) dX12_next_18 rfl (by decide +kernel) ?_
    refine Z.icmp_ge (tgt := 56) (n := 23) dX12_next_20 rfl rfl (fun c4 => ?_) (fun c4 => ?_)
    · rw [if_pos c4] at hf
      refine Z.bipush (n := 58) (v := 20) dX12_next_56 rfl (by decide +kernel) ?_
      have hz := Option.some.inj hf
      subst hz
      exact Z.iret hJ dX12_next_58 rfl (Nat.le_refl _) (Nat.le_refl _) ⟨rfl, rfl⟩
    · rw [if_neg c4] at hf
      refine Z.aload_n (n := 24) dX12_next_23 rfl rfl ?_
      obtain ⟨z5, ez5, hf⟩ := Option.bind_eq_some_iff.mp hf
      refine Z.callV (n := 27) vX12_196 (ctX12_firstWar ez5) hJ.rm (Nat.le_of_ble_eq_true rfl) rfl rfl (Nat.le_refl _) (Nat.le_refl _) rfl W93 rfl rfl (Nat.le_of_ble_eq_true rfl) rfl dX12_next_24 rfl (fun v w hw => ?_)
      obtain ⟨rfl, rfl⟩ := hw
      show Z _ _ _ _ _ _ _ [.int z5.1] _
      refine Z.istore_n (n := 28) dX12_next_27 rfl (by decide) rfl ?_
      refine Z.iload_n (n := 29) dX12_next_28 rfl rfl ?_
      refine Z.bipush (n := 31) (v := -5) dX12_next_29 rfl (by decide +kernel) ?_
      refine Z.icmp_ne (tgt := 36) (n := 34) dX12_next_31 rfl rfl (fun c6 => ?_) (fun c6 => ?_)
      · rw [if_neg c6] at hf
        refine Z.aload_n (n := 37) dX12_next_36 rfl rfl ?_
        refine Z.iload_n (n := 38) dX12_next_37 rfl rfl ?_
        refine Z.bipush (n := 40) (v := 10) dX12_next_38 rfl (by decide +kernel) ?_
        refine Z.idiv (n := 41) dX12_next_40 rfl (by decide +kernel) ?_
        refine Z.iload_n (n := 42) dX12_next_41 rfl rfl ?_
        refine Z.bipush (n := 44) (v := 10) dX12_next_42 rfl (by decide +kernel) ?_
        refine Z.irem (n := 45) dX12_next_44 rfl (by decide +kernel) ?_
        obtain ⟨z7, ez7, hf⟩ := Option.bind_eq_some_iff.mp hf
        refine Z.callV (n := 48) vX12_241 (ctX12_leads ez7) hJ.rm (Nat.le_of_ble_eq_true rfl) rfl rfl (Nat.le_refl _) (Nat.le_refl _) rfl W93 rfl rfl (Nat.le_of_ble_eq_true rfl) rfl dX12_next_45 rfl (fun v w hw => ?_)
        obtain ⟨rfl, rfl⟩ := hw
        show Z _ _ _ _ _ _ _ [.int z7.1] _
        refine Z.istore (n := 50) dX12_next_48 rfl (by decide) rfl ?_
        refine Z.iinc (n := 53) (v := l2 + 1) dX12_next_50 rfl rfl rfl (by decide) rfl ?_
        refine Z.goto (tgt := 17) dX12_next_53 rfl ?_
        refine Z.fg [3, 4] ?_
        exact ih _ _ hf
      · rw [if_pos c6] at hf
        refine Z.iload_n (n := 35) dX12_next_34 rfl rfl ?_
        have hz := Option.some.inj hf
        subst hz
        exact Z.iret hJ dX12_next_35 rfl (Nat.le_refl _) (Nat.le_refl _) ⟨rfl, rfl⟩
def fX12_next (l1 : Int32) (h : HT) : Option (Int32 × HT) :=
  Option.bind (fX12_isStanding l1 h) fun z1 =>
  if z1.1 = 0 then (some ((-1), z1.2))
  else (Option.bind (fX12_takes l1 z1.2) fun z3 =>
  fX12_next_17 1000 0 z3.2)
set_option maxHeartbeats 4000000 in
theorem ctX12_next {g : GP} {a : Nat → Nat} {P : PT} {h : HT} {z : Int32 × HT} {l1 : Int32} (hf : fX12_next l1 h = some z) : Ct g 11 0 0 mX12_next [.ref (a 93), .int l1] (WD g a h P) (PoI g a P z) := by
  refine Ct.of (by decide +kernel) (Nat.le_of_ble_eq_true rfl) fun J hJ => ?_
  show Z g mX12_next J 0 0 0 [some (.ref (a 93)), some (.int l1), none, none, none] [] (WD g a h P)
  unfold fX12_next at hf
  refine Z.aload_n (n := 1) dX12_next_0 rfl rfl ?_
  refine Z.iload_n (n := 2) dX12_next_1 rfl rfl ?_
  obtain ⟨z1, ez1, hf⟩ := Option.bind_eq_some_iff.mp hf
  refine Z.callV (n := 5) vX12_132 (ctX12_isStanding ez1) hJ.rm (Nat.le_of_ble_eq_true rfl) rfl rfl (Nat.le_refl _) (Nat.le_refl _) rfl W93 rfl rfl (Nat.le_of_ble_eq_true rfl) rfl dX12_next_2 rfl (fun v w hw => ?_)
  obtain ⟨rfl, rfl⟩ := hw
  show Z _ _ _ _ _ _ _ [.int z1.1] _
  refine Z.if_ne (tgt := 10) (n := 8) dX12_next_5 rfl rfl (fun c2 => ?_) (fun c2 => ?_)
  · rw [if_neg c2] at hf
    refine Z.aload_n (n := 11) dX12_next_10 rfl rfl ?_
    refine Z.iload_n (n := 12) dX12_next_11 rfl rfl ?_
    obtain ⟨z3, ez3, hf⟩ := Option.bind_eq_some_iff.mp hf
    refine Z.callV (n := 15) vX12_170 (ctX12_takes ez3) hJ.rm (Nat.le_of_ble_eq_true rfl) rfl rfl (Nat.le_refl _) (Nat.le_refl _) rfl W93 rfl rfl (Nat.le_of_ble_eq_true rfl) rfl dX12_next_12 rfl (fun v w hw => ?_)
    obtain ⟨rfl, rfl⟩ := hw
    show Z _ _ _ _ _ _ _ [] _
    refine Z.iconst (n := 16) (v := 0) dX12_next_15 rfl (by decide +kernel) ?_
    refine Z.istore_n (n := 17) dX12_next_16 rfl (by decide) rfl ?_
    refine Z.fg [1] ?_
    exact zX12_next_17 hJ _ _ _ hf
  · rw [if_pos c2] at hf
    refine Z.iconst (n := 9) (v := -1) dX12_next_8 rfl (by decide +kernel) ?_
    have hz := Option.some.inj hf
    subst hz
    exact Z.iret hJ dX12_next_9 rfl (Nat.le_refl _) (Nat.le_refl _) ⟨rfl, rfl⟩
def fX12_turnsOf_83 (k26_ : Int32 → Int32 → Int32 → Int32 → Int32 → HT → Option (Int32 × HT)) (l1 : Int32) (l2 : Int32) (l3 : Int32) (l5 : Int32) (s0 : Int32) (s1 : Int32) (h : HT) : Option (Int32 × HT) :=
  k26_ l1 l2 l3 (s1 + s0) (l5 + 1) h
set_option maxHeartbeats 4000000 in
theorem zX12_turnsOf_83 {g : GP} {a : Nat → Nat} {P : PT} {J : JT} {z : Int32 × HT} {k26_ : Int32 → Int32 → Int32 → Int32 → Int32 → HT → Option (Int32 × HT)} (hJ : JX g 5 0 0 (PoI g a P z) J) (hk26 : ∀ (l1 : Int32) (l2 : Int32) (l3 : Int32) (l4 : Int32) (l5 : Int32) (h : HT), k26_ l1 l2 l3 l4 l5 h = some z → Z g mX12_turnsOf J 0 0 26 [some (.ref (a 93)), some (.int l1), some (.int l2), some (.int l3), some (.int l4), some (.int l5), none] [] (WD g a h P)) (l1 : Int32) (l2 : Int32) (l3 : Int32) (l5 : Int32) (s0 : Int32) (s1 : Int32) (h : HT) (hf : fX12_turnsOf_83 k26_ l1 l2 l3 l5 s0 s1 h = some z) : Z g mX12_turnsOf J 0 0 83 [some (.ref (a 93)), some (.int l1), some (.int l2), some (.int l3), none, some (.int l5), none] [.int s0, .int s1] (WD g a h P) := by
  unfold fX12_turnsOf_83 at hf
  refine Z.iadd (n := 84) dX12_turnsOf_83 rfl ?_
  refine Z.istore (n := 86) dX12_turnsOf_84 rfl (by decide) rfl ?_
  refine Z.iinc (n := 89) (v := l5 + 1) dX12_turnsOf_86 rfl rfl rfl (by decide) rfl ?_
  refine Z.goto (tgt := 26) dX12_turnsOf_89 rfl ?_
  exact hk26 _ _ _ _ _ _ hf
def fX12_turnsOf_82 (k26_ : Int32 → Int32 → Int32 → Int32 → Int32 → HT → Option (Int32 × HT)) (l1 : Int32) (l2 : Int32) (l3 : Int32) (l5 : Int32) (s0 : Int32) (h : HT) : Option (Int32 × HT) :=
  fX12_turnsOf_83 k26_ l1 l2 l3 l5 0 s0 h
set_option maxHeartbeats 4000000 in
theorem zX12_turnsOf_82 {g : GP} {a : Nat → Nat} {P : PT} {J : JT} {z : Int32 × HT} {k26_ : Int32 → Int32 → Int32 → Int32 → Int32 → HT → Option (Int32 × HT)} (hJ : JX g 5 0 0 (PoI g a P z) J) (hk26 : ∀ (l1 : Int32) (l2 : Int32) (l3 : Int32) (l4 : Int32) (l5 : Int32) (h : HT), k26_ l1 l2 l3 l4 l5 h = some z → Z g mX12_turnsOf J 0 0 26 [some (.ref (a 93)), some (.int l1), some (.int l2), some (.int l3), some (.int l4), some (.int l5), none] [] (WD g a h P)) (l1 : Int32) (l2 : Int32) (l3 : Int32) (l5 : Int32) (s0 : Int32) (h : HT) (hf : fX12_turnsOf_82 k26_ l1 l2 l3 l5 s0 h = some z) : Z g mX12_turnsOf J 0 0 82 [some (.ref (a 93)), some (.int l1), some (.int l2), some (.int l3), none, some (.int l5), none] [.int s0] (WD g a h P) := by
  unfold fX12_turnsOf_82 at hf
  refine Z.iconst (n := 83) (v := 0) dX12_turnsOf_82 rfl (by decide +kernel) ?_
  exact zX12_turnsOf_83 hJ hk26 _ _ _ _ _ _ _ hf
def fX12_turnsOf_26 : Nat → Int32 → Int32 → Int32 → Int32 → Int32 → HT → Option (Int32 × HT)
  | 0, _, _, _, _, _, _ => none
  | n + 1, l1, l2, l3, l4, l5, h =>
  if l3 < l5 then (some (l4, h))
  else (Option.bind (fX12_strengths l5 h) fun z5 =>
  if (l5 &&& (l3 ^^^ (-1 : Int32))) = 0 then (if l2 < ((2 : Int32) * z5.1) then (fX12_turnsOf_82 (fX12_turnsOf_26  n) l1 l2 l3 l5 l4 z5.2)
  else (Option.bind (ck 490 ((270 : Int32) + l1)) fun j8 =>
  if ((2 : Int32) * (z5.1 + (z5.2 94 j8))) ≤ l2 then (fX12_turnsOf_82 (fX12_turnsOf_26  n) l1 l2 l3 l5 l4 z5.2)
  else (fX12_turnsOf_83 (fX12_turnsOf_26  n) l1 l2 l3 l5 1 l4 z5.2)))
  else (fX12_turnsOf_82 (fX12_turnsOf_26  n) l1 l2 l3 l5 l4 z5.2))
set_option maxHeartbeats 4000000 in
theorem zX12_turnsOf_26 {g : GP} {a : Nat → Nat} {P : PT} {J : JT} {z : Int32 × HT} (hJ : JX g 5 0 0 (PoI g a P z) J) : ∀ (n : Nat) (l1 : Int32) (l2 : Int32) (l3 : Int32) (l4 : Int32) (l5 : Int32) (h : HT), fX12_turnsOf_26 n l1 l2 l3 l4 l5 h = some z → Z g mX12_turnsOf J 0 0 26 [some (.ref (a 93)), some (.int l1), some (.int l2), some (.int l3), some (.int l4), some (.int l5), none] [] (WD g a h P) := by
  intro n
  induction n with
  | zero =>
    intro _ _ _ _ _ _ hf
    cases hf
  | succ n ih =>
    intro l1 l2 l3 l4 l5 h hf
    unfold fX12_turnsOf_26 at hf
    refine Z.iload (n := 28) dX12_turnsOf_26 rfl rfl ?_
    refine Z.iload_n (n := 29) dX12_turnsOf_28 rfl rfl ?_
    refine Z.icmp_gt (tgt := 92) (n := 32) dX12_turnsOf_29 rfl rfl (fun c4 => ?_) (fun c4 => ?_)
    · rw [if_pos c4] at hf
      refine Z.iload (n := 94) dX12_turnsOf_92 rfl rfl ?_
      have hz := Option.some.inj hf
      subst hz
      exact Z.iret hJ dX12_turnsOf_94 rfl (Nat.le_refl _) (Nat.le_refl _) ⟨rfl, rfl⟩
    · rw [if_neg c4] at hf
      refine Z.aload_n (n := 33) dX12_turnsOf_32 rfl rfl ?_
      refine Z.iload (n := 35) dX12_turnsOf_33 rfl rfl ?_
      obtain ⟨z5, ez5, hf⟩ := Option.bind_eq_some_iff.mp hf
      refine Z.callV (n := 38) vX12_150 (ctX12_strengths ez5) hJ.rm (Nat.le_of_ble_eq_true rfl) rfl rfl (Nat.le_refl _) (Nat.le_refl _) rfl W93 rfl rfl (Nat.le_of_ble_eq_true rfl) rfl dX12_turnsOf_35 rfl (fun v w hw => ?_)
      obtain ⟨rfl, rfl⟩ := hw
      show Z _ _ _ _ _ _ _ [.int z5.1] _
      refine Z.istore (n := 40) dX12_turnsOf_38 rfl (by decide) rfl ?_
      refine Z.iload (n := 42) dX12_turnsOf_40 rfl rfl ?_
      refine Z.iload (n := 44) dX12_turnsOf_42 rfl rfl ?_
      refine Z.iload_n (n := 45) dX12_turnsOf_44 rfl rfl ?_
      refine Z.iconst (n := 46) (v := -1) dX12_turnsOf_45 rfl (by decide +kernel) ?_
      refine Z.ixor (n := 47) dX12_turnsOf_46 rfl ?_
      refine Z.iand (n := 48) dX12_turnsOf_47 rfl ?_
      refine Z.if_ne (tgt := 82) (n := 51) dX12_turnsOf_48 rfl rfl (fun c6 => ?_) (fun c6 => ?_)
      · rw [if_neg c6] at hf
        refine Z.fg [4, 6] ?_
        exact zX12_turnsOf_82 hJ ih _ _ _ _ _ _ hf
      · rw [if_pos c6] at hf
        refine Z.iconst (n := 52) (v := 2) dX12_turnsOf_51 rfl (by decide +kernel) ?_
        refine Z.iload (n := 54) dX12_turnsOf_52 rfl rfl ?_
        refine Z.imul (n := 55) dX12_turnsOf_54 rfl ?_
        refine Z.iload_n (n := 56) dX12_turnsOf_55 rfl rfl ?_
        refine Z.icmp_gt (tgt := 82) (n := 59) dX12_turnsOf_56 rfl rfl (fun c7 => ?_) (fun c7 => ?_)
        · rw [if_pos c7] at hf
          refine Z.fg [4, 6] ?_
          exact zX12_turnsOf_82 hJ ih _ _ _ _ _ _ hf
        · rw [if_neg c7] at hf
          refine Z.iconst (n := 60) (v := 2) dX12_turnsOf_59 rfl (by decide +kernel) ?_
          refine Z.iload (n := 62) dX12_turnsOf_60 rfl rfl ?_
          refine Z.aload_n (n := 63) dX12_turnsOf_62 rfl rfl ?_
          refine Z.getf (n := 66) fX12_9 dX12_turnsOf_63 rfl W93 rfl ?_
          refine Z.sipush (n := 69) (v := 270) dX12_turnsOf_66 rfl (by decide +kernel) ?_
          refine Z.iload_n (n := 70) dX12_turnsOf_69 rfl rfl ?_
          refine Z.iadd (n := 71) dX12_turnsOf_70 rfl ?_
          obtain ⟨j8, ej8, hf⟩ := Option.bind_eq_some_iff.mp hf
          obtain ⟨hij8, hlj8⟩ := ck_spec ej8
          refine Z.iald (j := j8) (n := 72) dX12_turnsOf_71 rfl W94 hij8 hlj8 (by decide) ?_
          refine Z.iadd (n := 73) dX12_turnsOf_72 rfl ?_
          refine Z.imul (n := 74) dX12_turnsOf_73 rfl ?_
          refine Z.iload_n (n := 75) dX12_turnsOf_74 rfl rfl ?_
          refine Z.icmp_le (tgt := 82) (n := 78) dX12_turnsOf_75 rfl rfl (fun c9 => ?_) (fun c9 => ?_)
          · rw [if_pos c9] at hf
            refine Z.fg [4, 6] ?_
            exact zX12_turnsOf_82 hJ ih _ _ _ _ _ _ hf
          · rw [if_neg c9] at hf
            refine Z.iconst (n := 79) (v := 1) dX12_turnsOf_78 rfl (by decide +kernel) ?_
            refine Z.goto (tgt := 83) dX12_turnsOf_79 rfl ?_
            refine Z.fg [4, 6] ?_
            exact zX12_turnsOf_83 hJ ih _ _ _ _ _ _ _ hf
def fX12_turnsOf (l1 : Int32) (h : HT) : Option (Int32 × HT) :=
  Option.bind (fX12_alive  h) fun z1 =>
  Option.bind (fX12_strengths z1.1 z1.2) fun z2 =>
  Option.bind (fX12_alive  z2.2) fun z3 =>
  fX12_turnsOf_26 1000 l1 z2.1 (z3.1 &&& (((1 : Int32) <<< (l1 &&& 31)) ^^^ (-1 : Int32))) 0 0 z3.2
set_option maxHeartbeats 4000000 in
theorem ctX12_turnsOf {g : GP} {a : Nat → Nat} {P : PT} {h : HT} {z : Int32 × HT} {l1 : Int32} (hf : fX12_turnsOf l1 h = some z) : Ct g 5 0 0 mX12_turnsOf [.ref (a 93), .int l1] (WD g a h P) (PoI g a P z) := by
  refine Ct.of (by decide +kernel) (Nat.le_of_ble_eq_true rfl) fun J hJ => ?_
  show Z g mX12_turnsOf J 0 0 0 [some (.ref (a 93)), some (.int l1), none, none, none, none, none] [] (WD g a h P)
  unfold fX12_turnsOf at hf
  refine Z.aload_n (n := 1) dX12_turnsOf_0 rfl rfl ?_
  refine Z.aload_n (n := 2) dX12_turnsOf_1 rfl rfl ?_
  obtain ⟨z1, ez1, hf⟩ := Option.bind_eq_some_iff.mp hf
  refine Z.callV (n := 5) vX12_153 (ctX12_alive ez1) hJ.rm (Nat.le_of_ble_eq_true rfl) rfl rfl (Nat.le_refl _) (Nat.le_refl _) rfl W93 rfl rfl (Nat.le_of_ble_eq_true rfl) rfl dX12_turnsOf_2 rfl (fun v w hw => ?_)
  obtain ⟨rfl, rfl⟩ := hw
  show Z _ _ _ _ _ _ _ [.int z1.1, .ref (a 93)] _
  obtain ⟨z2, ez2, hf⟩ := Option.bind_eq_some_iff.mp hf
  refine Z.callV (n := 8) vX12_150 (ctX12_strengths ez2) hJ.rm (Nat.le_of_ble_eq_true rfl) rfl rfl (Nat.le_refl _) (Nat.le_refl _) rfl W93 rfl rfl (Nat.le_of_ble_eq_true rfl) rfl dX12_turnsOf_5 rfl (fun v w hw => ?_)
  obtain ⟨rfl, rfl⟩ := hw
  show Z _ _ _ _ _ _ _ [.int z2.1] _
  refine Z.istore_n (n := 9) dX12_turnsOf_8 rfl (by decide) rfl ?_
  refine Z.aload_n (n := 10) dX12_turnsOf_9 rfl rfl ?_
  obtain ⟨z3, ez3, hf⟩ := Option.bind_eq_some_iff.mp hf
  refine Z.callV (n := 13) vX12_153 (ctX12_alive ez3) hJ.rm (Nat.le_of_ble_eq_true rfl) rfl rfl (Nat.le_refl _) (Nat.le_refl _) rfl W93 rfl rfl (Nat.le_of_ble_eq_true rfl) rfl dX12_turnsOf_10 rfl (fun v w hw => ?_)
  obtain ⟨rfl, rfl⟩ := hw
  show Z _ _ _ _ _ _ _ [.int z3.1] _
  refine Z.iconst (n := 14) (v := 1) dX12_turnsOf_13 rfl (by decide +kernel) ?_
  refine Z.iload_n (n := 15) dX12_turnsOf_14 rfl rfl ?_
  refine Z.ishl (n := 16) dX12_turnsOf_15 rfl ?_
  refine Z.iconst (n := 17) (v := -1) dX12_turnsOf_16 rfl (by decide +kernel) ?_
  refine Z.ixor (n := 18) dX12_turnsOf_17 rfl ?_
  refine Z.iand (n := 19) dX12_turnsOf_18 rfl ?_
  refine Z.istore_n (n := 20) dX12_turnsOf_19 rfl (by decide) rfl ?_
  refine Z.iconst (n := 21) (v := 0) dX12_turnsOf_20 rfl (by decide +kernel) ?_
  refine Z.istore (n := 23) dX12_turnsOf_21 rfl (by decide) rfl ?_
  refine Z.iconst (n := 24) (v := 0) dX12_turnsOf_23 rfl (by decide +kernel) ?_
  refine Z.istore (n := 26) dX12_turnsOf_24 rfl (by decide) rfl ?_
  exact zX12_turnsOf_26 hJ _ _ _ _ _ _ _ hf
def fX12_edge_28 (s0 : Int32) (h : HT) : Option (Int32 × HT) :=
  some (s0, h)
set_option maxHeartbeats 4000000 in
theorem zX12_edge_28 {g : GP} {a : Nat → Nat} {P : PT} {J : JT} {z : Int32 × HT} (hJ : JX g 6 0 0 (PoI g a P z) J) (s0 : Int32) (h : HT) (hf : fX12_edge_28 s0 h = some z) : Z g mX12_edge J 0 0 28 [none, none] [.int s0] (WD g a h P) := by
  unfold fX12_edge_28 at hf
  have hz := Option.some.inj hf
  subst hz
  exact Z.iret hJ dX12_edge_28 rfl (Nat.le_refl _) (Nat.le_refl _) ⟨rfl, rfl⟩
def fX12_edge (l1 : Int32) (h : HT) : Option (Int32 × HT) :=
  Option.bind (fX12_isKing l1 h) fun z1 =>
  if z1.1 = 0 then (some ((-1), z1.2))
  else (Option.bind (fX12_isAlive l1 z1.2) fun z3 =>
  if z3.1 = 0 then (fX12_edge_28 (-3) z3.2)
  else (Option.bind (fX12_turnsOf l1 z3.2) fun z5 =>
  fX12_edge_28 z5.1 z5.2))
set_option maxHeartbeats 4000000 in
theorem ctX12_edge {g : GP} {a : Nat → Nat} {P : PT} {h : HT} {z : Int32 × HT} {l1 : Int32} (hf : fX12_edge l1 h = some z) : Ct g 6 0 0 mX12_edge [.ref (a 93), .int l1] (WD g a h P) (PoI g a P z) := by
  refine Ct.of (by decide +kernel) (Nat.le_of_ble_eq_true rfl) fun J hJ => ?_
  show Z g mX12_edge J 0 0 0 [some (.ref (a 93)), some (.int l1)] [] (WD g a h P)
  unfold fX12_edge at hf
  refine Z.aload_n (n := 1) dX12_edge_0 rfl rfl ?_
  refine Z.iload_n (n := 2) dX12_edge_1 rfl rfl ?_
  obtain ⟨z1, ez1, hf⟩ := Option.bind_eq_some_iff.mp hf
  refine Z.callV (n := 5) vX12_45 (ctX12_isKing ez1) hJ.rm (Nat.le_of_ble_eq_true rfl) rfl rfl (Nat.le_refl _) (Nat.le_refl _) rfl W93 rfl rfl (Nat.le_of_ble_eq_true rfl) rfl dX12_edge_2 rfl (fun v w hw => ?_)
  obtain ⟨rfl, rfl⟩ := hw
  show Z _ _ _ _ _ _ _ [.int z1.1] _
  refine Z.if_ne (tgt := 10) (n := 8) dX12_edge_5 rfl rfl (fun c2 => ?_) (fun c2 => ?_)
  · rw [if_neg c2] at hf
    refine Z.aload_n (n := 11) dX12_edge_10 rfl rfl ?_
    refine Z.iload_n (n := 12) dX12_edge_11 rfl rfl ?_
    obtain ⟨z3, ez3, hf⟩ := Option.bind_eq_some_iff.mp hf
    refine Z.callV (n := 15) vX12_49 (ctX12_isAlive ez3) hJ.rm (Nat.le_of_ble_eq_true rfl) rfl rfl (Nat.le_refl _) (Nat.le_refl _) rfl W93 rfl rfl (Nat.le_of_ble_eq_true rfl) rfl dX12_edge_12 rfl (fun v w hw => ?_)
    obtain ⟨rfl, rfl⟩ := hw
    show Z _ _ _ _ _ _ _ [.int z3.1] _
    refine Z.if_eq (tgt := 26) (n := 18) dX12_edge_15 rfl rfl (fun c4 => ?_) (fun c4 => ?_)
    · rw [if_pos c4] at hf
      refine Z.bipush (n := 28) (v := -3) dX12_edge_26 rfl (by decide +kernel) ?_
      refine Z.fg [0, 1] ?_
      exact zX12_edge_28 hJ _ _ hf
    · rw [if_neg c4] at hf
      refine Z.aload_n (n := 19) dX12_edge_18 rfl rfl ?_
      refine Z.iload_n (n := 20) dX12_edge_19 rfl rfl ?_
      obtain ⟨z5, ez5, hf⟩ := Option.bind_eq_some_iff.mp hf
      refine Z.callV (n := 23) vX12_244 (ctX12_turnsOf ez5) hJ.rm (Nat.le_of_ble_eq_true rfl) rfl rfl (Nat.le_refl _) (Nat.le_refl _) rfl W93 rfl rfl (Nat.le_of_ble_eq_true rfl) rfl dX12_edge_20 rfl (fun v w hw => ?_)
      obtain ⟨rfl, rfl⟩ := hw
      show Z _ _ _ _ _ _ _ [.int z5.1] _
      refine Z.goto (tgt := 28) dX12_edge_23 rfl ?_
      refine Z.fg [0, 1] ?_
      exact zX12_edge_28 hJ _ _ hf
  · rw [if_pos c2] at hf
    refine Z.iconst (n := 9) (v := -1) dX12_edge_8 rfl (by decide +kernel) ?_
    have hz := Option.some.inj hf
    subst hz
    exact Z.iret hJ dX12_edge_9 rfl (Nat.le_refl _) (Nat.le_refl _) ⟨rfl, rfl⟩
def fX12_courted_105 (k7_ : Int32 → Int32 → Int32 → HT → Option (Int32 × HT)) (l1 : Int32) (l2 : Int32) (l3 : Int32) (h : HT) : Option (Int32 × HT) :=
  k7_ l1 l2 (l3 + 1) h
set_option maxHeartbeats 4000000 in
theorem zX12_courted_105 {g : GP} {a : Nat → Nat} {P : PT} {J : JT} {z : Int32 × HT} {k7_ : Int32 → Int32 → Int32 → HT → Option (Int32 × HT)} (hJ : JX g 6 0 0 (PoI g a P z) J) (hk7 : ∀ (l1 : Int32) (l2 : Int32) (l3 : Int32) (h : HT), k7_ l1 l2 l3 h = some z → Z g mX12_courted J 0 0 7 [some (.ref (a 93)), some (.int l1), some (.int l2), some (.int l3), none, none] [] (WD g a h P)) (l1 : Int32) (l2 : Int32) (l3 : Int32) (h : HT) (hf : fX12_courted_105 k7_ l1 l2 l3 h = some z) : Z g mX12_courted J 0 0 105 [some (.ref (a 93)), some (.int l1), some (.int l2), some (.int l3), none, none] [] (WD g a h P) := by
  unfold fX12_courted_105 at hf
  refine Z.iinc (n := 108) (v := l3 + 1) dX12_courted_105 rfl rfl rfl (by decide) rfl ?_
  refine Z.goto (tgt := 7) dX12_courted_108 rfl ?_
  exact hk7 _ _ _ _ hf
def fX12_courted_104 (k7_ : Int32 → Int32 → Int32 → HT → Option (Int32 × HT)) (l1 : Int32) (l3 : Int32) (s0 : Int32) (h : HT) : Option (Int32 × HT) :=
  fX12_courted_105 k7_ l1 s0 l3 h
set_option maxHeartbeats 4000000 in
theorem zX12_courted_104 {g : GP} {a : Nat → Nat} {P : PT} {J : JT} {z : Int32 × HT} {k7_ : Int32 → Int32 → Int32 → HT → Option (Int32 × HT)} (hJ : JX g 6 0 0 (PoI g a P z) J) (hk7 : ∀ (l1 : Int32) (l2 : Int32) (l3 : Int32) (h : HT), k7_ l1 l2 l3 h = some z → Z g mX12_courted J 0 0 7 [some (.ref (a 93)), some (.int l1), some (.int l2), some (.int l3), none, none] [] (WD g a h P)) (l1 : Int32) (l3 : Int32) (s0 : Int32) (h : HT) (hf : fX12_courted_104 k7_ l1 l3 s0 h = some z) : Z g mX12_courted J 0 0 104 [some (.ref (a 93)), some (.int l1), none, some (.int l3), none, none] [.int s0] (WD g a h P) := by
  unfold fX12_courted_104 at hf
  refine Z.istore_n (n := 105) dX12_courted_104 rfl (by decide) rfl ?_
  exact zX12_courted_105 hJ hk7 _ _ _ _ hf
def fX12_courted_92 (k7_ : Int32 → Int32 → Int32 → HT → Option (Int32 × HT)) (l2 : Int32) (l3 : Int32) (l4 : Int32) (l5 : Int32) (s0 : Int32) (h : HT) : Option (Int32 × HT) :=
  if l5 = 0 then (fX12_courted_104 k7_ s0 l3 l2 h)
  else (fX12_courted_104 k7_ s0 l3 l4 h)
set_option maxHeartbeats 4000000 in
theorem zX12_courted_92 {g : GP} {a : Nat → Nat} {P : PT} {J : JT} {z : Int32 × HT} {k7_ : Int32 → Int32 → Int32 → HT → Option (Int32 × HT)} (hJ : JX g 6 0 0 (PoI g a P z) J) (hk7 : ∀ (l1 : Int32) (l2 : Int32) (l3 : Int32) (h : HT), k7_ l1 l2 l3 h = some z → Z g mX12_courted J 0 0 7 [some (.ref (a 93)), some (.int l1), some (.int l2), some (.int l3), none, none] [] (WD g a h P)) (l2 : Int32) (l3 : Int32) (l4 : Int32) (l5 : Int32) (s0 : Int32) (h : HT) (hf : fX12_courted_92 k7_ l2 l3 l4 l5 s0 h = some z) : Z g mX12_courted J 0 0 92 [some (.ref (a 93)), none, some (.int l2), some (.int l3), some (.int l4), some (.int l5)] [.int s0] (WD g a h P) := by
  unfold fX12_courted_92 at hf
  refine Z.istore_n (n := 93) dX12_courted_92 rfl (by decide) rfl ?_
  refine Z.iload (n := 95) dX12_courted_93 rfl rfl ?_
  refine Z.if_eq (tgt := 103) (n := 98) dX12_courted_95 rfl rfl (fun c11 => ?_) (fun c11 => ?_)
  · rw [if_pos c11] at hf
    refine Z.iload_n (n := 104) dX12_courted_103 rfl rfl ?_
    refine Z.fg [2, 4, 5] ?_
    exact zX12_courted_104 hJ hk7 _ _ _ _ hf
  · rw [if_neg c11] at hf
    refine Z.iload (n := 100) dX12_courted_98 rfl rfl ?_
    refine Z.goto (tgt := 104) dX12_courted_100 rfl ?_
    refine Z.fg [2, 4, 5] ?_
    exact zX12_courted_104 hJ hk7 _ _ _ _ hf
def fX12_courted_80 (k7_ : Int32 → Int32 → Int32 → HT → Option (Int32 × HT)) (l1 : Int32) (l2 : Int32) (l3 : Int32) (l4 : Int32) (s0 : Int32) (h : HT) : Option (Int32 × HT) :=
  if s0 = 0 then (fX12_courted_92 k7_ l2 l3 l4 s0 l1 h)
  else (fX12_courted_92 k7_ l2 l3 l4 s0 l3 h)
set_option maxHeartbeats 4000000 in
theorem zX12_courted_80 {g : GP} {a : Nat → Nat} {P : PT} {J : JT} {z : Int32 × HT} {k7_ : Int32 → Int32 → Int32 → HT → Option (Int32 × HT)} (hJ : JX g 6 0 0 (PoI g a P z) J) (hk7 : ∀ (l1 : Int32) (l2 : Int32) (l3 : Int32) (h : HT), k7_ l1 l2 l3 h = some z → Z g mX12_courted J 0 0 7 [some (.ref (a 93)), some (.int l1), some (.int l2), some (.int l3), none, none] [] (WD g a h P)) (l1 : Int32) (l2 : Int32) (l3 : Int32) (l4 : Int32) (s0 : Int32) (h : HT) (hf : fX12_courted_80 k7_ l1 l2 l3 l4 s0 h = some z) : Z g mX12_courted J 0 0 80 [some (.ref (a 93)), some (.int l1), some (.int l2), some (.int l3), some (.int l4), none] [.int s0] (WD g a h P) := by
  unfold fX12_courted_80 at hf
  refine Z.istore (n := 82) dX12_courted_80 rfl (by decide) rfl ?_
  refine Z.iload (n := 84) dX12_courted_82 rfl rfl ?_
  refine Z.if_eq (tgt := 91) (n := 87) dX12_courted_84 rfl rfl (fun c10 => ?_) (fun c10 => ?_)
  · rw [if_pos c10] at hf
    refine Z.iload_n (n := 92) dX12_courted_91 rfl rfl ?_
    refine Z.fg [1] ?_
    exact zX12_courted_92 hJ hk7 _ _ _ _ _ _ hf
  · rw [if_neg c10] at hf
    refine Z.iload_n (n := 88) dX12_courted_87 rfl rfl ?_
    refine Z.goto (tgt := 92) dX12_courted_88 rfl ?_
    refine Z.fg [1] ?_
    exact zX12_courted_92 hJ hk7 _ _ _ _ _ _ hf
def fX12_courted_75 (k7_ : Int32 → Int32 → Int32 → HT → Option (Int32 × HT)) (l1 : Int32) (l2 : Int32) (l3 : Int32) (l4 : Int32) (h : HT) : Option (Int32 × HT) :=
  fX12_courted_80 k7_ l1 l2 l3 l4 1 h
set_option maxHeartbeats 4000000 in
theorem zX12_courted_75 {g : GP} {a : Nat → Nat} {P : PT} {J : JT} {z : Int32 × HT} {k7_ : Int32 → Int32 → Int32 → HT → Option (Int32 × HT)} (hJ : JX g 6 0 0 (PoI g a P z) J) (hk7 : ∀ (l1 : Int32) (l2 : Int32) (l3 : Int32) (h : HT), k7_ l1 l2 l3 h = some z → Z g mX12_courted J 0 0 7 [some (.ref (a 93)), some (.int l1), some (.int l2), some (.int l3), none, none] [] (WD g a h P)) (l1 : Int32) (l2 : Int32) (l3 : Int32) (l4 : Int32) (h : HT) (hf : fX12_courted_75 k7_ l1 l2 l3 l4 h = some z) : Z g mX12_courted J 0 0 75 [some (.ref (a 93)), some (.int l1), some (.int l2), some (.int l3), some (.int l4), none] [] (WD g a h P) := by
  unfold fX12_courted_75 at hf
  refine Z.iconst (n := 76) (v := 1) dX12_courted_75 rfl (by decide +kernel) ?_
  refine Z.goto (tgt := 80) dX12_courted_76 rfl ?_
  exact zX12_courted_80 hJ hk7 _ _ _ _ _ _ hf
def fX12_courted_61 (k7_ : Int32 → Int32 → Int32 → HT → Option (Int32 × HT)) (l1 : Int32) (l2 : Int32) (l3 : Int32) (s0 : Int32) (h : HT) : Option (Int32 × HT) :=
  if l1 = (-5) then (fX12_courted_75 k7_ l1 l2 l3 s0 h)
  else (if s0 ≤ l2 then (fX12_courted_80 k7_ l1 l2 l3 s0 0 h)
  else (fX12_courted_75 k7_ l1 l2 l3 s0 h))
set_option maxHeartbeats 4000000 in
theorem zX12_courted_61 {g : GP} {a : Nat → Nat} {P : PT} {J : JT} {z : Int32 × HT} {k7_ : Int32 → Int32 → Int32 → HT → Option (Int32 × HT)} (hJ : JX g 6 0 0 (PoI g a P z) J) (hk7 : ∀ (l1 : Int32) (l2 : Int32) (l3 : Int32) (h : HT), k7_ l1 l2 l3 h = some z → Z g mX12_courted J 0 0 7 [some (.ref (a 93)), some (.int l1), some (.int l2), some (.int l3), none, none] [] (WD g a h P)) (l1 : Int32) (l2 : Int32) (l3 : Int32) (s0 : Int32) (h : HT) (hf : fX12_courted_61 k7_ l1 l2 l3 s0 h = some z) : Z g mX12_courted J 0 0 61 [some (.ref (a 93)), some (.int l1), some (.int l2), some (.int l3), none, none] [.int s0] (WD g a h P) := by
  unfold fX12_courted_61 at hf
  refine Z.istore (n := 63) dX12_courted_61 rfl (by decide) rfl ?_
  refine Z.iload_n (n := 64) dX12_courted_63 rfl rfl ?_
  refine Z.bipush (n := 66) (v := -5) dX12_courted_64 rfl (by decide +kernel) ?_
  refine Z.icmp_eq (tgt := 75) (n := 69) dX12_courted_66 rfl rfl (fun c9 => ?_) (fun c9 => ?_)
  · rw [if_pos c9] at hf
    exact zX12_courted_75 hJ hk7 _ _ _ _ _ hf
  · rw [if_neg c9] at hf
    refine Z.iload (n := 71) dX12_courted_69 rfl rfl ?_
    refine Z.iload_n (n := 72) dX12_courted_71 rfl rfl ?_
    refine Z.icmp_le (tgt := 79) (n := 75) dX12_courted_72 rfl rfl (fun c12 => ?_) (fun c12 => ?_)
    · rw [if_pos c12] at hf
      refine Z.iconst (n := 80) (v := 0) dX12_courted_79 rfl (by decide +kernel) ?_
      exact zX12_courted_80 hJ hk7 _ _ _ _ _ _ hf
    · rw [if_neg c12] at hf
      exact zX12_courted_75 hJ hk7 _ _ _ _ _ hf
def fX12_courted_7 : Nat → Int32 → Int32 → Int32 → HT → Option (Int32 × HT)
  | 0, _, _, _, _ => none
  | n + 1, l1, l2, l3, h =>
  if (h 94 0) ≤ l3 then (some (l1, h))
  else (Option.bind (fX12_isAlive l3 h) fun z2 =>
  if z2.1 = 0 then (fX12_courted_105 (fX12_courted_7  n) l1 l2 l3 z2.2)
  else (Option.bind (ck 490 ((270 : Int32) + l3)) fun j4 =>
  if (z2.2 94 j4) = 0 then (fX12_courted_61 (fX12_courted_7  n) l1 l2 l3 0 z2.2)
  else (Option.bind (fX12_turnsOf l3 z2.2) fun z6 =>
  Option.bind (ck 490 ((270 : Int32) + l3)) fun j7 =>
  Option.bind (nz (z6.2 94 j7)) fun u8 =>
  fX12_courted_61 (fX12_courted_7  n) l1 l2 l3 (((100 : Int32) * z6.1) / (z6.2 94 j7)) z6.2)))
set_option maxHeartbeats 4000000 in
theorem zX12_courted_7 {g : GP} {a : Nat → Nat} {P : PT} {J : JT} {z : Int32 × HT} (hJ : JX g 6 0 0 (PoI g a P z) J) : ∀ (n : Nat) (l1 : Int32) (l2 : Int32) (l3 : Int32) (h : HT), fX12_courted_7 n l1 l2 l3 h = some z → Z g mX12_courted J 0 0 7 [some (.ref (a 93)), some (.int l1), some (.int l2), some (.int l3), none, none] [] (WD g a h P) := by
  intro n
  induction n with
  | zero =>
    intro _ _ _ _ hf
    cases hf
  | succ n ih =>
    intro l1 l2 l3 h hf
    unfold fX12_courted_7 at hf
    refine Z.iload_n (n := 8) dX12_courted_7 rfl rfl ?_
    refine Z.aload_n (n := 9) dX12_courted_8 rfl rfl ?_
    refine Z.getf (n := 12) fX12_9 dX12_courted_9 rfl W93 rfl ?_
    refine Z.iconst (n := 13) (v := 0) dX12_courted_12 rfl (by decide +kernel) ?_
    refine Z.iald (j := 0) (n := 14) dX12_courted_13 rfl W94 (by decide +kernel) (by decide) (by decide) ?_
    refine Z.icmp_ge (tgt := 111) (n := 17) dX12_courted_14 rfl rfl (fun c1 => ?_) (fun c1 => ?_)
    · rw [if_pos c1] at hf
      refine Z.iload_n (n := 112) dX12_courted_111 rfl rfl ?_
      have hz := Option.some.inj hf
      subst hz
      exact Z.iret hJ dX12_courted_112 rfl (Nat.le_refl _) (Nat.le_refl _) ⟨rfl, rfl⟩
    · rw [if_neg c1] at hf
      refine Z.aload_n (n := 18) dX12_courted_17 rfl rfl ?_
      refine Z.iload_n (n := 19) dX12_courted_18 rfl rfl ?_
      obtain ⟨z2, ez2, hf⟩ := Option.bind_eq_some_iff.mp hf
      refine Z.callV (n := 22) vX12_49 (ctX12_isAlive ez2) hJ.rm (Nat.le_of_ble_eq_true rfl) rfl rfl (Nat.le_refl _) (Nat.le_refl _) rfl W93 rfl rfl (Nat.le_of_ble_eq_true rfl) rfl dX12_courted_19 rfl (fun v w hw => ?_)
      obtain ⟨rfl, rfl⟩ := hw
      show Z _ _ _ _ _ _ _ [.int z2.1] _
      refine Z.if_eq (tgt := 105) (n := 25) dX12_courted_22 rfl rfl (fun c3 => ?_) (fun c3 => ?_)
      · rw [if_pos c3] at hf
        exact zX12_courted_105 hJ ih _ _ _ _ hf
      · rw [if_neg c3] at hf
        refine Z.aload_n (n := 26) dX12_courted_25 rfl rfl ?_
        refine Z.getf (n := 29) fX12_9 dX12_courted_26 rfl W93 rfl ?_
        refine Z.sipush (n := 32) (v := 270) dX12_courted_29 rfl (by decide +kernel) ?_
        refine Z.iload_n (n := 33) dX12_courted_32 rfl rfl ?_
        refine Z.iadd (n := 34) dX12_courted_33 rfl ?_
        obtain ⟨j4, ej4, hf⟩ := Option.bind_eq_some_iff.mp hf
        obtain ⟨hij4, hlj4⟩ := ck_spec ej4
        refine Z.iald (j := j4) (n := 35) dX12_courted_34 rfl W94 hij4 hlj4 (by decide) ?_
        refine Z.if_ne (tgt := 42) (n := 38) dX12_courted_35 rfl rfl (fun c5 => ?_) (fun c5 => ?_)
        · rw [if_neg c5] at hf
          refine Z.bipush (n := 44) (v := 100) dX12_courted_42 rfl (by decide +kernel) ?_
          refine Z.aload_n (n := 45) dX12_courted_44 rfl rfl ?_
          refine Z.iload_n (n := 46) dX12_courted_45 rfl rfl ?_
          obtain ⟨z6, ez6, hf⟩ := Option.bind_eq_some_iff.mp hf
          refine Z.callV (n := 49) vX12_244 (ctX12_turnsOf ez6) hJ.rm (Nat.le_of_ble_eq_true rfl) rfl rfl (Nat.le_refl _) (Nat.le_refl _) rfl W93 rfl rfl (Nat.le_of_ble_eq_true rfl) rfl dX12_courted_46 rfl (fun v w hw => ?_)
          obtain ⟨rfl, rfl⟩ := hw
          show Z _ _ _ _ _ _ _ [.int z6.1, .int 100] _
          refine Z.imul (n := 50) dX12_courted_49 rfl ?_
          refine Z.aload_n (n := 51) dX12_courted_50 rfl rfl ?_
          refine Z.getf (n := 54) fX12_9 dX12_courted_51 rfl W93 rfl ?_
          refine Z.sipush (n := 57) (v := 270) dX12_courted_54 rfl (by decide +kernel) ?_
          refine Z.iload_n (n := 58) dX12_courted_57 rfl rfl ?_
          refine Z.iadd (n := 59) dX12_courted_58 rfl ?_
          obtain ⟨j7, ej7, hf⟩ := Option.bind_eq_some_iff.mp hf
          obtain ⟨hij7, hlj7⟩ := ck_spec ej7
          refine Z.iald (j := j7) (n := 60) dX12_courted_59 rfl W94 hij7 hlj7 (by decide) ?_
          obtain ⟨u8, eu8, hf⟩ := Option.bind_eq_some_iff.mp hf
          refine Z.idiv (n := 61) dX12_courted_60 rfl (nz_spec eu8) ?_
          exact zX12_courted_61 hJ ih _ _ _ _ _ hf
        · rw [if_pos c5] at hf
          refine Z.iconst (n := 39) (v := 0) dX12_courted_38 rfl (by decide +kernel) ?_
          refine Z.goto (tgt := 61) dX12_courted_39 rfl ?_
          exact zX12_courted_61 hJ ih _ _ _ _ _ hf
def fX12_courted (h : HT) : Option (Int32 × HT) :=
  fX12_courted_7 1000 (-5) 0 0 h
set_option maxHeartbeats 4000000 in
theorem ctX12_courted {g : GP} {a : Nat → Nat} {P : PT} {h : HT} {z : Int32 × HT} (hf : fX12_courted h = some z) : Ct g 6 0 0 mX12_courted [.ref (a 93)] (WD g a h P) (PoI g a P z) := by
  refine Ct.of (by decide +kernel) (Nat.le_of_ble_eq_true rfl) fun J hJ => ?_
  show Z g mX12_courted J 0 0 0 [some (.ref (a 93)), none, none, none, none, none] [] (WD g a h P)
  unfold fX12_courted at hf
  refine Z.bipush (n := 2) (v := -5) dX12_courted_0 rfl (by decide +kernel) ?_
  refine Z.istore_n (n := 3) dX12_courted_2 rfl (by decide) rfl ?_
  refine Z.iconst (n := 4) (v := 0) dX12_courted_3 rfl (by decide +kernel) ?_
  refine Z.istore_n (n := 5) dX12_courted_4 rfl (by decide) rfl ?_
  refine Z.iconst (n := 6) (v := 0) dX12_courted_5 rfl (by decide +kernel) ?_
  refine Z.istore_n (n := 7) dX12_courted_6 rfl (by decide) rfl ?_
  exact zX12_courted_7 hJ _ _ _ _ _ hf
def fX12_race_109 (k17_ : Int32 → HT → Option (Int32 × HT)) (k28_ : Int32 → Int32 → Int32 → HT → Option (Int32 × HT)) (l2 : Int32) (l4 : Int32) (s0 : Int32) (h : HT) : Option (Int32 × HT) :=
  k28_ l2 s0 (l4 + 1) h
set_option maxHeartbeats 4000000 in
theorem zX12_race_109 {g : GP} {a : Nat → Nat} {P : PT} {J : JT} {z : Int32 × HT} {k17_ : Int32 → HT → Option (Int32 × HT)} {k28_ : Int32 → Int32 → Int32 → HT → Option (Int32 × HT)} (hJ : JX g 11 0 0 (PoI g a P z) J) (hk17 : ∀ (l2 : Int32) (h : HT), k17_ l2 h = some z → Z g mX12_race J 0 0 17 [some (.ref (a 93)), none, some (.int l2), none, none, none] [] (WD g a h P)) (hk28 : ∀ (l2 : Int32) (l3 : Int32) (l4 : Int32) (h : HT), k28_ l2 l3 l4 h = some z → Z g mX12_race J 0 0 28 [some (.ref (a 93)), none, some (.int l2), some (.int l3), some (.int l4), none] [] (WD g a h P)) (l2 : Int32) (l4 : Int32) (s0 : Int32) (h : HT) (hf : fX12_race_109 k17_ k28_ l2 l4 s0 h = some z) : Z g mX12_race J 0 0 109 [some (.ref (a 93)), none, some (.int l2), none, some (.int l4), none] [.int s0] (WD g a h P) := by
  unfold fX12_race_109 at hf
  refine Z.istore_n (n := 110) dX12_race_109 rfl (by decide) rfl ?_
  refine Z.iinc (n := 113) (v := l4 + 1) dX12_race_110 rfl rfl rfl (by decide) rfl ?_
  refine Z.goto (tgt := 28) dX12_race_113 rfl ?_
  exact hk28 _ _ _ _ hf
def fX12_race_104 (k17_ : Int32 → HT → Option (Int32 × HT)) (k28_ : Int32 → Int32 → Int32 → HT → Option (Int32 × HT)) (l2 : Int32) (l4 : Int32) (h : HT) : Option (Int32 × HT) :=
  fX12_race_109 k17_ k28_ l2 l4 1 h
set_option maxHeartbeats 4000000 in
theorem zX12_race_104 {g : GP} {a : Nat → Nat} {P : PT} {J : JT} {z : Int32 × HT} {k17_ : Int32 → HT → Option (Int32 × HT)} {k28_ : Int32 → Int32 → Int32 → HT → Option (Int32 × HT)} (hJ : JX g 11 0 0 (PoI g a P z) J) (hk17 : ∀ (l2 : Int32) (h : HT), k17_ l2 h = some z → Z g mX12_race J 0 0 17 [some (.ref (a 93)), none, some (.int l2), none, none, none] [] (WD g a h P)) (hk28 : ∀ (l2 : Int32) (l3 : Int32) (l4 : Int32) (h : HT), k28_ l2 l3 l4 h = some z → Z g mX12_race J 0 0 28 [some (.ref (a 93)), none, some (.int l2), some (.int l3), some (.int l4), none] [] (WD g a h P)) (l2 : Int32) (l4 : Int32) (h : HT) (hf : fX12_race_104 k17_ k28_ l2 l4 h = some z) : Z g mX12_race J 0 0 104 [some (.ref (a 93)), none, some (.int l2), none, some (.int l4), none] [] (WD g a h P) := by
  unfold fX12_race_104 at hf
  refine Z.iconst (n := 105) (v := 1) dX12_race_104 rfl (by decide +kernel) ?_
  refine Z.goto (tgt := 109) dX12_race_105 rfl ?_
  exact zX12_race_109 hJ hk17 hk28 _ _ _ _ hf
def fX12_race_93 (k17_ : Int32 → HT → Option (Int32 × HT)) (k28_ : Int32 → Int32 → Int32 → HT → Option (Int32 × HT)) (l2 : Int32) (l3 : Int32) (l4 : Int32) (l5 : Int32) (s0 : Int32) (s1 : Int32) (s2 : Int32) (h : HT) : Option (Int32 × HT) :=
  Option.bind (ck 490 s2) fun j11 =>
  if l3 = 0 then (if l5 = 0 then (fX12_race_109 k17_ k28_ l2 l4 0 (hu h 94 j11 (s1 + s0)))
  else (fX12_race_104 k17_ k28_ l2 l4 (hu h 94 j11 (s1 + s0))))
  else (fX12_race_104 k17_ k28_ l2 l4 (hu h 94 j11 (s1 + s0)))
set_option maxHeartbeats 4000000 in
theorem zX12_race_93 {g : GP} {a : Nat → Nat} {P : PT} {J : JT} {z : Int32 × HT} {k17_ : Int32 → HT → Option (Int32 × HT)} {k28_ : Int32 → Int32 → Int32 → HT → Option (Int32 × HT)} (hJ : JX g 11 0 0 (PoI g a P z) J) (hk17 : ∀ (l2 : Int32) (h : HT), k17_ l2 h = some z → Z g mX12_race J 0 0 17 [some (.ref (a 93)), none, some (.int l2), none, none, none] [] (WD g a h P)) (hk28 : ∀ (l2 : Int32) (l3 : Int32) (l4 : Int32) (h : HT), k28_ l2 l3 l4 h = some z → Z g mX12_race J 0 0 28 [some (.ref (a 93)), none, some (.int l2), some (.int l3), some (.int l4), none] [] (WD g a h P)) (l2 : Int32) (l3 : Int32) (l4 : Int32) (l5 : Int32) (s0 : Int32) (s1 : Int32) (s2 : Int32) (h : HT) (hf : fX12_race_93 k17_ k28_ l2 l3 l4 l5 s0 s1 s2 h = some z) : Z g mX12_race J 0 0 93 [some (.ref (a 93)), none, some (.int l2), some (.int l3), some (.int l4), some (.int l5)] [.int s0, .int s1, .int s2, .ref (a 94)] (WD g a h P) := by
  unfold fX12_race_93 at hf
  refine Z.iadd (n := 94) dX12_race_93 rfl ?_
  obtain ⟨j11, ej11, hf⟩ := Option.bind_eq_some_iff.mp hf
  obtain ⟨hij11, hlj11⟩ := ck_spec ej11
  refine Z.iast (j := j11) (n := 95) dX12_race_94 rfl W94 hij11 hlj11 (by decide) W94s ?_
  refine Z.iload_n (n := 96) dX12_race_95 rfl rfl ?_
  refine Z.if_ne (tgt := 104) (n := 99) dX12_race_96 rfl rfl (fun c12 => ?_) (fun c12 => ?_)
  · rw [if_neg c12] at hf
    refine Z.fg [3, 5] ?_
    exact zX12_race_104 hJ hk17 hk28 _ _ _ hf
  · rw [if_pos c12] at hf
    refine Z.iload (n := 101) dX12_race_99 rfl rfl ?_
    refine Z.if_eq (tgt := 108) (n := 104) dX12_race_101 rfl rfl (fun c13 => ?_) (fun c13 => ?_)
    · rw [if_pos c13] at hf
      refine Z.iconst (n := 109) (v := 0) dX12_race_108 rfl (by decide +kernel) ?_
      refine Z.fg [3, 5] ?_
      exact zX12_race_109 hJ hk17 hk28 _ _ _ _ hf
    · rw [if_neg c13] at hf
      refine Z.fg [3, 5] ?_
      exact zX12_race_104 hJ hk17 hk28 _ _ _ hf
def fX12_race_69 (k17_ : Int32 → HT → Option (Int32 × HT)) (k28_ : Int32 → Int32 → Int32 → HT → Option (Int32 × HT)) (l2 : Int32) (l3 : Int32) (l4 : Int32) (s0 : Int32) (h : HT) : Option (Int32 × HT) :=
  Option.bind (ck 490 ((270 : Int32) + l4)) fun j9 =>
  if s0 = 0 then (fX12_race_93 k17_ k28_ l2 l3 l4 s0 0 (h 94 j9) ((270 : Int32) + l4) h)
  else (fX12_race_93 k17_ k28_ l2 l3 l4 s0 1 (h 94 j9) ((270 : Int32) + l4) h)
set_option maxHeartbeats 4000000 in
theorem zX12_race_69 {g : GP} {a : Nat → Nat} {P : PT} {J : JT} {z : Int32 × HT} {k17_ : Int32 → HT → Option (Int32 × HT)} {k28_ : Int32 → Int32 → Int32 → HT → Option (Int32 × HT)} (hJ : JX g 11 0 0 (PoI g a P z) J) (hk17 : ∀ (l2 : Int32) (h : HT), k17_ l2 h = some z → Z g mX12_race J 0 0 17 [some (.ref (a 93)), none, some (.int l2), none, none, none] [] (WD g a h P)) (hk28 : ∀ (l2 : Int32) (l3 : Int32) (l4 : Int32) (h : HT), k28_ l2 l3 l4 h = some z → Z g mX12_race J 0 0 28 [some (.ref (a 93)), none, some (.int l2), some (.int l3), some (.int l4), none] [] (WD g a h P)) (l2 : Int32) (l3 : Int32) (l4 : Int32) (s0 : Int32) (h : HT) (hf : fX12_race_69 k17_ k28_ l2 l3 l4 s0 h = some z) : Z g mX12_race J 0 0 69 [some (.ref (a 93)), none, some (.int l2), some (.int l3), some (.int l4), none] [.int s0] (WD g a h P) := by
  unfold fX12_race_69 at hf
  refine Z.istore (n := 71) dX12_race_69 rfl (by decide) rfl ?_
  refine Z.aload_n (n := 72) dX12_race_71 rfl rfl ?_
  refine Z.getf (n := 75) fX12_9 dX12_race_72 rfl W93 rfl ?_
  refine Z.sipush (n := 78) (v := 270) dX12_race_75 rfl (by decide +kernel) ?_
  refine Z.iload (n := 80) dX12_race_78 rfl rfl ?_
  refine Z.iadd (n := 81) dX12_race_80 rfl ?_
  refine Z.dup2 (n := 82) dX12_race_81 rfl rfl rfl ?_
  obtain ⟨j9, ej9, hf⟩ := Option.bind_eq_some_iff.mp hf
  obtain ⟨hij9, hlj9⟩ := ck_spec ej9
  refine Z.iald (j := j9) (n := 83) dX12_race_82 rfl W94 hij9 hlj9 (by decide) ?_
  refine Z.iload (n := 85) dX12_race_83 rfl rfl ?_
  refine Z.if_eq (tgt := 92) (n := 88) dX12_race_85 rfl rfl (fun c10 => ?_) (fun c10 => ?_)
  · rw [if_pos c10] at hf
    refine Z.iconst (n := 93) (v := 0) dX12_race_92 rfl (by decide +kernel) ?_
    exact zX12_race_93 hJ hk17 hk28 _ _ _ _ _ _ _ _ hf
  · rw [if_neg c10] at hf
    refine Z.iconst (n := 89) (v := 1) dX12_race_88 rfl (by decide +kernel) ?_
    refine Z.goto (tgt := 93) dX12_race_89 rfl ?_
    exact zX12_race_93 hJ hk17 hk28 _ _ _ _ _ _ _ _ hf
def fX12_race_68 (k17_ : Int32 → HT → Option (Int32 × HT)) (k28_ : Int32 → Int32 → Int32 → HT → Option (Int32 × HT)) (l2 : Int32) (l3 : Int32) (l4 : Int32) (h : HT) : Option (Int32 × HT) :=
  fX12_race_69 k17_ k28_ l2 l3 l4 0 h
set_option maxHeartbeats 4000000 in
theorem zX12_race_68 {g : GP} {a : Nat → Nat} {P : PT} {J : JT} {z : Int32 × HT} {k17_ : Int32 → HT → Option (Int32 × HT)} {k28_ : Int32 → Int32 → Int32 → HT → Option (Int32 × HT)} (hJ : JX g 11 0 0 (PoI g a P z) J) (hk17 : ∀ (l2 : Int32) (h : HT), k17_ l2 h = some z → Z g mX12_race J 0 0 17 [some (.ref (a 93)), none, some (.int l2), none, none, none] [] (WD g a h P)) (hk28 : ∀ (l2 : Int32) (l3 : Int32) (l4 : Int32) (h : HT), k28_ l2 l3 l4 h = some z → Z g mX12_race J 0 0 28 [some (.ref (a 93)), none, some (.int l2), some (.int l3), some (.int l4), none] [] (WD g a h P)) (l2 : Int32) (l3 : Int32) (l4 : Int32) (h : HT) (hf : fX12_race_68 k17_ k28_ l2 l3 l4 h = some z) : Z g mX12_race J 0 0 68 [some (.ref (a 93)), none, some (.int l2), some (.int l3), some (.int l4), none] [] (WD g a h P) := by
  unfold fX12_race_68 at hf
  refine Z.iconst (n := 69) (v := 0) dX12_race_68 rfl (by decide +kernel) ?_
  exact zX12_race_69 hJ hk17 hk28 _ _ _ _ _ hf
def fX12_race_28 (k17_ : Int32 → HT → Option (Int32 × HT)) : Nat → Int32 → Int32 → Int32 → HT → Option (Int32 × HT)
  | 0, _, _, _, _ => none
  | n + 1, l2, l3, l4, h =>
  if (h 94 0) ≤ l4 then (if l3 = 0 then (some (l2, h))
  else (k17_ (l2 + 1) h))
  else (Option.bind (ck 490 ((270 : Int32) + l4)) fun j7 =>
  if 99 ≤ (h 94 j7) then (fX12_race_68 k17_ (fX12_race_28 k17_ n) l2 l3 l4 h)
  else (Option.bind (fX12_darers l4 h) fun z14 =>
  if z14.1 = 0 then (fX12_race_68 k17_ (fX12_race_28 k17_ n) l2 l3 l4 z14.2)
  else (fX12_race_69 k17_ (fX12_race_28 k17_ n) l2 l3 l4 1 z14.2)))
set_option maxHeartbeats 4000000 in
theorem zX12_race_28 {g : GP} {a : Nat → Nat} {P : PT} {J : JT} {z : Int32 × HT} {k17_ : Int32 → HT → Option (Int32 × HT)} (hJ : JX g 11 0 0 (PoI g a P z) J) (hk17 : ∀ (l2 : Int32) (h : HT), k17_ l2 h = some z → Z g mX12_race J 0 0 17 [some (.ref (a 93)), none, some (.int l2), none, none, none] [] (WD g a h P)) : ∀ (n : Nat) (l2 : Int32) (l3 : Int32) (l4 : Int32) (h : HT), fX12_race_28 k17_ n l2 l3 l4 h = some z → Z g mX12_race J 0 0 28 [some (.ref (a 93)), none, some (.int l2), some (.int l3), some (.int l4), none] [] (WD g a h P) := by
  intro n
  induction n with
  | zero =>
    intro _ _ _ _ hf
    cases hf
  | succ n ih =>
    intro l2 l3 l4 h hf
    unfold fX12_race_28 at hf
    refine Z.iload (n := 30) dX12_race_28 rfl rfl ?_
    refine Z.aload_n (n := 31) dX12_race_30 rfl rfl ?_
    refine Z.getf (n := 34) fX12_9 dX12_race_31 rfl W93 rfl ?_
    refine Z.iconst (n := 35) (v := 0) dX12_race_34 rfl (by decide +kernel) ?_
    refine Z.iald (j := 0) (n := 36) dX12_race_35 rfl W94 (by decide +kernel) (by decide) (by decide) ?_
    refine Z.icmp_ge (tgt := 116) (n := 39) dX12_race_36 rfl rfl (fun c5 => ?_) (fun c5 => ?_)
    · rw [if_pos c5] at hf
      refine Z.iload_n (n := 117) dX12_race_116 rfl rfl ?_
      refine Z.if_ne (tgt := 122) (n := 120) dX12_race_117 rfl rfl (fun c6 => ?_) (fun c6 => ?_)
      · rw [if_neg c6] at hf
        refine Z.iinc (n := 125) (v := l2 + 1) dX12_race_122 rfl rfl rfl (by decide) rfl ?_
        refine Z.goto (tgt := 17) dX12_race_125 rfl ?_
        refine Z.fg [3, 4] ?_
        exact hk17 _ _ hf
      · rw [if_pos c6] at hf
        refine Z.iload_n (n := 121) dX12_race_120 rfl rfl ?_
        have hz := Option.some.inj hf
        subst hz
        exact Z.iret hJ dX12_race_121 rfl (Nat.le_refl _) (Nat.le_refl _) ⟨rfl, rfl⟩
    · rw [if_neg c5] at hf
      refine Z.aload_n (n := 40) dX12_race_39 rfl rfl ?_
      refine Z.getf (n := 43) fX12_9 dX12_race_40 rfl W93 rfl ?_
      refine Z.sipush (n := 46) (v := 270) dX12_race_43 rfl (by decide +kernel) ?_
      refine Z.iload (n := 48) dX12_race_46 rfl rfl ?_
      refine Z.iadd (n := 49) dX12_race_48 rfl ?_
      obtain ⟨j7, ej7, hf⟩ := Option.bind_eq_some_iff.mp hf
      obtain ⟨hij7, hlj7⟩ := ck_spec ej7
      refine Z.iald (j := j7) (n := 50) dX12_race_49 rfl W94 hij7 hlj7 (by decide) ?_
      refine Z.bipush (n := 52) (v := 99) dX12_race_50 rfl (by decide +kernel) ?_
      refine Z.icmp_ge (tgt := 68) (n := 55) dX12_race_52 rfl rfl (fun c8 => ?_) (fun c8 => ?_)
      · rw [if_pos c8] at hf
        exact zX12_race_68 hJ hk17 ih _ _ _ _ hf
      · rw [if_neg c8] at hf
        refine Z.aload_n (n := 56) dX12_race_55 rfl rfl ?_
        refine Z.iload (n := 58) dX12_race_56 rfl rfl ?_
        obtain ⟨z14, ez14, hf⟩ := Option.bind_eq_some_iff.mp hf
        refine Z.callV (n := 61) vX12_193 (ctX12_darers ez14) hJ.rm (Nat.le_of_ble_eq_true rfl) rfl rfl (Nat.le_refl _) (Nat.le_refl _) rfl W93 rfl rfl (Nat.le_of_ble_eq_true rfl) rfl dX12_race_58 rfl (fun v w hw => ?_)
        obtain ⟨rfl, rfl⟩ := hw
        show Z _ _ _ _ _ _ _ [.int z14.1] _
        refine Z.if_eq (tgt := 68) (n := 64) dX12_race_61 rfl rfl (fun c15 => ?_) (fun c15 => ?_)
        · rw [if_pos c15] at hf
          exact zX12_race_68 hJ hk17 ih _ _ _ _ hf
        · rw [if_neg c15] at hf
          refine Z.iconst (n := 65) (v := 1) dX12_race_64 rfl (by decide +kernel) ?_
          refine Z.goto (tgt := 69) dX12_race_65 rfl ?_
          exact zX12_race_69 hJ hk17 ih _ _ _ _ _ hf
def fX12_race_17 : Nat → Int32 → HT → Option (Int32 × HT)
  | 0, _, _ => none
  | n + 1, l2, h =>
  if 30 ≤ l2 then (some (30, h))
  else (fX12_race_28 (fX12_race_17  n) 1000 l2 0 0 h)
set_option maxHeartbeats 4000000 in
theorem zX12_race_17 {g : GP} {a : Nat → Nat} {P : PT} {J : JT} {z : Int32 × HT} (hJ : JX g 11 0 0 (PoI g a P z) J) : ∀ (n : Nat) (l2 : Int32) (h : HT), fX12_race_17 n l2 h = some z → Z g mX12_race J 0 0 17 [some (.ref (a 93)), none, some (.int l2), none, none, none] [] (WD g a h P) := by
  intro n
  induction n with
  | zero =>
    intro _ _ hf
    cases hf
  | succ n ih =>
    intro l2 h hf
    unfold fX12_race_17 at hf
    refine Z.iload_n (n := 18) dX12_race_17 rfl rfl ?_
    refine Z.bipush (n := 20) (v := 30) dX12_race_18 rfl (by decide +kernel) ?_
    refine Z.icmp_ge (tgt := 128) (n := 23) dX12_race_20 rfl rfl (fun c4 => ?_) (fun c4 => ?_)
    · rw [if_pos c4] at hf
      refine Z.bipush (n := 130) (v := 30) dX12_race_128 rfl (by decide +kernel) ?_
      have hz := Option.some.inj hf
      subst hz
      exact Z.iret hJ dX12_race_130 rfl (Nat.le_refl _) (Nat.le_refl _) ⟨rfl, rfl⟩
    · rw [if_neg c4] at hf
      refine Z.iconst (n := 24) (v := 0) dX12_race_23 rfl (by decide +kernel) ?_
      refine Z.istore_n (n := 25) dX12_race_24 rfl (by decide) rfl ?_
      refine Z.iconst (n := 26) (v := 0) dX12_race_25 rfl (by decide +kernel) ?_
      refine Z.istore (n := 28) dX12_race_26 rfl (by decide) rfl ?_
      exact zX12_race_28 hJ ih _ _ _ _ _ hf
def fX12_race (l1 : Int32) (h : HT) : Option (Int32 × HT) :=
  Option.bind (fX12_isStanding l1 h) fun z1 =>
  if z1.1 = 0 then (some ((-1), z1.2))
  else (Option.bind (fX12_takes l1 z1.2) fun z3 =>
  fX12_race_17 1000 0 z3.2)
set_option maxHeartbeats 4000000 in
theorem ctX12_race {g : GP} {a : Nat → Nat} {P : PT} {h : HT} {z : Int32 × HT} {l1 : Int32} (hf : fX12_race l1 h = some z) : Ct g 11 0 0 mX12_race [.ref (a 93), .int l1] (WD g a h P) (PoI g a P z) := by
  refine Ct.of (by decide +kernel) (Nat.le_of_ble_eq_true rfl) fun J hJ => ?_
  show Z g mX12_race J 0 0 0 [some (.ref (a 93)), some (.int l1), none, none, none, none] [] (WD g a h P)
  unfold fX12_race at hf
  refine Z.aload_n (n := 1) dX12_race_0 rfl rfl ?_
  refine Z.iload_n (n := 2) dX12_race_1 rfl rfl ?_
  obtain ⟨z1, ez1, hf⟩ := Option.bind_eq_some_iff.mp hf
  refine Z.callV (n := 5) vX12_132 (ctX12_isStanding ez1) hJ.rm (Nat.le_of_ble_eq_true rfl) rfl rfl (Nat.le_refl _) (Nat.le_refl _) rfl W93 rfl rfl (Nat.le_of_ble_eq_true rfl) rfl dX12_race_2 rfl (fun v w hw => ?_)
  obtain ⟨rfl, rfl⟩ := hw
  show Z _ _ _ _ _ _ _ [.int z1.1] _
  refine Z.if_ne (tgt := 10) (n := 8) dX12_race_5 rfl rfl (fun c2 => ?_) (fun c2 => ?_)
  · rw [if_neg c2] at hf
    refine Z.aload_n (n := 11) dX12_race_10 rfl rfl ?_
    refine Z.iload_n (n := 12) dX12_race_11 rfl rfl ?_
    obtain ⟨z3, ez3, hf⟩ := Option.bind_eq_some_iff.mp hf
    refine Z.callV (n := 15) vX12_170 (ctX12_takes ez3) hJ.rm (Nat.le_of_ble_eq_true rfl) rfl rfl (Nat.le_refl _) (Nat.le_refl _) rfl W93 rfl rfl (Nat.le_of_ble_eq_true rfl) rfl dX12_race_12 rfl (fun v w hw => ?_)
    obtain ⟨rfl, rfl⟩ := hw
    show Z _ _ _ _ _ _ _ [] _
    refine Z.iconst (n := 16) (v := 0) dX12_race_15 rfl (by decide +kernel) ?_
    refine Z.istore_n (n := 17) dX12_race_16 rfl (by decide) rfl ?_
    refine Z.fg [1] ?_
    exact zX12_race_17 hJ _ _ _ hf
  · rw [if_pos c2] at hf
    refine Z.iconst (n := 9) (v := -1) dX12_race_8 rfl (by decide +kernel) ?_
    have hz := Option.some.inj hf
    subst hz
    exact Z.iret hJ dX12_race_9 rfl (Nat.le_refl _) (Nat.le_refl _) ⟨rfl, rfl⟩
def fX12_isQuietWith_28 (l1 : Int32) (l2 : Int32) (s0 : Int32) (h : HT) : Option (Int32 × HT) :=
  Option.bind (ck 490 ((270 : Int32) + l1)) fun j5 =>
  Option.bind (ck 490 ((270 : Int32) + l1)) fun j6 =>
  Option.bind (cb s0) fun u7 =>
  some (s0, hu h 94 j6 ((h 94 j5) - l2))
set_option maxHeartbeats 4000000 in
theorem zX12_isQuietWith_28 {g : GP} {a : Nat → Nat} {P : PT} {J : JT} {z : Int32 × HT} (hJ : JX g 11 0 0 (PoI g a P z) J) (l1 : Int32) (l2 : Int32) (s0 : Int32) (h : HT) (hf : fX12_isQuietWith_28 l1 l2 s0 h = some z) : Z g mX12_isQuietWith J 0 0 28 [some (.ref (a 93)), some (.int l1), some (.int l2), none] [.int s0] (WD g a h P) := by
  unfold fX12_isQuietWith_28 at hf
  refine Z.istore_n (n := 29) dX12_isQuietWith_28 rfl (by decide) rfl ?_
  refine Z.aload_n (n := 30) dX12_isQuietWith_29 rfl rfl ?_
  refine Z.getf (n := 33) fX12_9 dX12_isQuietWith_30 rfl W93 rfl ?_
  refine Z.sipush (n := 36) (v := 270) dX12_isQuietWith_33 rfl (by decide +kernel) ?_
  refine Z.iload_n (n := 37) dX12_isQuietWith_36 rfl rfl ?_
  refine Z.iadd (n := 38) dX12_isQuietWith_37 rfl ?_
  refine Z.dup2 (n := 39) dX12_isQuietWith_38 rfl rfl rfl ?_
  obtain ⟨j5, ej5, hf⟩ := Option.bind_eq_some_iff.mp hf
  obtain ⟨hij5, hlj5⟩ := ck_spec ej5
  refine Z.iald (j := j5) (n := 40) dX12_isQuietWith_39 rfl W94 hij5 hlj5 (by decide) ?_
  refine Z.iload_n (n := 41) dX12_isQuietWith_40 rfl rfl ?_
  refine Z.isub (n := 42) dX12_isQuietWith_41 rfl ?_
  obtain ⟨j6, ej6, hf⟩ := Option.bind_eq_some_iff.mp hf
  obtain ⟨hij6, hlj6⟩ := ck_spec ej6
  refine Z.iast (j := j6) (n := 43) dX12_isQuietWith_42 rfl W94 hij6 hlj6 (by decide) W94s ?_
  refine Z.iload_n (n := 44) dX12_isQuietWith_43 rfl rfl ?_
  obtain ⟨u7, eu7, hf⟩ := Option.bind_eq_some_iff.mp hf
  have hz := Option.some.inj hf
  subst hz
  exact Z.zret hJ dX12_isQuietWith_44 rfl (cb_nar eu7) (Nat.le_refl _) (Nat.le_refl _) ⟨rfl, rfl⟩
def fX12_isQuietWith (l1 : Int32) (l2 : Int32) (h : HT) : Option (Int32 × HT) :=
  Option.bind (ck 490 ((270 : Int32) + l1)) fun j1 =>
  Option.bind (ck 490 ((270 : Int32) + l1)) fun j2 =>
  Option.bind (fX12_firstWar  (hu h 94 j2 ((h 94 j1) + l2))) fun z3 =>
  if z3.1 = (-5) then (fX12_isQuietWith_28 l1 l2 1 z3.2)
  else (fX12_isQuietWith_28 l1 l2 0 z3.2)
set_option maxHeartbeats 4000000 in
theorem ctX12_isQuietWith {g : GP} {a : Nat → Nat} {P : PT} {h : HT} {z : Int32 × HT} {l1 : Int32} {l2 : Int32} (hf : fX12_isQuietWith l1 l2 h = some z) : Ct g 11 0 0 mX12_isQuietWith [.ref (a 93), .int l1, .int l2] (WD g a h P) (PoI g a P z) := by
  refine Ct.of (by decide +kernel) (Nat.le_of_ble_eq_true rfl) fun J hJ => ?_
  show Z g mX12_isQuietWith J 0 0 0 [some (.ref (a 93)), some (.int l1), some (.int l2), none] [] (WD g a h P)
  unfold fX12_isQuietWith at hf
  refine Z.aload_n (n := 1) dX12_isQuietWith_0 rfl rfl ?_
  refine Z.getf (n := 4) fX12_9 dX12_isQuietWith_1 rfl W93 rfl ?_
  refine Z.sipush (n := 7) (v := 270) dX12_isQuietWith_4 rfl (by decide +kernel) ?_
  refine Z.iload_n (n := 8) dX12_isQuietWith_7 rfl rfl ?_
  refine Z.iadd (n := 9) dX12_isQuietWith_8 rfl ?_
  refine Z.dup2 (n := 10) dX12_isQuietWith_9 rfl rfl rfl ?_
  obtain ⟨j1, ej1, hf⟩ := Option.bind_eq_some_iff.mp hf
  obtain ⟨hij1, hlj1⟩ := ck_spec ej1
  refine Z.iald (j := j1) (n := 11) dX12_isQuietWith_10 rfl W94 hij1 hlj1 (by decide) ?_
  refine Z.iload_n (n := 12) dX12_isQuietWith_11 rfl rfl ?_
  refine Z.iadd (n := 13) dX12_isQuietWith_12 rfl ?_
  obtain ⟨j2, ej2, hf⟩ := Option.bind_eq_some_iff.mp hf
  obtain ⟨hij2, hlj2⟩ := ck_spec ej2
  refine Z.iast (j := j2) (n := 14) dX12_isQuietWith_13 rfl W94 hij2 hlj2 (by decide) W94s ?_
  refine Z.aload_n (n := 15) dX12_isQuietWith_14 rfl rfl ?_
  obtain ⟨z3, ez3, hf⟩ := Option.bind_eq_some_iff.mp hf
  refine Z.callV (n := 18) vX12_196 (ctX12_firstWar ez3) hJ.rm (Nat.le_of_ble_eq_true rfl) rfl rfl (Nat.le_refl _) (Nat.le_refl _) rfl W93 rfl rfl (Nat.le_of_ble_eq_true rfl) rfl dX12_isQuietWith_15 rfl (fun v w hw => ?_)
  obtain ⟨rfl, rfl⟩ := hw
  show Z _ _ _ _ _ _ _ [.int z3.1] _
  refine Z.bipush (n := 20) (v := -5) dX12_isQuietWith_18 rfl (by decide +kernel) ?_
  refine Z.icmp_ne (tgt := 27) (n := 23) dX12_isQuietWith_20 rfl rfl (fun c4 => ?_) (fun c4 => ?_)
  · rw [if_neg c4] at hf
    refine Z.iconst (n := 28) (v := 0) dX12_isQuietWith_27 rfl (by decide +kernel) ?_
    exact zX12_isQuietWith_28 hJ _ _ _ _ hf
  · rw [if_pos c4] at hf
    refine Z.iconst (n := 24) (v := 1) dX12_isQuietWith_23 rfl (by decide +kernel) ?_
    refine Z.goto (tgt := 28) dX12_isQuietWith_24 rfl ?_
    exact zX12_isQuietWith_28 hJ _ _ _ _ hf
def fX12_few_17 (h : HT) : Option (Int32 × HT) :=
  some ((-1), h)
set_option maxHeartbeats 4000000 in
theorem zX12_few_17 {g : GP} {a : Nat → Nat} {P : PT} {J : JT} {z : Int32 × HT} (hJ : JX g 12 0 0 (PoI g a P z) J) (h : HT) (hf : fX12_few_17 h = some z) : Z g mX12_few J 0 0 17 [none, none, none, none, none, none] [] (WD g a h P) := by
  unfold fX12_few_17 at hf
  refine Z.iconst (n := 18) (v := -1) dX12_few_17 rfl (by decide +kernel) ?_
  have hz := Option.some.inj hf
  subst hz
  exact Z.iret hJ dX12_few_18 rfl (Nat.le_refl _) (Nat.le_refl _) ⟨rfl, rfl⟩
def fX12_few_156 (s0 : Int32) (h : HT) : Option (Int32 × HT) :=
  some (s0, h)
set_option maxHeartbeats 4000000 in
theorem zX12_few_156 {g : GP} {a : Nat → Nat} {P : PT} {J : JT} {z : Int32 × HT} (hJ : JX g 12 0 0 (PoI g a P z) J) (s0 : Int32) (h : HT) (hf : fX12_few_156 s0 h = some z) : Z g mX12_few J 0 0 156 [none, none, none, none, none, none] [.int s0] (WD g a h P) := by
  unfold fX12_few_156 at hf
  have hz := Option.some.inj hf
  subst hz
  exact Z.iret hJ dX12_few_156 rfl (Nat.le_refl _) (Nat.le_refl _) ⟨rfl, rfl⟩
def fX12_few_128 (k38_ : Int32 → Int32 → HT → Option (Int32 × HT)) (k47_ : Int32 → Int32 → Int32 → HT → Option (Int32 × HT)) (k56_ : Int32 → Int32 → Int32 → Int32 → HT → Option (Int32 × HT)) (l2 : Int32) (l3 : Int32) (l4 : Int32) (l5 : Int32) (h : HT) : Option (Int32 × HT) :=
  k56_ l2 l3 l4 (l5 + 1) h
set_option maxHeartbeats 4000000 in
theorem zX12_few_128 {g : GP} {a : Nat → Nat} {P : PT} {J : JT} {z : Int32 × HT} {k38_ : Int32 → Int32 → HT → Option (Int32 × HT)} {k47_ : Int32 → Int32 → Int32 → HT → Option (Int32 × HT)} {k56_ : Int32 → Int32 → Int32 → Int32 → HT → Option (Int32 × HT)} (hJ : JX g 12 0 0 (PoI g a P z) J) (hk38 : ∀ (l2 : Int32) (l3 : Int32) (h : HT), k38_ l2 l3 h = some z → Z g mX12_few J 0 0 38 [some (.ref (a 93)), none, some (.int l2), some (.int l3), none, none] [] (WD g a h P)) (hk47 : ∀ (l2 : Int32) (l3 : Int32) (l4 : Int32) (h : HT), k47_ l2 l3 l4 h = some z → Z g mX12_few J 0 0 47 [some (.ref (a 93)), none, some (.int l2), some (.int l3), some (.int l4), none] [] (WD g a h P)) (hk56 : ∀ (l2 : Int32) (l3 : Int32) (l4 : Int32) (l5 : Int32) (h : HT), k56_ l2 l3 l4 l5 h = some z → Z g mX12_few J 0 0 56 [some (.ref (a 93)), none, some (.int l2), some (.int l3), some (.int l4), some (.int l5)] [] (WD g a h P)) (l2 : Int32) (l3 : Int32) (l4 : Int32) (l5 : Int32) (h : HT) (hf : fX12_few_128 k38_ k47_ k56_ l2 l3 l4 l5 h = some z) : Z g mX12_few J 0 0 128 [some (.ref (a 93)), none, some (.int l2), some (.int l3), some (.int l4), some (.int l5)] [] (WD g a h P) := by
  unfold fX12_few_128 at hf
  refine Z.iinc (n := 131) (v := l5 + 1) dX12_few_128 rfl rfl rfl (by decide) rfl ?_
  refine Z.goto (tgt := 56) dX12_few_131 rfl ?_
  exact hk56 _ _ _ _ _ hf
def fX12_few_127 (k38_ : Int32 → Int32 → HT → Option (Int32 × HT)) (k47_ : Int32 → Int32 → Int32 → HT → Option (Int32 × HT)) (k56_ : Int32 → Int32 → Int32 → Int32 → HT → Option (Int32 × HT)) (s0 : Int32) (h : HT) : Option (Int32 × HT) :=
  some (s0, h)
set_option maxHeartbeats 4000000 in
theorem zX12_few_127 {g : GP} {a : Nat → Nat} {P : PT} {J : JT} {z : Int32 × HT} {k38_ : Int32 → Int32 → HT → Option (Int32 × HT)} {k47_ : Int32 → Int32 → Int32 → HT → Option (Int32 × HT)} {k56_ : Int32 → Int32 → Int32 → Int32 → HT → Option (Int32 × HT)} (hJ : JX g 12 0 0 (PoI g a P z) J) (hk38 : ∀ (l2 : Int32) (l3 : Int32) (h : HT), k38_ l2 l3 h = some z → Z g mX12_few J 0 0 38 [some (.ref (a 93)), none, some (.int l2), some (.int l3), none, none] [] (WD g a h P)) (hk47 : ∀ (l2 : Int32) (l3 : Int32) (l4 : Int32) (h : HT), k47_ l2 l3 l4 h = some z → Z g mX12_few J 0 0 47 [some (.ref (a 93)), none, some (.int l2), some (.int l3), some (.int l4), none] [] (WD g a h P)) (hk56 : ∀ (l2 : Int32) (l3 : Int32) (l4 : Int32) (l5 : Int32) (h : HT), k56_ l2 l3 l4 l5 h = some z → Z g mX12_few J 0 0 56 [some (.ref (a 93)), none, some (.int l2), some (.int l3), some (.int l4), some (.int l5)] [] (WD g a h P)) (s0 : Int32) (h : HT) (hf : fX12_few_127 k38_ k47_ k56_ s0 h = some z) : Z g mX12_few J 0 0 127 [none, none, none, none, none, none] [.int s0] (WD g a h P) := by
  unfold fX12_few_127 at hf
  have hz := Option.some.inj hf
  subst hz
  exact Z.iret hJ dX12_few_127 rfl (Nat.le_refl _) (Nat.le_refl _) ⟨rfl, rfl⟩
def fX12_few_56 (k38_ : Int32 → Int32 → HT → Option (Int32 × HT)) (k47_ : Int32 → Int32 → Int32 → HT → Option (Int32 × HT)) : Nat → Int32 → Int32 → Int32 → Int32 → HT → Option (Int32 × HT)
  | 0, _, _, _, _, _ => none
  | n + 1, l2, l3, l4, l5, h =>
  if (h 94 0) ≤ l5 then (k47_ l2 l3 (l4 + 2) h)
  else (Option.bind (fX12_isAlive l5 h) fun z12 =>
  if z12.1 = 0 then (fX12_few_128 k38_ k47_ (fX12_few_56 k38_ k47_ n) l2 l3 l4 l5 z12.2)
  else (Option.bind (ck 490 ((270 : Int32) + l5)) fun j14 =>
  Option.bind (fX12_in ((z12.2 94 j14) + (l4 * l3)) 0 99 z12.2) fun z15 =>
  if z15.1 = 0 then (fX12_few_128 k38_ k47_ (fX12_few_56 k38_ k47_ n) l2 l3 l4 l5 z15.2)
  else (Option.bind (fX12_isQuietWith l5 (l4 * l3) z15.2) fun z17 =>
  if z17.1 = 0 then (if l2 = 0 then (fX12_few_127 k38_ k47_ (fX12_few_56 k38_ k47_ n) (l4 * l3) z17.2)
  else (fX12_few_127 k38_ k47_ (fX12_few_56 k38_ k47_ n) l5 z17.2))
  else (fX12_few_128 k38_ k47_ (fX12_few_56 k38_ k47_ n) l2 l3 l4 l5 z17.2))))
set_option maxHeartbeats 4000000 in
theorem zX12_few_56 {g : GP} {a : Nat → Nat} {P : PT} {J : JT} {z : Int32 × HT} {k38_ : Int32 → Int32 → HT → Option (Int32 × HT)} {k47_ : Int32 → Int32 → Int32 → HT → Option (Int32 × HT)} (hJ : JX g 12 0 0 (PoI g a P z) J) (hk38 : ∀ (l2 : Int32) (l3 : Int32) (h : HT), k38_ l2 l3 h = some z → Z g mX12_few J 0 0 38 [some (.ref (a 93)), none, some (.int l2), some (.int l3), none, none] [] (WD g a h P)) (hk47 : ∀ (l2 : Int32) (l3 : Int32) (l4 : Int32) (h : HT), k47_ l2 l3 l4 h = some z → Z g mX12_few J 0 0 47 [some (.ref (a 93)), none, some (.int l2), some (.int l3), some (.int l4), none] [] (WD g a h P)) : ∀ (n : Nat) (l2 : Int32) (l3 : Int32) (l4 : Int32) (l5 : Int32) (h : HT), fX12_few_56 k38_ k47_ n l2 l3 l4 l5 h = some z → Z g mX12_few J 0 0 56 [some (.ref (a 93)), none, some (.int l2), some (.int l3), some (.int l4), some (.int l5)] [] (WD g a h P) := by
  intro n
  induction n with
  | zero =>
    intro _ _ _ _ _ hf
    cases hf
  | succ n ih =>
    intro l2 l3 l4 l5 h hf
    unfold fX12_few_56 at hf
    refine Z.iload (n := 58) dX12_few_56 rfl rfl ?_
    refine Z.aload_n (n := 59) dX12_few_58 rfl rfl ?_
    refine Z.getf (n := 62) fX12_9 dX12_few_59 rfl W93 rfl ?_
    refine Z.iconst (n := 63) (v := 0) dX12_few_62 rfl (by decide +kernel) ?_
    refine Z.iald (j := 0) (n := 64) dX12_few_63 rfl W94 (by decide +kernel) (by decide) (by decide) ?_
    refine Z.icmp_ge (tgt := 134) (n := 67) dX12_few_64 rfl rfl (fun c11 => ?_) (fun c11 => ?_)
    · rw [if_pos c11] at hf
      refine Z.iinc (n := 137) (v := l4 + 2) dX12_few_134 rfl rfl rfl (by decide) rfl ?_
      refine Z.goto (tgt := 47) dX12_few_137 rfl ?_
      refine Z.fg [5] ?_
      exact hk47 _ _ _ _ hf
    · rw [if_neg c11] at hf
      refine Z.aload_n (n := 68) dX12_few_67 rfl rfl ?_
      refine Z.iload (n := 70) dX12_few_68 rfl rfl ?_
      obtain ⟨z12, ez12, hf⟩ := Option.bind_eq_some_iff.mp hf
      refine Z.callV (n := 73) vX12_49 (ctX12_isAlive ez12) hJ.rm (Nat.le_of_ble_eq_true rfl) rfl rfl (Nat.le_refl _) (Nat.le_refl _) rfl W93 rfl rfl (Nat.le_of_ble_eq_true rfl) rfl dX12_few_70 rfl (fun v w hw => ?_)
      obtain ⟨rfl, rfl⟩ := hw
      show Z _ _ _ _ _ _ _ [.int z12.1] _
      refine Z.if_eq (tgt := 128) (n := 76) dX12_few_73 rfl rfl (fun c13 => ?_) (fun c13 => ?_)
      · rw [if_pos c13] at hf
        exact zX12_few_128 hJ hk38 hk47 ih _ _ _ _ _ hf
      · rw [if_neg c13] at hf
        refine Z.aload_n (n := 77) dX12_few_76 rfl rfl ?_
        refine Z.getf (n := 80) fX12_9 dX12_few_77 rfl W93 rfl ?_
        refine Z.sipush (n := 83) (v := 270) dX12_few_80 rfl (by decide +kernel) ?_
        refine Z.iload (n := 85) dX12_few_83 rfl rfl ?_
        refine Z.iadd (n := 86) dX12_few_85 rfl ?_
        obtain ⟨j14, ej14, hf⟩ := Option.bind_eq_some_iff.mp hf
        obtain ⟨hij14, hlj14⟩ := ck_spec ej14
        refine Z.iald (j := j14) (n := 87) dX12_few_86 rfl W94 hij14 hlj14 (by decide) ?_
        refine Z.iload (n := 89) dX12_few_87 rfl rfl ?_
        refine Z.iload_n (n := 90) dX12_few_89 rfl rfl ?_
        refine Z.imul (n := 91) dX12_few_90 rfl ?_
        refine Z.iadd (n := 92) dX12_few_91 rfl ?_
        refine Z.iconst (n := 93) (v := 0) dX12_few_92 rfl (by decide +kernel) ?_
        refine Z.bipush (n := 95) (v := 99) dX12_few_93 rfl (by decide +kernel) ?_
        obtain ⟨z15, ez15, hf⟩ := Option.bind_eq_some_iff.mp hf
        refine Z.callS (n := 98) vX12_41 (ctX12_in ez15) hJ.rm (Nat.le_of_ble_eq_true rfl) rfl rfl (Nat.le_refl _) (Nat.le_refl _) rfl (Nat.le_of_ble_eq_true rfl) rfl dX12_few_95 rfl (fun v w hw => ?_)
        obtain ⟨rfl, rfl⟩ := hw
        show Z _ _ _ _ _ _ _ [.int z15.1] _
        refine Z.if_eq (tgt := 128) (n := 101) dX12_few_98 rfl rfl (fun c16 => ?_) (fun c16 => ?_)
        · rw [if_pos c16] at hf
          exact zX12_few_128 hJ hk38 hk47 ih _ _ _ _ _ hf
        · rw [if_neg c16] at hf
          refine Z.aload_n (n := 102) dX12_few_101 rfl rfl ?_
          refine Z.iload (n := 104) dX12_few_102 rfl rfl ?_
          refine Z.iload (n := 106) dX12_few_104 rfl rfl ?_
          refine Z.iload_n (n := 107) dX12_few_106 rfl rfl ?_
          refine Z.imul (n := 108) dX12_few_107 rfl ?_
          obtain ⟨z17, ez17, hf⟩ := Option.bind_eq_some_iff.mp hf
          refine Z.callV (n := 111) vX12_247 (ctX12_isQuietWith ez17) hJ.rm (Nat.le_of_ble_eq_true rfl) rfl rfl (Nat.le_refl _) (Nat.le_refl _) rfl W93 rfl rfl (Nat.le_of_ble_eq_true rfl) rfl dX12_few_108 rfl (fun v w hw => ?_)
          obtain ⟨rfl, rfl⟩ := hw
          show Z _ _ _ _ _ _ _ [.int z17.1] _
          refine Z.if_ne (tgt := 128) (n := 114) dX12_few_111 rfl rfl (fun c18 => ?_) (fun c18 => ?_)
          · rw [if_neg c18] at hf
            exact zX12_few_128 hJ hk38 hk47 ih _ _ _ _ _ hf
          · rw [if_pos c18] at hf
            refine Z.iload_n (n := 115) dX12_few_114 rfl rfl ?_
            refine Z.if_ne (tgt := 125) (n := 118) dX12_few_115 rfl rfl (fun c19 => ?_) (fun c19 => ?_)
            · rw [if_neg c19] at hf
              refine Z.iload (n := 127) dX12_few_125 rfl rfl ?_
              refine Z.fg [0, 2, 3, 4, 5] ?_
              exact zX12_few_127 hJ hk38 hk47 ih _ _ hf
            · rw [if_pos c19] at hf
              refine Z.iload (n := 120) dX12_few_118 rfl rfl ?_
              refine Z.iload_n (n := 121) dX12_few_120 rfl rfl ?_
              refine Z.imul (n := 122) dX12_few_121 rfl ?_
              refine Z.goto (tgt := 127) dX12_few_122 rfl ?_
              refine Z.fg [0, 2, 3, 4, 5] ?_
              exact zX12_few_127 hJ hk38 hk47 ih _ _ hf
def fX12_few_47 (k38_ : Int32 → Int32 → HT → Option (Int32 × HT)) : Nat → Int32 → Int32 → Int32 → HT → Option (Int32 × HT)
  | 0, _, _, _, _ => none
  | n + 1, l2, l3, l4, h =>
  if 2 ≤ l4 then (k38_ l2 (l3 + 1) h)
  else (fX12_few_56 k38_ (fX12_few_47 k38_ n) 1000 l2 l3 l4 0 h)
set_option maxHeartbeats 4000000 in
theorem zX12_few_47 {g : GP} {a : Nat → Nat} {P : PT} {J : JT} {z : Int32 × HT} {k38_ : Int32 → Int32 → HT → Option (Int32 × HT)} (hJ : JX g 12 0 0 (PoI g a P z) J) (hk38 : ∀ (l2 : Int32) (l3 : Int32) (h : HT), k38_ l2 l3 h = some z → Z g mX12_few J 0 0 38 [some (.ref (a 93)), none, some (.int l2), some (.int l3), none, none] [] (WD g a h P)) : ∀ (n : Nat) (l2 : Int32) (l3 : Int32) (l4 : Int32) (h : HT), fX12_few_47 k38_ n l2 l3 l4 h = some z → Z g mX12_few J 0 0 47 [some (.ref (a 93)), none, some (.int l2), some (.int l3), some (.int l4), none] [] (WD g a h P) := by
  intro n
  induction n with
  | zero =>
    intro _ _ _ _ hf
    cases hf
  | succ n ih =>
    intro l2 l3 l4 h hf
    unfold fX12_few_47 at hf
    refine Z.iload (n := 49) dX12_few_47 rfl rfl ?_
    refine Z.iconst (n := 50) (v := 2) dX12_few_49 rfl (by decide +kernel) ?_
    refine Z.icmp_ge (tgt := 140) (n := 53) dX12_few_50 rfl rfl (fun c10 => ?_) (fun c10 => ?_)
    · rw [if_pos c10] at hf
      refine Z.iinc (n := 143) (v := l3 + 1) dX12_few_140 rfl rfl rfl (by decide) rfl ?_
      refine Z.goto (tgt := 38) dX12_few_143 rfl ?_
      refine Z.fg [4] ?_
      exact hk38 _ _ _ hf
    · rw [if_neg c10] at hf
      refine Z.iconst (n := 54) (v := 0) dX12_few_53 rfl (by decide +kernel) ?_
      refine Z.istore (n := 56) dX12_few_54 rfl (by decide) rfl ?_
      exact zX12_few_56 hJ hk38 ih _ _ _ _ _ _ hf
def fX12_few_38 : Nat → Int32 → Int32 → HT → Option (Int32 × HT)
  | 0, _, _, _ => none
  | n + 1, l2, l3, h =>
  if 30 < l3 then (if l2 = 0 then (fX12_few_156 0 h)
  else (fX12_few_156 (-5) h))
  else (fX12_few_47 (fX12_few_38  n) 1000 l2 l3 (-1) h)
set_option maxHeartbeats 4000000 in
theorem zX12_few_38 {g : GP} {a : Nat → Nat} {P : PT} {J : JT} {z : Int32 × HT} (hJ : JX g 12 0 0 (PoI g a P z) J) : ∀ (n : Nat) (l2 : Int32) (l3 : Int32) (h : HT), fX12_few_38 n l2 l3 h = some z → Z g mX12_few J 0 0 38 [some (.ref (a 93)), none, some (.int l2), some (.int l3), none, none] [] (WD g a h P) := by
  intro n
  induction n with
  | zero =>
    intro _ _ _ hf
    cases hf
  | succ n ih =>
    intro l2 l3 h hf
    unfold fX12_few_38 at hf
    refine Z.iload_n (n := 39) dX12_few_38 rfl rfl ?_
    refine Z.bipush (n := 41) (v := 30) dX12_few_39 rfl (by decide +kernel) ?_
    refine Z.icmp_gt (tgt := 146) (n := 44) dX12_few_41 rfl rfl (fun c8 => ?_) (fun c8 => ?_)
    · rw [if_pos c8] at hf
      refine Z.iload_n (n := 147) dX12_few_146 rfl rfl ?_
      refine Z.if_ne (tgt := 154) (n := 150) dX12_few_147 rfl rfl (fun c9 => ?_) (fun c9 => ?_)
      · rw [if_neg c9] at hf
        refine Z.bipush (n := 156) (v := -5) dX12_few_154 rfl (by decide +kernel) ?_
        refine Z.fg [0, 2, 3] ?_
        exact zX12_few_156 hJ _ _ hf
      · rw [if_pos c9] at hf
        refine Z.iconst (n := 151) (v := 0) dX12_few_150 rfl (by decide +kernel) ?_
        refine Z.goto (tgt := 156) dX12_few_151 rfl ?_
        refine Z.fg [0, 2, 3] ?_
        exact zX12_few_156 hJ _ _ hf
    · rw [if_neg c8] at hf
      refine Z.iconst (n := 45) (v := -1) dX12_few_44 rfl (by decide +kernel) ?_
      refine Z.istore (n := 47) dX12_few_45 rfl (by decide) rfl ?_
      exact zX12_few_47 hJ ih _ _ _ _ _ hf
def fX12_few (l1 : Int32) (l2 : Int32) (h : HT) : Option (Int32 × HT) :=
  Option.bind (fX12_isStanding l1 h) fun z1 =>
  if z1.1 = 0 then (fX12_few_17 z1.2)
  else (Option.bind (fX12_in l2 0 1 z1.2) fun z3 =>
  if z3.1 = 0 then (fX12_few_17 z3.2)
  else (Option.bind (fX12_takes l1 z3.2) fun z5 =>
  Option.bind (fX12_firstWar  z5.2) fun z6 =>
  if z6.1 = (-5) then (fX12_few_38 1000 l2 1 z6.2)
  else (some ((-3), z6.2))))
set_option maxHeartbeats 4000000 in
theorem ctX12_few {g : GP} {a : Nat → Nat} {P : PT} {h : HT} {z : Int32 × HT} {l1 : Int32} {l2 : Int32} (hf : fX12_few l1 l2 h = some z) : Ct g 12 0 0 mX12_few [.ref (a 93), .int l1, .int l2] (WD g a h P) (PoI g a P z) := by
  refine Ct.of (by decide +kernel) (Nat.le_of_ble_eq_true rfl) fun J hJ => ?_
  show Z g mX12_few J 0 0 0 [some (.ref (a 93)), some (.int l1), some (.int l2), none, none, none] [] (WD g a h P)
  unfold fX12_few at hf
  refine Z.aload_n (n := 1) dX12_few_0 rfl rfl ?_
  refine Z.iload_n (n := 2) dX12_few_1 rfl rfl ?_
  obtain ⟨z1, ez1, hf⟩ := Option.bind_eq_some_iff.mp hf
  refine Z.callV (n := 5) vX12_132 (ctX12_isStanding ez1) hJ.rm (Nat.le_of_ble_eq_true rfl) rfl rfl (Nat.le_refl _) (Nat.le_refl _) rfl W93 rfl rfl (Nat.le_of_ble_eq_true rfl) rfl dX12_few_2 rfl (fun v w hw => ?_)
  obtain ⟨rfl, rfl⟩ := hw
  show Z _ _ _ _ _ _ _ [.int z1.1] _
  refine Z.if_eq (tgt := 17) (n := 8) dX12_few_5 rfl rfl (fun c2 => ?_) (fun c2 => ?_)
  · rw [if_pos c2] at hf
    refine Z.fg [0, 1, 2] ?_
    exact zX12_few_17 hJ _ hf
  · rw [if_neg c2] at hf
    refine Z.iload_n (n := 9) dX12_few_8 rfl rfl ?_
    refine Z.iconst (n := 10) (v := 0) dX12_few_9 rfl (by decide +kernel) ?_
    refine Z.iconst (n := 11) (v := 1) dX12_few_10 rfl (by decide +kernel) ?_
    obtain ⟨z3, ez3, hf⟩ := Option.bind_eq_some_iff.mp hf
    refine Z.callS (n := 14) vX12_41 (ctX12_in ez3) hJ.rm (Nat.le_of_ble_eq_true rfl) rfl rfl (Nat.le_refl _) (Nat.le_refl _) rfl (Nat.le_of_ble_eq_true rfl) rfl dX12_few_11 rfl (fun v w hw => ?_)
    obtain ⟨rfl, rfl⟩ := hw
    show Z _ _ _ _ _ _ _ [.int z3.1] _
    refine Z.if_ne (tgt := 19) (n := 17) dX12_few_14 rfl rfl (fun c4 => ?_) (fun c4 => ?_)
    · rw [if_neg c4] at hf
      refine Z.aload_n (n := 20) dX12_few_19 rfl rfl ?_
      refine Z.iload_n (n := 21) dX12_few_20 rfl rfl ?_
      obtain ⟨z5, ez5, hf⟩ := Option.bind_eq_some_iff.mp hf
      refine Z.callV (n := 24) vX12_170 (ctX12_takes ez5) hJ.rm (Nat.le_of_ble_eq_true rfl) rfl rfl (Nat.le_refl _) (Nat.le_refl _) rfl W93 rfl rfl (Nat.le_of_ble_eq_true rfl) rfl dX12_few_21 rfl (fun v w hw => ?_)
      obtain ⟨rfl, rfl⟩ := hw
      show Z _ _ _ _ _ _ _ [] _
      refine Z.aload_n (n := 25) dX12_few_24 rfl rfl ?_
      obtain ⟨z6, ez6, hf⟩ := Option.bind_eq_some_iff.mp hf
      refine Z.callV (n := 28) vX12_196 (ctX12_firstWar ez6) hJ.rm (Nat.le_of_ble_eq_true rfl) rfl rfl (Nat.le_refl _) (Nat.le_refl _) rfl W93 rfl rfl (Nat.le_of_ble_eq_true rfl) rfl dX12_few_25 rfl (fun v w hw => ?_)
      obtain ⟨rfl, rfl⟩ := hw
      show Z _ _ _ _ _ _ _ [.int z6.1] _
      refine Z.bipush (n := 30) (v := -5) dX12_few_28 rfl (by decide +kernel) ?_
      refine Z.icmp_eq (tgt := 36) (n := 33) dX12_few_30 rfl rfl (fun c7 => ?_) (fun c7 => ?_)
      · rw [if_pos c7] at hf
        refine Z.iconst (n := 37) (v := 1) dX12_few_36 rfl (by decide +kernel) ?_
        refine Z.istore_n (n := 38) dX12_few_37 rfl (by decide) rfl ?_
        refine Z.fg [1] ?_
        exact zX12_few_38 hJ _ _ _ _ hf
      · rw [if_neg c7] at hf
        refine Z.bipush (n := 35) (v := -3) dX12_few_33 rfl (by decide +kernel) ?_
        have hz := Option.some.inj hf
        subst hz
        exact Z.iret hJ dX12_few_35 rfl (Nat.le_refl _) (Nat.le_refl _) ⟨rfl, rfl⟩
    · rw [if_pos c4] at hf
      refine Z.fg [0, 1, 2] ?_
      exact zX12_few_17 hJ _ hf
def fX12_guarded_53 (k19_ : Int32 → Int32 → HT → Option (Int32 × HT)) (l3 : Int32) (s0 : Int32) (s1 : Int32) (h : HT) : Option (Int32 × HT) :=
  k19_ (s1 ||| s0) (l3 + 1) h
set_option maxHeartbeats 4000000 in
theorem zX12_guarded_53 {g : GP} {a : Nat → Nat} {P : PT} {J : JT} {z : Int32 × HT} {k19_ : Int32 → Int32 → HT → Option (Int32 × HT)} (hJ : JX g 11 0 0 (PoI g a P z) J) (hk19 : ∀ (l2 : Int32) (l3 : Int32) (h : HT), k19_ l2 l3 h = some z → Z g mX12_guarded J 0 0 19 [some (.ref (a 93)), none, some (.int l2), some (.int l3)] [] (WD g a h P)) (l3 : Int32) (s0 : Int32) (s1 : Int32) (h : HT) (hf : fX12_guarded_53 k19_ l3 s0 s1 h = some z) : Z g mX12_guarded J 0 0 53 [some (.ref (a 93)), none, none, some (.int l3)] [.int s0, .int s1] (WD g a h P) := by
  unfold fX12_guarded_53 at hf
  refine Z.ior (n := 54) dX12_guarded_53 rfl ?_
  refine Z.istore_n (n := 55) dX12_guarded_54 rfl (by decide) rfl ?_
  refine Z.iinc (n := 58) (v := l3 + 1) dX12_guarded_55 rfl rfl rfl (by decide) rfl ?_
  refine Z.goto (tgt := 19) dX12_guarded_58 rfl ?_
  exact hk19 _ _ _ hf
def fX12_guarded_52 (k19_ : Int32 → Int32 → HT → Option (Int32 × HT)) (l3 : Int32) (s0 : Int32) (h : HT) : Option (Int32 × HT) :=
  fX12_guarded_53 k19_ l3 0 s0 h
set_option maxHeartbeats 4000000 in
theorem zX12_guarded_52 {g : GP} {a : Nat → Nat} {P : PT} {J : JT} {z : Int32 × HT} {k19_ : Int32 → Int32 → HT → Option (Int32 × HT)} (hJ : JX g 11 0 0 (PoI g a P z) J) (hk19 : ∀ (l2 : Int32) (l3 : Int32) (h : HT), k19_ l2 l3 h = some z → Z g mX12_guarded J 0 0 19 [some (.ref (a 93)), none, some (.int l2), some (.int l3)] [] (WD g a h P)) (l3 : Int32) (s0 : Int32) (h : HT) (hf : fX12_guarded_52 k19_ l3 s0 h = some z) : Z g mX12_guarded J 0 0 52 [some (.ref (a 93)), none, none, some (.int l3)] [.int s0] (WD g a h P) := by
  unfold fX12_guarded_52 at hf
  refine Z.iconst (n := 53) (v := 0) dX12_guarded_52 rfl (by decide +kernel) ?_
  exact zX12_guarded_53 hJ hk19 _ _ _ _ hf
def fX12_guarded_19 : Nat → Int32 → Int32 → HT → Option (Int32 × HT)
  | 0, _, _, _ => none
  | n + 1, l2, l3, h =>
  if (h 94 0) ≤ l3 then (some (l2, h))
  else (Option.bind (fX12_isAlive l3 h) fun z5 =>
  if z5.1 = 0 then (fX12_guarded_52 (fX12_guarded_19  n) l3 l2 z5.2)
  else (Option.bind (fX12_darers l3 z5.2) fun z7 =>
  if z7.1 = 0 then (fX12_guarded_53 (fX12_guarded_19  n) l3 ((1 : Int32) <<< (l3 &&& 31)) l2 z7.2)
  else (fX12_guarded_52 (fX12_guarded_19  n) l3 l2 z7.2)))
set_option maxHeartbeats 4000000 in
theorem zX12_guarded_19 {g : GP} {a : Nat → Nat} {P : PT} {J : JT} {z : Int32 × HT} (hJ : JX g 11 0 0 (PoI g a P z) J) : ∀ (n : Nat) (l2 : Int32) (l3 : Int32) (h : HT), fX12_guarded_19 n l2 l3 h = some z → Z g mX12_guarded J 0 0 19 [some (.ref (a 93)), none, some (.int l2), some (.int l3)] [] (WD g a h P) := by
  intro n
  induction n with
  | zero =>
    intro _ _ _ hf
    cases hf
  | succ n ih =>
    intro l2 l3 h hf
    unfold fX12_guarded_19 at hf
    refine Z.iload_n (n := 20) dX12_guarded_19 rfl rfl ?_
    refine Z.aload_n (n := 21) dX12_guarded_20 rfl rfl ?_
    refine Z.getf (n := 24) fX12_9 dX12_guarded_21 rfl W93 rfl ?_
    refine Z.iconst (n := 25) (v := 0) dX12_guarded_24 rfl (by decide +kernel) ?_
    refine Z.iald (j := 0) (n := 26) dX12_guarded_25 rfl W94 (by decide +kernel) (by decide) (by decide) ?_
    refine Z.icmp_ge (tgt := 61) (n := 29) dX12_guarded_26 rfl rfl (fun c4 => ?_) (fun c4 => ?_)
    · rw [if_pos c4] at hf
      refine Z.iload_n (n := 62) dX12_guarded_61 rfl rfl ?_
      have hz := Option.some.inj hf
      subst hz
      exact Z.iret hJ dX12_guarded_62 rfl (Nat.le_refl _) (Nat.le_refl _) ⟨rfl, rfl⟩
    · rw [if_neg c4] at hf
      refine Z.iload_n (n := 30) dX12_guarded_29 rfl rfl ?_
      refine Z.aload_n (n := 31) dX12_guarded_30 rfl rfl ?_
      refine Z.iload_n (n := 32) dX12_guarded_31 rfl rfl ?_
      obtain ⟨z5, ez5, hf⟩ := Option.bind_eq_some_iff.mp hf
      refine Z.callV (n := 35) vX12_49 (ctX12_isAlive ez5) hJ.rm (Nat.le_of_ble_eq_true rfl) rfl rfl (Nat.le_refl _) (Nat.le_refl _) rfl W93 rfl rfl (Nat.le_of_ble_eq_true rfl) rfl dX12_guarded_32 rfl (fun v w hw => ?_)
      obtain ⟨rfl, rfl⟩ := hw
      show Z _ _ _ _ _ _ _ [.int z5.1, .int l2] _
      refine Z.if_eq (tgt := 52) (n := 38) dX12_guarded_35 rfl rfl (fun c6 => ?_) (fun c6 => ?_)
      · rw [if_pos c6] at hf
        refine Z.fg [2] ?_
        exact zX12_guarded_52 hJ ih _ _ _ hf
      · rw [if_neg c6] at hf
        refine Z.aload_n (n := 39) dX12_guarded_38 rfl rfl ?_
        refine Z.iload_n (n := 40) dX12_guarded_39 rfl rfl ?_
        obtain ⟨z7, ez7, hf⟩ := Option.bind_eq_some_iff.mp hf
        refine Z.callV (n := 43) vX12_193 (ctX12_darers ez7) hJ.rm (Nat.le_of_ble_eq_true rfl) rfl rfl (Nat.le_refl _) (Nat.le_refl _) rfl W93 rfl rfl (Nat.le_of_ble_eq_true rfl) rfl dX12_guarded_40 rfl (fun v w hw => ?_)
        obtain ⟨rfl, rfl⟩ := hw
        show Z _ _ _ _ _ _ _ [.int z7.1, .int l2] _
        refine Z.if_ne (tgt := 52) (n := 46) dX12_guarded_43 rfl rfl (fun c8 => ?_) (fun c8 => ?_)
        · rw [if_neg c8] at hf
          refine Z.fg [2] ?_
          exact zX12_guarded_52 hJ ih _ _ _ hf
        · rw [if_pos c8] at hf
          refine Z.iconst (n := 47) (v := 1) dX12_guarded_46 rfl (by decide +kernel) ?_
          refine Z.iload_n (n := 48) dX12_guarded_47 rfl rfl ?_
          refine Z.ishl (n := 49) dX12_guarded_48 rfl ?_
          refine Z.goto (tgt := 53) dX12_guarded_49 rfl ?_
          refine Z.fg [2] ?_
          exact zX12_guarded_53 hJ ih _ _ _ _ hf
def fX12_guarded (l1 : Int32) (h : HT) : Option (Int32 × HT) :=
  Option.bind (fX12_isStanding l1 h) fun z1 =>
  if z1.1 = 0 then (some ((-1), z1.2))
  else (Option.bind (fX12_takes l1 z1.2) fun z3 =>
  fX12_guarded_19 1000 0 0 z3.2)
set_option maxHeartbeats 4000000 in
theorem ctX12_guarded {g : GP} {a : Nat → Nat} {P : PT} {h : HT} {z : Int32 × HT} {l1 : Int32} (hf : fX12_guarded l1 h = some z) : Ct g 11 0 0 mX12_guarded [.ref (a 93), .int l1] (WD g a h P) (PoI g a P z) := by
  refine Ct.of (by decide +kernel) (Nat.le_of_ble_eq_true rfl) fun J hJ => ?_
  show Z g mX12_guarded J 0 0 0 [some (.ref (a 93)), some (.int l1), none, none] [] (WD g a h P)
  unfold fX12_guarded at hf
  refine Z.aload_n (n := 1) dX12_guarded_0 rfl rfl ?_
  refine Z.iload_n (n := 2) dX12_guarded_1 rfl rfl ?_
  obtain ⟨z1, ez1, hf⟩ := Option.bind_eq_some_iff.mp hf
  refine Z.callV (n := 5) vX12_132 (ctX12_isStanding ez1) hJ.rm (Nat.le_of_ble_eq_true rfl) rfl rfl (Nat.le_refl _) (Nat.le_refl _) rfl W93 rfl rfl (Nat.le_of_ble_eq_true rfl) rfl dX12_guarded_2 rfl (fun v w hw => ?_)
  obtain ⟨rfl, rfl⟩ := hw
  show Z _ _ _ _ _ _ _ [.int z1.1] _
  refine Z.if_ne (tgt := 10) (n := 8) dX12_guarded_5 rfl rfl (fun c2 => ?_) (fun c2 => ?_)
  · rw [if_neg c2] at hf
    refine Z.aload_n (n := 11) dX12_guarded_10 rfl rfl ?_
    refine Z.iload_n (n := 12) dX12_guarded_11 rfl rfl ?_
    obtain ⟨z3, ez3, hf⟩ := Option.bind_eq_some_iff.mp hf
    refine Z.callV (n := 15) vX12_170 (ctX12_takes ez3) hJ.rm (Nat.le_of_ble_eq_true rfl) rfl rfl (Nat.le_refl _) (Nat.le_refl _) rfl W93 rfl rfl (Nat.le_of_ble_eq_true rfl) rfl dX12_guarded_12 rfl (fun v w hw => ?_)
    obtain ⟨rfl, rfl⟩ := hw
    show Z _ _ _ _ _ _ _ [] _
    refine Z.iconst (n := 16) (v := 0) dX12_guarded_15 rfl (by decide +kernel) ?_
    refine Z.istore_n (n := 17) dX12_guarded_16 rfl (by decide) rfl ?_
    refine Z.iconst (n := 18) (v := 0) dX12_guarded_17 rfl (by decide +kernel) ?_
    refine Z.istore_n (n := 19) dX12_guarded_18 rfl (by decide) rfl ?_
    refine Z.fg [1] ?_
    exact zX12_guarded_19 hJ _ _ _ _ hf
  · rw [if_pos c2] at hf
    refine Z.iconst (n := 9) (v := -1) dX12_guarded_8 rfl (by decide +kernel) ?_
    have hz := Option.some.inj hf
    subst hz
    exact Z.iret hJ dX12_guarded_9 rfl (Nat.le_refl _) (Nat.le_refl _) ⟨rfl, rfl⟩
def fX12_marry_34 (h : HT) : Option (Int32 × HT) :=
  some ((-1000), h)
set_option maxHeartbeats 4000000 in
theorem zX12_marry_34 {g : GP} {a : Nat → Nat} {P : PT} {J : JT} {z : Int32 × HT} (hJ : JX g 11 0 0 (PoI g a P z) J) (h : HT) (hf : fX12_marry_34 h = some z) : Z g mX12_marry J 0 0 34 [none, none, none, none, none, none, none, none, none, none, none, none] [] (WD g a h P) := by
  unfold fX12_marry_34 at hf
  refine Z.sipush (n := 37) (v := -1000) dX12_marry_34 rfl (by decide +kernel) ?_
  have hz := Option.some.inj hf
  subst hz
  exact Z.iret hJ dX12_marry_37 rfl (Nat.le_refl _) (Nat.le_refl _) ⟨rfl, rfl⟩
def fX12_marry_63 (h : HT) : Option (Int32 × HT) :=
  some ((-1002), h)
set_option maxHeartbeats 4000000 in
theorem zX12_marry_63 {g : GP} {a : Nat → Nat} {P : PT} {J : JT} {z : Int32 × HT} (hJ : JX g 11 0 0 (PoI g a P z) J) (h : HT) (hf : fX12_marry_63 h = some z) : Z g mX12_marry J 0 0 63 [none, none, none, none, none, none, none, none, none, none, none, none] [] (WD g a h P) := by
  unfold fX12_marry_63 at hf
  refine Z.sipush (n := 66) (v := -1002) dX12_marry_63 rfl (by decide +kernel) ?_
  have hz := Option.some.inj hf
  subst hz
  exact Z.iret hJ dX12_marry_66 rfl (Nat.le_refl _) (Nat.le_refl _) ⟨rfl, rfl⟩
def fX12_marry_339 (s0 : Int32) (h : HT) : Option (Int32 × HT) :=
  some (s0, h)
set_option maxHeartbeats 4000000 in
theorem zX12_marry_339 {g : GP} {a : Nat → Nat} {P : PT} {J : JT} {z : Int32 × HT} (hJ : JX g 11 0 0 (PoI g a P z) J) (s0 : Int32) (h : HT) (hf : fX12_marry_339 s0 h = some z) : Z g mX12_marry J 0 0 339 [none, none, none, none, none, none, none, none, none, none, none, none] [.int s0] (WD g a h P) := by
  unfold fX12_marry_339 at hf
  have hz := Option.some.inj hf
  subst hz
  exact Z.iret hJ dX12_marry_339 rfl (Nat.le_refl _) (Nat.le_refl _) ⟨rfl, rfl⟩
def fX12_marry_280 (k208_ : Int32 → Int32 → Int32 → Int32 → Int32 → Int32 → Int32 → Int32 → Int32 → HT → Option (Int32 × HT)) (l2 : Int32) (l3 : Int32) (l4 : Int32) (l5 : Int32) (l6 : Int32) (l7 : Int32) (l8 : Int32) (l10 : Int32) (s0 : Int32) (s1 : Int32) (h : HT) : Option (Int32 × HT) :=
  k208_ l2 l3 l4 l5 l6 l7 l8 (s1 ||| s0) (l10 + 1) h
set_option maxHeartbeats 4000000 in
theorem zX12_marry_280 {g : GP} {a : Nat → Nat} {P : PT} {J : JT} {z : Int32 × HT} {k208_ : Int32 → Int32 → Int32 → Int32 → Int32 → Int32 → Int32 → Int32 → Int32 → HT → Option (Int32 × HT)} (hJ : JX g 11 0 0 (PoI g a P z) J) (hk208 : ∀ (l2 : Int32) (l3 : Int32) (l4 : Int32) (l5 : Int32) (l6 : Int32) (l7 : Int32) (l8 : Int32) (l9 : Int32) (l10 : Int32) (h : HT), k208_ l2 l3 l4 l5 l6 l7 l8 l9 l10 h = some z → Z g mX12_marry J 0 0 208 [some (.ref (a 93)), none, some (.int l2), some (.int l3), some (.int l4), some (.int l5), some (.int l6), some (.int l7), some (.int l8), some (.int l9), some (.int l10), none] [] (WD g a h P)) (l2 : Int32) (l3 : Int32) (l4 : Int32) (l5 : Int32) (l6 : Int32) (l7 : Int32) (l8 : Int32) (l10 : Int32) (s0 : Int32) (s1 : Int32) (h : HT) (hf : fX12_marry_280 k208_ l2 l3 l4 l5 l6 l7 l8 l10 s0 s1 h = some z) : Z g mX12_marry J 0 0 280 [some (.ref (a 93)), none, some (.int l2), some (.int l3), some (.int l4), some (.int l5), some (.int l6), some (.int l7), some (.int l8), none, some (.int l10), none] [.int s0, .int s1] (WD g a h P) := by
  unfold fX12_marry_280 at hf
  refine Z.ior (n := 281) dX12_marry_280 rfl ?_
  refine Z.istore (n := 283) dX12_marry_281 rfl (by decide) rfl ?_
  refine Z.iinc (n := 286) (v := l10 + 1) dX12_marry_283 rfl rfl rfl (by decide) rfl ?_
  refine Z.goto (tgt := 208) dX12_marry_286 rfl ?_
  exact hk208 _ _ _ _ _ _ _ _ _ _ hf
def fX12_marry_279 (k208_ : Int32 → Int32 → Int32 → Int32 → Int32 → Int32 → Int32 → Int32 → Int32 → HT → Option (Int32 × HT)) (l2 : Int32) (l3 : Int32) (l4 : Int32) (l5 : Int32) (l6 : Int32) (l7 : Int32) (l8 : Int32) (l10 : Int32) (s0 : Int32) (h : HT) : Option (Int32 × HT) :=
  fX12_marry_280 k208_ l2 l3 l4 l5 l6 l7 l8 l10 0 s0 h
set_option maxHeartbeats 4000000 in
theorem zX12_marry_279 {g : GP} {a : Nat → Nat} {P : PT} {J : JT} {z : Int32 × HT} {k208_ : Int32 → Int32 → Int32 → Int32 → Int32 → Int32 → Int32 → Int32 → Int32 → HT → Option (Int32 × HT)} (hJ : JX g 11 0 0 (PoI g a P z) J) (hk208 : ∀ (l2 : Int32) (l3 : Int32) (l4 : Int32) (l5 : Int32) (l6 : Int32) (l7 : Int32) (l8 : Int32) (l9 : Int32) (l10 : Int32) (h : HT), k208_ l2 l3 l4 l5 l6 l7 l8 l9 l10 h = some z → Z g mX12_marry J 0 0 208 [some (.ref (a 93)), none, some (.int l2), some (.int l3), some (.int l4), some (.int l5), some (.int l6), some (.int l7), some (.int l8), some (.int l9), some (.int l10), none] [] (WD g a h P)) (l2 : Int32) (l3 : Int32) (l4 : Int32) (l5 : Int32) (l6 : Int32) (l7 : Int32) (l8 : Int32) (l10 : Int32) (s0 : Int32) (h : HT) (hf : fX12_marry_279 k208_ l2 l3 l4 l5 l6 l7 l8 l10 s0 h = some z) : Z g mX12_marry J 0 0 279 [some (.ref (a 93)), none, some (.int l2), some (.int l3), some (.int l4), some (.int l5), some (.int l6), some (.int l7), some (.int l8), none, some (.int l10), none] [.int s0] (WD g a h P) := by
  unfold fX12_marry_279 at hf
  refine Z.iconst (n := 280) (v := 0) dX12_marry_279 rfl (by decide +kernel) ?_
  exact zX12_marry_280 hJ hk208 _ _ _ _ _ _ _ _ _ _ _ hf
def fX12_marry_208 : Nat → Int32 → Int32 → Int32 → Int32 → Int32 → Int32 → Int32 → Int32 → Int32 → HT → Option (Int32 × HT)
  | 0, _, _, _, _, _, _, _, _, _, _ => none
  | n + 1, l2, l3, l4, l5, l6, l7, l8, l9, l10, h =>
  if (h 94 0) ≤ l10 then (Option.bind (ck 490 ((270 : Int32) + l2)) fun j23 =>
  Option.bind (ck 490 ((270 : Int32) + l3)) fun j24 =>
  Option.bind (ck 490 ((290 : Int32) + l3)) fun j25 =>
  if l4 = 0 then (fX12_marry_339 (l8 - l5) (hu (hu (hu h 94 j23 l6) 94 j24 l7) 94 j25 0))
  else (fX12_marry_339 l9 (hu (hu (hu h 94 j23 l6) 94 j24 l7) 94 j25 0)))
  else (Option.bind (fX12_darers l10 h) fun z27 =>
  Option.bind (fX12_count1 z27.1 z27.2) fun z28 =>
  if l10 = l2 then (fX12_marry_279 (fX12_marry_208  n) l2 l3 l4 l5 l6 l7 (l8 + z28.1) l10 l9 z28.2)
  else (if l10 = l3 then (fX12_marry_279 (fX12_marry_208  n) l2 l3 l4 l5 l6 l7 (l8 + z28.1) l10 l9 z28.2)
  else (Option.bind (fX12_isAlive l10 z28.2) fun z31 =>
  if z31.1 = 0 then (fX12_marry_279 (fX12_marry_208  n) l2 l3 l4 l5 l6 l7 (l8 + z28.1) l10 l9 z31.2)
  else (Option.bind (ck 7 l10) fun j33 =>
  if z28.1 ≤ (z31.2 100 j33) then (fX12_marry_279 (fX12_marry_208  n) l2 l3 l4 l5 l6 l7 (l8 + z28.1) l10 l9 z31.2)
  else (fX12_marry_280 (fX12_marry_208  n) l2 l3 l4 l5 l6 l7 (l8 + z28.1) l10 ((1 : Int32) <<< (l10 &&& 31)) l9 z31.2)))))
set_option maxHeartbeats 4000000 in
theorem zX12_marry_208 {g : GP} {a : Nat → Nat} {P : PT} {J : JT} {z : Int32 × HT} (hJ : JX g 11 0 0 (PoI g a P z) J) : ∀ (n : Nat) (l2 : Int32) (l3 : Int32) (l4 : Int32) (l5 : Int32) (l6 : Int32) (l7 : Int32) (l8 : Int32) (l9 : Int32) (l10 : Int32) (h : HT), fX12_marry_208 n l2 l3 l4 l5 l6 l7 l8 l9 l10 h = some z → Z g mX12_marry J 0 0 208 [some (.ref (a 93)), none, some (.int l2), some (.int l3), some (.int l4), some (.int l5), some (.int l6), some (.int l7), some (.int l8), some (.int l9), some (.int l10), none] [] (WD g a h P) := by
  intro n
  induction n with
  | zero =>
    intro _ _ _ _ _ _ _ _ _ _ hf
    cases hf
  | succ n ih =>
    intro l2 l3 l4 l5 l6 l7 l8 l9 l10 h hf
    unfold fX12_marry_208 at hf
    refine Z.iload (n := 210) dX12_marry_208 rfl rfl ?_
    refine Z.aload_n (n := 211) dX12_marry_210 rfl rfl ?_
    refine Z.getf (n := 214) fX12_9 dX12_marry_211 rfl W93 rfl ?_
    refine Z.iconst (n := 215) (v := 0) dX12_marry_214 rfl (by decide +kernel) ?_
    refine Z.iald (j := 0) (n := 216) dX12_marry_215 rfl W94 (by decide +kernel) (by decide) (by decide) ?_
    refine Z.icmp_ge (tgt := 289) (n := 219) dX12_marry_216 rfl rfl (fun c22 => ?_) (fun c22 => ?_)
    · rw [if_pos c22] at hf
      refine Z.aload_n (n := 290) dX12_marry_289 rfl rfl ?_
      refine Z.getf (n := 293) fX12_9 dX12_marry_290 rfl W93 rfl ?_
      refine Z.sipush (n := 296) (v := 270) dX12_marry_293 rfl (by decide +kernel) ?_
      refine Z.iload_n (n := 297) dX12_marry_296 rfl rfl ?_
      refine Z.iadd (n := 298) dX12_marry_297 rfl ?_
      refine Z.iload (n := 300) dX12_marry_298 rfl rfl ?_
      obtain ⟨j23, ej23, hf⟩ := Option.bind_eq_some_iff.mp hf
      obtain ⟨hij23, hlj23⟩ := ck_spec ej23
      refine Z.iast (j := j23) (n := 301) dX12_marry_300 rfl W94 hij23 hlj23 (by decide) W94s ?_
      refine Z.aload_n (n := 302) dX12_marry_301 rfl rfl ?_
      refine Z.getf (n := 305) fX12_9 dX12_marry_302 rfl W93 rfl ?_
      refine Z.sipush (n := 308) (v := 270) dX12_marry_305 rfl (by decide +kernel) ?_
      refine Z.iload_n (n := 309) dX12_marry_308 rfl rfl ?_
      refine Z.iadd (n := 310) dX12_marry_309 rfl ?_
      refine Z.iload (n := 312) dX12_marry_310 rfl rfl ?_
      obtain ⟨j24, ej24, hf⟩ := Option.bind_eq_some_iff.mp hf
      obtain ⟨hij24, hlj24⟩ := ck_spec ej24
      refine Z.iast (j := j24) (n := 313) dX12_marry_312 rfl W94 hij24 hlj24 (by decide) W94s ?_
      refine Z.aload_n (n := 314) dX12_marry_313 rfl rfl ?_
      refine Z.getf (n := 317) fX12_9 dX12_marry_314 rfl W93 rfl ?_
      refine Z.sipush (n := 320) (v := 290) dX12_marry_317 rfl (by decide +kernel) ?_
      refine Z.iload_n (n := 321) dX12_marry_320 rfl rfl ?_
      refine Z.iadd (n := 322) dX12_marry_321 rfl ?_
      refine Z.iconst (n := 323) (v := 0) dX12_marry_322 rfl (by decide +kernel) ?_
      obtain ⟨j25, ej25, hf⟩ := Option.bind_eq_some_iff.mp hf
      obtain ⟨hij25, hlj25⟩ := ck_spec ej25
      refine Z.iast (j := j25) (n := 324) dX12_marry_323 rfl W94 hij25 hlj25 (by decide) W94s ?_
      refine Z.iload (n := 326) dX12_marry_324 rfl rfl ?_
      refine Z.if_ne (tgt := 337) (n := 329) dX12_marry_326 rfl rfl (fun c26 => ?_) (fun c26 => ?_)
      · rw [if_neg c26] at hf
        refine Z.iload (n := 339) dX12_marry_337 rfl rfl ?_
        refine Z.fg [0, 2, 3, 4, 5, 6, 7, 8, 9, 10] ?_
        exact zX12_marry_339 hJ _ _ hf
      · rw [if_pos c26] at hf
        refine Z.iload (n := 331) dX12_marry_329 rfl rfl ?_
        refine Z.iload (n := 333) dX12_marry_331 rfl rfl ?_
        refine Z.isub (n := 334) dX12_marry_333 rfl ?_
        refine Z.goto (tgt := 339) dX12_marry_334 rfl ?_
        refine Z.fg [0, 2, 3, 4, 5, 6, 7, 8, 9, 10] ?_
        exact zX12_marry_339 hJ _ _ hf
    · rw [if_neg c22] at hf
      refine Z.aload_n (n := 220) dX12_marry_219 rfl rfl ?_
      refine Z.iload (n := 222) dX12_marry_220 rfl rfl ?_
      obtain ⟨z27, ez27, hf⟩ := Option.bind_eq_some_iff.mp hf
      refine Z.callV (n := 225) vX12_193 (ctX12_darers ez27) hJ.rm (Nat.le_of_ble_eq_true rfl) rfl rfl (Nat.le_refl _) (Nat.le_refl _) rfl W93 rfl rfl (Nat.le_of_ble_eq_true rfl) rfl dX12_marry_222 rfl (fun v w hw => ?_)
      obtain ⟨rfl, rfl⟩ := hw
      show Z _ _ _ _ _ _ _ [.int z27.1] _
      obtain ⟨z28, ez28, hf⟩ := Option.bind_eq_some_iff.mp hf
      refine Z.callS (n := 228) vX12_232 (ctX12_count1 ez28) hJ.rm (Nat.le_of_ble_eq_true rfl) rfl rfl (Nat.le_refl _) (Nat.le_refl _) rfl (Nat.le_of_ble_eq_true rfl) rfl dX12_marry_225 rfl (fun v w hw => ?_)
      obtain ⟨rfl, rfl⟩ := hw
      show Z _ _ _ _ _ _ _ [.int z28.1] _
      refine Z.istore (n := 230) dX12_marry_228 rfl (by decide) rfl ?_
      refine Z.iload (n := 232) dX12_marry_230 rfl rfl ?_
      refine Z.iload (n := 234) dX12_marry_232 rfl rfl ?_
      refine Z.iadd (n := 235) dX12_marry_234 rfl ?_
      refine Z.istore (n := 237) dX12_marry_235 rfl (by decide) rfl ?_
      refine Z.iload (n := 239) dX12_marry_237 rfl rfl ?_
      refine Z.iload (n := 241) dX12_marry_239 rfl rfl ?_
      refine Z.iload_n (n := 242) dX12_marry_241 rfl rfl ?_
      refine Z.icmp_eq (tgt := 279) (n := 245) dX12_marry_242 rfl rfl (fun c29 => ?_) (fun c29 => ?_)
      · rw [if_pos c29] at hf
        refine Z.fg [9, 11] ?_
        exact zX12_marry_279 hJ ih _ _ _ _ _ _ _ _ _ _ hf
      · rw [if_neg c29] at hf
        refine Z.iload (n := 247) dX12_marry_245 rfl rfl ?_
        refine Z.iload_n (n := 248) dX12_marry_247 rfl rfl ?_
        refine Z.icmp_eq (tgt := 279) (n := 251) dX12_marry_248 rfl rfl (fun c30 => ?_) (fun c30 => ?_)
        · rw [if_pos c30] at hf
          refine Z.fg [9, 11] ?_
          exact zX12_marry_279 hJ ih _ _ _ _ _ _ _ _ _ _ hf
        · rw [if_neg c30] at hf
          refine Z.aload_n (n := 252) dX12_marry_251 rfl rfl ?_
          refine Z.iload (n := 254) dX12_marry_252 rfl rfl ?_
          obtain ⟨z31, ez31, hf⟩ := Option.bind_eq_some_iff.mp hf
          refine Z.callV (n := 257) vX12_49 (ctX12_isAlive ez31) hJ.rm (Nat.le_of_ble_eq_true rfl) rfl rfl (Nat.le_refl _) (Nat.le_refl _) rfl W93 rfl rfl (Nat.le_of_ble_eq_true rfl) rfl dX12_marry_254 rfl (fun v w hw => ?_)
          obtain ⟨rfl, rfl⟩ := hw
          show Z _ _ _ _ _ _ _ [.int z31.1, .int l9] _
          refine Z.if_eq (tgt := 279) (n := 260) dX12_marry_257 rfl rfl (fun c32 => ?_) (fun c32 => ?_)
          · rw [if_pos c32] at hf
            refine Z.fg [9, 11] ?_
            exact zX12_marry_279 hJ ih _ _ _ _ _ _ _ _ _ _ hf
          · rw [if_neg c32] at hf
            refine Z.iload (n := 262) dX12_marry_260 rfl rfl ?_
            refine Z.aload_n (n := 263) dX12_marry_262 rfl rfl ?_
            refine Z.getf (n := 266) fX12_31 dX12_marry_263 rfl W93 rfl ?_
            refine Z.iload (n := 268) dX12_marry_266 rfl rfl ?_
            obtain ⟨j33, ej33, hf⟩ := Option.bind_eq_some_iff.mp hf
            obtain ⟨hij33, hlj33⟩ := ck_spec ej33
            refine Z.iald (j := j33) (n := 269) dX12_marry_268 rfl W100 hij33 hlj33 (by decide) ?_
            refine Z.icmp_le (tgt := 279) (n := 272) dX12_marry_269 rfl rfl (fun c34 => ?_) (fun c34 => ?_)
            · rw [if_pos c34] at hf
              refine Z.fg [9, 11] ?_
              exact zX12_marry_279 hJ ih _ _ _ _ _ _ _ _ _ _ hf
            · rw [if_neg c34] at hf
              refine Z.iconst (n := 273) (v := 1) dX12_marry_272 rfl (by decide +kernel) ?_
              refine Z.iload (n := 275) dX12_marry_273 rfl rfl ?_
              refine Z.ishl (n := 276) dX12_marry_275 rfl ?_
              refine Z.goto (tgt := 280) dX12_marry_276 rfl ?_
              refine Z.fg [9, 11] ?_
              exact zX12_marry_280 hJ ih _ _ _ _ _ _ _ _ _ _ _ hf
def fX12_marry_176 (l2 : Int32) (l3 : Int32) (l4 : Int32) (l5 : Int32) (l6 : Int32) (l7 : Int32) (s0 : Int32) (s1 : Int32) (h : HT) : Option (Int32 × HT) :=
  Option.bind (ck 490 s1) fun j19 =>
  Option.bind (ck 490 ((270 : Int32) + l3)) fun j20 =>
  Option.bind (ck 490 ((290 : Int32) + l3)) fun j21 =>
  fX12_marry_208 1000 l2 l3 l4 l5 l6 l7 0 0 0 (hu (hu (hu h 94 j19 s0) 94 j20 0) 94 j21 1)
set_option maxHeartbeats 4000000 in
theorem zX12_marry_176 {g : GP} {a : Nat → Nat} {P : PT} {J : JT} {z : Int32 × HT} (hJ : JX g 11 0 0 (PoI g a P z) J) (l2 : Int32) (l3 : Int32) (l4 : Int32) (l5 : Int32) (l6 : Int32) (l7 : Int32) (s0 : Int32) (s1 : Int32) (h : HT) (hf : fX12_marry_176 l2 l3 l4 l5 l6 l7 s0 s1 h = some z) : Z g mX12_marry J 0 0 176 [some (.ref (a 93)), none, some (.int l2), some (.int l3), some (.int l4), some (.int l5), some (.int l6), some (.int l7), none, none, none, none] [.int s0, .int s1, .ref (a 94)] (WD g a h P) := by
  unfold fX12_marry_176 at hf
  obtain ⟨j19, ej19, hf⟩ := Option.bind_eq_some_iff.mp hf
  obtain ⟨hij19, hlj19⟩ := ck_spec ej19
  refine Z.iast (j := j19) (n := 177) dX12_marry_176 rfl W94 hij19 hlj19 (by decide) W94s ?_
  refine Z.aload_n (n := 178) dX12_marry_177 rfl rfl ?_
  refine Z.getf (n := 181) fX12_9 dX12_marry_178 rfl W93 rfl ?_
  refine Z.sipush (n := 184) (v := 270) dX12_marry_181 rfl (by decide +kernel) ?_
  refine Z.iload_n (n := 185) dX12_marry_184 rfl rfl ?_
  refine Z.iadd (n := 186) dX12_marry_185 rfl ?_
  refine Z.iconst (n := 187) (v := 0) dX12_marry_186 rfl (by decide +kernel) ?_
  obtain ⟨j20, ej20, hf⟩ := Option.bind_eq_some_iff.mp hf
  obtain ⟨hij20, hlj20⟩ := ck_spec ej20
  refine Z.iast (j := j20) (n := 188) dX12_marry_187 rfl W94 hij20 hlj20 (by decide) W94s ?_
  refine Z.aload_n (n := 189) dX12_marry_188 rfl rfl ?_
  refine Z.getf (n := 192) fX12_9 dX12_marry_189 rfl W93 rfl ?_
  refine Z.sipush (n := 195) (v := 290) dX12_marry_192 rfl (by decide +kernel) ?_
  refine Z.iload_n (n := 196) dX12_marry_195 rfl rfl ?_
  refine Z.iadd (n := 197) dX12_marry_196 rfl ?_
  refine Z.iconst (n := 198) (v := 1) dX12_marry_197 rfl (by decide +kernel) ?_
  obtain ⟨j21, ej21, hf⟩ := Option.bind_eq_some_iff.mp hf
  obtain ⟨hij21, hlj21⟩ := ck_spec ej21
  refine Z.iast (j := j21) (n := 199) dX12_marry_198 rfl W94 hij21 hlj21 (by decide) W94s ?_
  refine Z.iconst (n := 200) (v := 0) dX12_marry_199 rfl (by decide +kernel) ?_
  refine Z.istore (n := 202) dX12_marry_200 rfl (by decide) rfl ?_
  refine Z.iconst (n := 203) (v := 0) dX12_marry_202 rfl (by decide +kernel) ?_
  refine Z.istore (n := 205) dX12_marry_203 rfl (by decide) rfl ?_
  refine Z.iconst (n := 206) (v := 0) dX12_marry_205 rfl (by decide +kernel) ?_
  refine Z.istore (n := 208) dX12_marry_206 rfl (by decide) rfl ?_
  exact zX12_marry_208 hJ _ _ _ _ _ _ _ _ _ _ _ hf
def fX12_marry_78 : Nat → Int32 → Int32 → Int32 → Int32 → Int32 → HT → Option (Int32 × HT)
  | 0, _, _, _, _, _, _ => none
  | n + 1, l2, l3, l4, l5, l6, h =>
  if (h 94 0) ≤ l6 then (Option.bind (ck 490 ((270 : Int32) + l2)) fun j16 =>
  Option.bind (ck 490 ((270 : Int32) + l3)) fun j17 =>
  if ((h 94 j16) + (h 94 j17)) ≤ 99 then (fX12_marry_176 l2 l3 l4 l5 (h 94 j16) (h 94 j17) ((h 94 j16) + (h 94 j17)) ((270 : Int32) + l2) h)
  else (fX12_marry_176 l2 l3 l4 l5 (h 94 j16) (h 94 j17) 99 ((270 : Int32) + l2) h))
  else (Option.bind (fX12_darers l6 h) fun z35 =>
  Option.bind (fX12_count1 z35.1 z35.2) fun z36 =>
  Option.bind (ck 7 l6) fun j37 =>
  Option.bind (ck 7 l6) fun j38 =>
  fX12_marry_78  n l2 l3 l4 (l5 + ((hu z36.2 100 j37 z36.1) 100 j38)) (l6 + 1) (hu z36.2 100 j37 z36.1))
set_option maxHeartbeats 4000000 in
theorem zX12_marry_78 {g : GP} {a : Nat → Nat} {P : PT} {J : JT} {z : Int32 × HT} (hJ : JX g 11 0 0 (PoI g a P z) J) : ∀ (n : Nat) (l2 : Int32) (l3 : Int32) (l4 : Int32) (l5 : Int32) (l6 : Int32) (h : HT), fX12_marry_78 n l2 l3 l4 l5 l6 h = some z → Z g mX12_marry J 0 0 78 [some (.ref (a 93)), none, some (.int l2), some (.int l3), some (.int l4), some (.int l5), some (.int l6), none, none, none, none, none] [] (WD g a h P) := by
  intro n
  induction n with
  | zero =>
    intro _ _ _ _ _ _ hf
    cases hf
  | succ n ih =>
    intro l2 l3 l4 l5 l6 h hf
    unfold fX12_marry_78 at hf
    refine Z.iload (n := 80) dX12_marry_78 rfl rfl ?_
    refine Z.aload_n (n := 81) dX12_marry_80 rfl rfl ?_
    refine Z.getf (n := 84) fX12_9 dX12_marry_81 rfl W93 rfl ?_
    refine Z.iconst (n := 85) (v := 0) dX12_marry_84 rfl (by decide +kernel) ?_
    refine Z.iald (j := 0) (n := 86) dX12_marry_85 rfl W94 (by decide +kernel) (by decide) (by decide) ?_
    refine Z.icmp_ge (tgt := 123) (n := 89) dX12_marry_86 rfl rfl (fun c15 => ?_) (fun c15 => ?_)
    · rw [if_pos c15] at hf
      refine Z.aload_n (n := 124) dX12_marry_123 rfl rfl ?_
      refine Z.getf (n := 127) fX12_9 dX12_marry_124 rfl W93 rfl ?_
      refine Z.sipush (n := 130) (v := 270) dX12_marry_127 rfl (by decide +kernel) ?_
      refine Z.iload_n (n := 131) dX12_marry_130 rfl rfl ?_
      refine Z.iadd (n := 132) dX12_marry_131 rfl ?_
      obtain ⟨j16, ej16, hf⟩ := Option.bind_eq_some_iff.mp hf
      obtain ⟨hij16, hlj16⟩ := ck_spec ej16
      refine Z.iald (j := j16) (n := 133) dX12_marry_132 rfl W94 hij16 hlj16 (by decide) ?_
      refine Z.istore (n := 135) dX12_marry_133 rfl (by decide) rfl ?_
      refine Z.aload_n (n := 136) dX12_marry_135 rfl rfl ?_
      refine Z.getf (n := 139) fX12_9 dX12_marry_136 rfl W93 rfl ?_
      refine Z.sipush (n := 142) (v := 270) dX12_marry_139 rfl (by decide +kernel) ?_
      refine Z.iload_n (n := 143) dX12_marry_142 rfl rfl ?_
      refine Z.iadd (n := 144) dX12_marry_143 rfl ?_
      obtain ⟨j17, ej17, hf⟩ := Option.bind_eq_some_iff.mp hf
      obtain ⟨hij17, hlj17⟩ := ck_spec ej17
      refine Z.iald (j := j17) (n := 145) dX12_marry_144 rfl W94 hij17 hlj17 (by decide) ?_
      refine Z.istore (n := 147) dX12_marry_145 rfl (by decide) rfl ?_
      refine Z.aload_n (n := 148) dX12_marry_147 rfl rfl ?_
      refine Z.getf (n := 151) fX12_9 dX12_marry_148 rfl W93 rfl ?_
      refine Z.sipush (n := 154) (v := 270) dX12_marry_151 rfl (by decide +kernel) ?_
      refine Z.iload_n (n := 155) dX12_marry_154 rfl rfl ?_
      refine Z.iadd (n := 156) dX12_marry_155 rfl ?_
      refine Z.iload (n := 158) dX12_marry_156 rfl rfl ?_
      refine Z.iload (n := 160) dX12_marry_158 rfl rfl ?_
      refine Z.iadd (n := 161) dX12_marry_160 rfl ?_
      refine Z.bipush (n := 163) (v := 99) dX12_marry_161 rfl (by decide +kernel) ?_
      refine Z.icmp_le (tgt := 171) (n := 166) dX12_marry_163 rfl rfl (fun c18 => ?_) (fun c18 => ?_)
      · rw [if_pos c18] at hf
        refine Z.iload (n := 173) dX12_marry_171 rfl rfl ?_
        refine Z.iload (n := 175) dX12_marry_173 rfl rfl ?_
        refine Z.iadd (n := 176) dX12_marry_175 rfl ?_
        exact zX12_marry_176 hJ _ _ _ _ _ _ _ _ _ hf
      · rw [if_neg c18] at hf
        refine Z.bipush (n := 168) (v := 99) dX12_marry_166 rfl (by decide +kernel) ?_
        refine Z.goto (tgt := 176) dX12_marry_168 rfl ?_
        exact zX12_marry_176 hJ _ _ _ _ _ _ _ _ _ hf
    · rw [if_neg c15] at hf
      refine Z.aload_n (n := 90) dX12_marry_89 rfl rfl ?_
      refine Z.getf (n := 93) fX12_31 dX12_marry_90 rfl W93 rfl ?_
      refine Z.iload (n := 95) dX12_marry_93 rfl rfl ?_
      refine Z.aload_n (n := 96) dX12_marry_95 rfl rfl ?_
      refine Z.iload (n := 98) dX12_marry_96 rfl rfl ?_
      obtain ⟨z35, ez35, hf⟩ := Option.bind_eq_some_iff.mp hf
      refine Z.callV (n := 101) vX12_193 (ctX12_darers ez35) hJ.rm (Nat.le_of_ble_eq_true rfl) rfl rfl (Nat.le_refl _) (Nat.le_refl _) rfl W93 rfl rfl (Nat.le_of_ble_eq_true rfl) rfl dX12_marry_98 rfl (fun v w hw => ?_)
      obtain ⟨rfl, rfl⟩ := hw
      show Z _ _ _ _ _ _ _ [.int z35.1, .int l6, .ref (a 100)] _
      obtain ⟨z36, ez36, hf⟩ := Option.bind_eq_some_iff.mp hf
      refine Z.callS (n := 104) vX12_232 (ctX12_count1 ez36) hJ.rm (Nat.le_of_ble_eq_true rfl) rfl rfl (Nat.le_refl _) (Nat.le_refl _) rfl (Nat.le_of_ble_eq_true rfl) rfl dX12_marry_101 rfl (fun v w hw => ?_)
      obtain ⟨rfl, rfl⟩ := hw
      show Z _ _ _ _ _ _ _ [.int z36.1, .int l6, .ref (a 100)] _
      obtain ⟨j37, ej37, hf⟩ := Option.bind_eq_some_iff.mp hf
      obtain ⟨hij37, hlj37⟩ := ck_spec ej37
      refine Z.iast (j := j37) (n := 105) dX12_marry_104 rfl W100 hij37 hlj37 (by decide) W100s ?_
      refine Z.iload (n := 107) dX12_marry_105 rfl rfl ?_
      refine Z.aload_n (n := 108) dX12_marry_107 rfl rfl ?_
      refine Z.getf (n := 111) fX12_31 dX12_marry_108 rfl W93 rfl ?_
      refine Z.iload (n := 113) dX12_marry_111 rfl rfl ?_
      obtain ⟨j38, ej38, hf⟩ := Option.bind_eq_some_iff.mp hf
      obtain ⟨hij38, hlj38⟩ := ck_spec ej38
      refine Z.iald (j := j38) (n := 114) dX12_marry_113 rfl W100 hij38 hlj38 (by decide) ?_
      refine Z.iadd (n := 115) dX12_marry_114 rfl ?_
      refine Z.istore (n := 117) dX12_marry_115 rfl (by decide) rfl ?_
      refine Z.iinc (n := 120) (v := l6 + 1) dX12_marry_117 rfl rfl rfl (by decide) rfl ?_
      refine Z.goto (tgt := 78) dX12_marry_120 rfl ?_
      exact ih _ _ _ _ _ _ hf
def fX12_marry (l1 : Int32) (l2 : Int32) (l3 : Int32) (l4 : Int32) (h : HT) : Option (Int32 × HT) :=
  Option.bind (fX12_isStanding l1 h) fun z1 =>
  if z1.1 = 0 then (fX12_marry_34 z1.2)
  else (Option.bind (fX12_isKing l2 z1.2) fun z3 =>
  if z3.1 = 0 then (fX12_marry_34 z3.2)
  else (Option.bind (fX12_isKing l3 z3.2) fun z5 =>
  if z5.1 = 0 then (fX12_marry_34 z5.2)
  else (Option.bind (fX12_in l4 0 1 z5.2) fun z7 =>
  if z7.1 = 0 then (fX12_marry_34 z7.2)
  else (if l2 = l3 then (some ((-1001), z7.2))
  else (Option.bind (fX12_isAlive l2 z7.2) fun z10 =>
  if z10.1 = 0 then (fX12_marry_63 z10.2)
  else (Option.bind (fX12_isAlive l3 z10.2) fun z12 =>
  if z12.1 = 0 then (fX12_marry_63 z12.2)
  else (Option.bind (fX12_takes l1 z12.2) fun z14 =>
  fX12_marry_78 1000 l2 l3 l4 0 0 z14.2)))))))
set_option maxHeartbeats 4000000 in
theorem ctX12_marry {g : GP} {a : Nat → Nat} {P : PT} {h : HT} {z : Int32 × HT} {l1 : Int32} {l2 : Int32} {l3 : Int32} {l4 : Int32} (hf : fX12_marry l1 l2 l3 l4 h = some z) : Ct g 11 0 0 mX12_marry [.ref (a 93), .int l1, .int l2, .int l3, .int l4] (WD g a h P) (PoI g a P z) := by
  refine Ct.of (by decide +kernel) (Nat.le_of_ble_eq_true rfl) fun J hJ => ?_
  show Z g mX12_marry J 0 0 0 [some (.ref (a 93)), some (.int l1), some (.int l2), some (.int l3), some (.int l4), none, none, none, none, none, none, none] [] (WD g a h P)
  unfold fX12_marry at hf
  refine Z.aload_n (n := 1) dX12_marry_0 rfl rfl ?_
  refine Z.iload_n (n := 2) dX12_marry_1 rfl rfl ?_
  obtain ⟨z1, ez1, hf⟩ := Option.bind_eq_some_iff.mp hf
  refine Z.callV (n := 5) vX12_132 (ctX12_isStanding ez1) hJ.rm (Nat.le_of_ble_eq_true rfl) rfl rfl (Nat.le_refl _) (Nat.le_refl _) rfl W93 rfl rfl (Nat.le_of_ble_eq_true rfl) rfl dX12_marry_2 rfl (fun v w hw => ?_)
  obtain ⟨rfl, rfl⟩ := hw
  show Z _ _ _ _ _ _ _ [.int z1.1] _
  refine Z.if_eq (tgt := 34) (n := 8) dX12_marry_5 rfl rfl (fun c2 => ?_) (fun c2 => ?_)
  · rw [if_pos c2] at hf
    refine Z.fg [0, 1, 2, 3, 4] ?_
    exact zX12_marry_34 hJ _ hf
  · rw [if_neg c2] at hf
    refine Z.aload_n (n := 9) dX12_marry_8 rfl rfl ?_
    refine Z.iload_n (n := 10) dX12_marry_9 rfl rfl ?_
    obtain ⟨z3, ez3, hf⟩ := Option.bind_eq_some_iff.mp hf
    refine Z.callV (n := 13) vX12_45 (ctX12_isKing ez3) hJ.rm (Nat.le_of_ble_eq_true rfl) rfl rfl (Nat.le_refl _) (Nat.le_refl _) rfl W93 rfl rfl (Nat.le_of_ble_eq_true rfl) rfl dX12_marry_10 rfl (fun v w hw => ?_)
    obtain ⟨rfl, rfl⟩ := hw
    show Z _ _ _ _ _ _ _ [.int z3.1] _
    refine Z.if_eq (tgt := 34) (n := 16) dX12_marry_13 rfl rfl (fun c4 => ?_) (fun c4 => ?_)
    · rw [if_pos c4] at hf
      refine Z.fg [0, 1, 2, 3, 4] ?_
      exact zX12_marry_34 hJ _ hf
    · rw [if_neg c4] at hf
      refine Z.aload_n (n := 17) dX12_marry_16 rfl rfl ?_
      refine Z.iload_n (n := 18) dX12_marry_17 rfl rfl ?_
      obtain ⟨z5, ez5, hf⟩ := Option.bind_eq_some_iff.mp hf
      refine Z.callV (n := 21) vX12_45 (ctX12_isKing ez5) hJ.rm (Nat.le_of_ble_eq_true rfl) rfl rfl (Nat.le_refl _) (Nat.le_refl _) rfl W93 rfl rfl (Nat.le_of_ble_eq_true rfl) rfl dX12_marry_18 rfl (fun v w hw => ?_)
      obtain ⟨rfl, rfl⟩ := hw
      show Z _ _ _ _ _ _ _ [.int z5.1] _
      refine Z.if_eq (tgt := 34) (n := 24) dX12_marry_21 rfl rfl (fun c6 => ?_) (fun c6 => ?_)
      · rw [if_pos c6] at hf
        refine Z.fg [0, 1, 2, 3, 4] ?_
        exact zX12_marry_34 hJ _ hf
      · rw [if_neg c6] at hf
        refine Z.iload (n := 26) dX12_marry_24 rfl rfl ?_
        refine Z.iconst (n := 27) (v := 0) dX12_marry_26 rfl (by decide +kernel) ?_
        refine Z.iconst (n := 28) (v := 1) dX12_marry_27 rfl (by decide +kernel) ?_
        obtain ⟨z7, ez7, hf⟩ := Option.bind_eq_some_iff.mp hf
        refine Z.callS (n := 31) vX12_41 (ctX12_in ez7) hJ.rm (Nat.le_of_ble_eq_true rfl) rfl rfl (Nat.le_refl _) (Nat.le_refl _) rfl (Nat.le_of_ble_eq_true rfl) rfl dX12_marry_28 rfl (fun v w hw => ?_)
        obtain ⟨rfl, rfl⟩ := hw
        show Z _ _ _ _ _ _ _ [.int z7.1] _
        refine Z.if_ne (tgt := 38) (n := 34) dX12_marry_31 rfl rfl (fun c8 => ?_) (fun c8 => ?_)
        · rw [if_neg c8] at hf
          refine Z.iload_n (n := 39) dX12_marry_38 rfl rfl ?_
          refine Z.iload_n (n := 40) dX12_marry_39 rfl rfl ?_
          refine Z.icmp_ne (tgt := 47) (n := 43) dX12_marry_40 rfl rfl (fun c9 => ?_) (fun c9 => ?_)
          · rw [if_neg c9] at hf
            refine Z.aload_n (n := 48) dX12_marry_47 rfl rfl ?_
            refine Z.iload_n (n := 49) dX12_marry_48 rfl rfl ?_
            obtain ⟨z10, ez10, hf⟩ := Option.bind_eq_some_iff.mp hf
            refine Z.callV (n := 52) vX12_49 (ctX12_isAlive ez10) hJ.rm (Nat.le_of_ble_eq_true rfl) rfl rfl (Nat.le_refl _) (Nat.le_refl _) rfl W93 rfl rfl (Nat.le_of_ble_eq_true rfl) rfl dX12_marry_49 rfl (fun v w hw => ?_)
            obtain ⟨rfl, rfl⟩ := hw
            show Z _ _ _ _ _ _ _ [.int z10.1] _
            refine Z.if_eq (tgt := 63) (n := 55) dX12_marry_52 rfl rfl (fun c11 => ?_) (fun c11 => ?_)
            · rw [if_pos c11] at hf
              refine Z.fg [0, 1, 2, 3, 4] ?_
              exact zX12_marry_63 hJ _ hf
            · rw [if_neg c11] at hf
              refine Z.aload_n (n := 56) dX12_marry_55 rfl rfl ?_
              refine Z.iload_n (n := 57) dX12_marry_56 rfl rfl ?_
              obtain ⟨z12, ez12, hf⟩ := Option.bind_eq_some_iff.mp hf
              refine Z.callV (n := 60) vX12_49 (ctX12_isAlive ez12) hJ.rm (Nat.le_of_ble_eq_true rfl) rfl rfl (Nat.le_refl _) (Nat.le_refl _) rfl W93 rfl rfl (Nat.le_of_ble_eq_true rfl) rfl dX12_marry_57 rfl (fun v w hw => ?_)
              obtain ⟨rfl, rfl⟩ := hw
              show Z _ _ _ _ _ _ _ [.int z12.1] _
              refine Z.if_ne (tgt := 67) (n := 63) dX12_marry_60 rfl rfl (fun c13 => ?_) (fun c13 => ?_)
              · rw [if_neg c13] at hf
                refine Z.aload_n (n := 68) dX12_marry_67 rfl rfl ?_
                refine Z.iload_n (n := 69) dX12_marry_68 rfl rfl ?_
                obtain ⟨z14, ez14, hf⟩ := Option.bind_eq_some_iff.mp hf
                refine Z.callV (n := 72) vX12_170 (ctX12_takes ez14) hJ.rm (Nat.le_of_ble_eq_true rfl) rfl rfl (Nat.le_refl _) (Nat.le_refl _) rfl W93 rfl rfl (Nat.le_of_ble_eq_true rfl) rfl dX12_marry_69 rfl (fun v w hw => ?_)
                obtain ⟨rfl, rfl⟩ := hw
                show Z _ _ _ _ _ _ _ [] _
                refine Z.iconst (n := 73) (v := 0) dX12_marry_72 rfl (by decide +kernel) ?_
                refine Z.istore (n := 75) dX12_marry_73 rfl (by decide) rfl ?_
                refine Z.iconst (n := 76) (v := 0) dX12_marry_75 rfl (by decide +kernel) ?_
                refine Z.istore (n := 78) dX12_marry_76 rfl (by decide) rfl ?_
                refine Z.fg [1] ?_
                exact zX12_marry_78 hJ _ _ _ _ _ _ _ hf
              · rw [if_pos c13] at hf
                refine Z.fg [0, 1, 2, 3, 4] ?_
                exact zX12_marry_63 hJ _ hf
          · rw [if_pos c9] at hf
            refine Z.sipush (n := 46) (v := -1001) dX12_marry_43 rfl (by decide +kernel) ?_
            have hz := Option.some.inj hf
            subst hz
            exact Z.iret hJ dX12_marry_46 rfl (Nat.le_refl _) (Nat.le_refl _) ⟨rfl, rfl⟩
        · rw [if_pos c8] at hf
          refine Z.fg [0, 1, 2, 3, 4] ?_
          exact zX12_marry_34 hJ _ hf
def fX12_isUnder_34 (s0 : Int32) (h : HT) : Option (Int32 × HT) :=
  Option.bind (cb s0) fun u2 =>
  some (s0, h)
set_option maxHeartbeats 4000000 in
theorem zX12_isUnder_34 {g : GP} {a : Nat → Nat} {P : PT} {J : JT} {z : Int32 × HT} (hJ : JX g 1 0 0 (PoI g a P z) J) (s0 : Int32) (h : HT) (hf : fX12_isUnder_34 s0 h = some z) : Z g mX12_isUnder J 0 0 34 [none, none] [.int s0] (WD g a h P) := by
  unfold fX12_isUnder_34 at hf
  obtain ⟨u2, eu2, hf⟩ := Option.bind_eq_some_iff.mp hf
  have hz := Option.some.inj hf
  subst hz
  exact Z.zret hJ dX12_isUnder_34 rfl (cb_nar eu2) (Nat.le_refl _) (Nat.le_refl _) ⟨rfl, rfl⟩
def fX12_isUnder_29 (h : HT) : Option (Int32 × HT) :=
  fX12_isUnder_34 1 h
set_option maxHeartbeats 4000000 in
theorem zX12_isUnder_29 {g : GP} {a : Nat → Nat} {P : PT} {J : JT} {z : Int32 × HT} (hJ : JX g 1 0 0 (PoI g a P z) J) (h : HT) (hf : fX12_isUnder_29 h = some z) : Z g mX12_isUnder J 0 0 29 [none, none] [] (WD g a h P) := by
  unfold fX12_isUnder_29 at hf
  refine Z.iconst (n := 30) (v := 1) dX12_isUnder_29 rfl (by decide +kernel) ?_
  refine Z.goto (tgt := 34) dX12_isUnder_30 rfl ?_
  exact zX12_isUnder_34 hJ _ _ hf
def fX12_isUnder_33 (h : HT) : Option (Int32 × HT) :=
  fX12_isUnder_34 0 h
set_option maxHeartbeats 4000000 in
theorem zX12_isUnder_33 {g : GP} {a : Nat → Nat} {P : PT} {J : JT} {z : Int32 × HT} (hJ : JX g 1 0 0 (PoI g a P z) J) (h : HT) (hf : fX12_isUnder_33 h = some z) : Z g mX12_isUnder J 0 0 33 [none, none] [] (WD g a h P) := by
  unfold fX12_isUnder_33 at hf
  refine Z.iconst (n := 34) (v := 0) dX12_isUnder_33 rfl (by decide +kernel) ?_
  exact zX12_isUnder_34 hJ _ _ hf
def fX12_isUnder_19 (l0 : Int32) (l1 : Int32) (h : HT) : Option (Int32 × HT) :=
  if l1 = 3 then (if l0 ≤ 4 then (fX12_isUnder_33 h)
  else (fX12_isUnder_29 h))
  else (fX12_isUnder_33 h)
set_option maxHeartbeats 4000000 in
theorem zX12_isUnder_19 {g : GP} {a : Nat → Nat} {P : PT} {J : JT} {z : Int32 × HT} (hJ : JX g 1 0 0 (PoI g a P z) J) (l0 : Int32) (l1 : Int32) (h : HT) (hf : fX12_isUnder_19 l0 l1 h = some z) : Z g mX12_isUnder J 0 0 19 [some (.int l0), some (.int l1)] [] (WD g a h P) := by
  unfold fX12_isUnder_19 at hf
  refine Z.iload_n (n := 20) dX12_isUnder_19 rfl rfl ?_
  refine Z.iconst (n := 21) (v := 3) dX12_isUnder_20 rfl (by decide +kernel) ?_
  refine Z.icmp_ne (tgt := 33) (n := 24) dX12_isUnder_21 rfl rfl (fun c5 => ?_) (fun c5 => ?_)
  · rw [if_neg c5] at hf
    refine Z.fg [0, 1] ?_
    exact zX12_isUnder_33 hJ _ hf
  · rw [if_pos c5] at hf
    refine Z.iload_n (n := 25) dX12_isUnder_24 rfl rfl ?_
    refine Z.iconst (n := 26) (v := 4) dX12_isUnder_25 rfl (by decide +kernel) ?_
    refine Z.icmp_le (tgt := 33) (n := 29) dX12_isUnder_26 rfl rfl (fun c6 => ?_) (fun c6 => ?_)
    · rw [if_pos c6] at hf
      refine Z.fg [0, 1] ?_
      exact zX12_isUnder_33 hJ _ hf
    · rw [if_neg c6] at hf
      refine Z.fg [0, 1] ?_
      exact zX12_isUnder_29 hJ _ hf
def fX12_isUnder (l0 : Int32) (l1 : Int32) (h : HT) : Option (Int32 × HT) :=
  if l1 = 0 then (fX12_isUnder_29 h)
  else (if l1 = l0 then (fX12_isUnder_29 h)
  else (if l1 = 2 then (if l0 = 4 then (fX12_isUnder_29 h)
  else (fX12_isUnder_19 l0 l1 h))
  else (fX12_isUnder_19 l0 l1 h)))
set_option maxHeartbeats 4000000 in
theorem ctX12_isUnder {g : GP} {a : Nat → Nat} {P : PT} {h : HT} {z : Int32 × HT} {l0 : Int32} {l1 : Int32} (hf : fX12_isUnder l0 l1 h = some z) : Ct g 1 0 0 mX12_isUnder [.int l0, .int l1] (WD g a h P) (PoI g a P z) := by
  refine Ct.of (by decide +kernel) (Nat.le_of_ble_eq_true rfl) fun J hJ => ?_
  show Z g mX12_isUnder J 0 0 0 [some (.int l0), some (.int l1)] [] (WD g a h P)
  unfold fX12_isUnder at hf
  refine Z.iload_n (n := 1) dX12_isUnder_0 rfl rfl ?_
  refine Z.if_eq (tgt := 29) (n := 4) dX12_isUnder_1 rfl rfl (fun c1 => ?_) (fun c1 => ?_)
  · rw [if_pos c1] at hf
    refine Z.fg [0, 1] ?_
    exact zX12_isUnder_29 hJ _ hf
  · rw [if_neg c1] at hf
    refine Z.iload_n (n := 5) dX12_isUnder_4 rfl rfl ?_
    refine Z.iload_n (n := 6) dX12_isUnder_5 rfl rfl ?_
    refine Z.icmp_eq (tgt := 29) (n := 9) dX12_isUnder_6 rfl rfl (fun c3 => ?_) (fun c3 => ?_)
    · rw [if_pos c3] at hf
      refine Z.fg [0, 1] ?_
      exact zX12_isUnder_29 hJ _ hf
    · rw [if_neg c3] at hf
      refine Z.iload_n (n := 10) dX12_isUnder_9 rfl rfl ?_
      refine Z.iconst (n := 11) (v := 2) dX12_isUnder_10 rfl (by decide +kernel) ?_
      refine Z.icmp_ne (tgt := 19) (n := 14) dX12_isUnder_11 rfl rfl (fun c4 => ?_) (fun c4 => ?_)
      · rw [if_neg c4] at hf
        exact zX12_isUnder_19 hJ _ _ _ hf
      · rw [if_pos c4] at hf
        refine Z.iload_n (n := 15) dX12_isUnder_14 rfl rfl ?_
        refine Z.iconst (n := 16) (v := 4) dX12_isUnder_15 rfl (by decide +kernel) ?_
        refine Z.icmp_eq (tgt := 29) (n := 19) dX12_isUnder_16 rfl rfl (fun c7 => ?_) (fun c7 => ?_)
        · rw [if_pos c7] at hf
          refine Z.fg [0, 1] ?_
          exact zX12_isUnder_29 hJ _ hf
        · rw [if_neg c7] at hf
          exact zX12_isUnder_19 hJ _ _ _ hf
def fX12_runs_19 (h : HT) : Option (Int32 × HT) :=
  some (0, hu h 93 28 ((h 93 28) + (1 : Int32)))
set_option maxHeartbeats 4000000 in
theorem zX12_runs_19 {g : GP} {a : Nat → Nat} {P : PT} {J : JT} {z : Int32 × HT} (hJ : JX g 1 0 0 (PoV g a P z) J) (h : HT) (hf : fX12_runs_19 h = some z) : Z g mX12_runs J 0 0 19 [some (.ref (a 93)), none] [] (WD g a h P) := by
  unfold fX12_runs_19 at hf
  refine Z.aload_n (n := 20) dX12_runs_19 rfl rfl ?_
  refine Z.dup (n := 21) dX12_runs_20 rfl rfl ?_
  refine Z.getf (n := 24) fX12_250 dX12_runs_21 rfl W93 rfl ?_
  refine Z.iconst (n := 25) (v := 1) dX12_runs_24 rfl (by decide +kernel) ?_
  refine Z.iadd (n := 26) dX12_runs_25 rfl ?_
  refine Z.putf (n := 29) pX12_250 dX12_runs_26 rfl W93 (Nat.le_of_ble_eq_true rfl) rfl rfl W93s_28 ?_
  have hz := Option.some.inj hf
  subst hz
  exact Z.vret hJ dX12_runs_29 rfl (Nat.le_refl _) (Nat.le_refl _) ⟨rfl, rfl⟩
def fX12_runs (l1 : Int32) (h : HT) : Option (Int32 × HT) :=
  if 20 ≤ (h 93 28) then (fX12_runs_19 h)
  else (Option.bind (ck 20 (h 93 28)) fun j2 =>
  fX12_runs_19 (hu h 101 j2 l1))
set_option maxHeartbeats 4000000 in
theorem ctX12_runs {g : GP} {a : Nat → Nat} {P : PT} {h : HT} {z : Int32 × HT} {l1 : Int32} (hf : fX12_runs l1 h = some z) : Ct g 1 0 0 mX12_runs [.ref (a 93), .int l1] (WD g a h P) (PoV g a P z) := by
  refine Ct.of (by decide +kernel) (Nat.le_of_ble_eq_true rfl) fun J hJ => ?_
  show Z g mX12_runs J 0 0 0 [some (.ref (a 93)), some (.int l1)] [] (WD g a h P)
  unfold fX12_runs at hf
  refine Z.aload_n (n := 1) dX12_runs_0 rfl rfl ?_
  refine Z.getf (n := 4) fX12_250 dX12_runs_1 rfl W93 rfl ?_
  refine Z.bipush (n := 6) (v := 20) dX12_runs_4 rfl (by decide +kernel) ?_
  refine Z.icmp_ge (tgt := 19) (n := 9) dX12_runs_6 rfl rfl (fun c1 => ?_) (fun c1 => ?_)
  · rw [if_pos c1] at hf
    refine Z.fg [1] ?_
    exact zX12_runs_19 hJ _ hf
  · rw [if_neg c1] at hf
    refine Z.aload_n (n := 10) dX12_runs_9 rfl rfl ?_
    refine Z.getf (n := 13) fX12_34 dX12_runs_10 rfl W93 rfl ?_
    refine Z.aload_n (n := 14) dX12_runs_13 rfl rfl ?_
    refine Z.getf (n := 17) fX12_250 dX12_runs_14 rfl W93 rfl ?_
    refine Z.iload_n (n := 18) dX12_runs_17 rfl rfl ?_
    obtain ⟨j2, ej2, hf⟩ := Option.bind_eq_some_iff.mp hf
    obtain ⟨hij2, hlj2⟩ := ck_spec ej2
    refine Z.iast (j := j2) (n := 19) dX12_runs_18 rfl W101 hij2 hlj2 (by decide) W101s ?_
    refine Z.fg [1] ?_
    exact zX12_runs_19 hJ _ hf
def fX12_plainComes (l1 : Int32) (h : HT) : Option (Int32 × HT) :=
  Option.bind (fX12_runs 1 h) fun z1 =>
  some (l1 + (z1.2 93 30), z1.2)
set_option maxHeartbeats 4000000 in
theorem ctX12_plainComes {g : GP} {a : Nat → Nat} {P : PT} {h : HT} {z : Int32 × HT} {l1 : Int32} (hf : fX12_plainComes l1 h = some z) : Ct g 2 0 0 mX12_plainComes [.ref (a 93), .int l1] (WD g a h P) (PoI g a P z) := by
  refine Ct.of (by decide +kernel) (Nat.le_of_ble_eq_true rfl) fun J hJ => ?_
  show Z g mX12_plainComes J 0 0 0 [some (.ref (a 93)), some (.int l1)] [] (WD g a h P)
  unfold fX12_plainComes at hf
  refine Z.aload_n (n := 1) dX12_plainComes_0 rfl rfl ?_
  refine Z.iconst (n := 2) (v := 1) dX12_plainComes_1 rfl (by decide +kernel) ?_
  obtain ⟨z1, ez1, hf⟩ := Option.bind_eq_some_iff.mp hf
  refine Z.callV (n := 5) vX12_253 (ctX12_runs ez1) hJ.rm (Nat.le_of_ble_eq_true rfl) rfl rfl (Nat.le_refl _) (Nat.le_refl _) rfl W93 rfl rfl (Nat.le_of_ble_eq_true rfl) rfl dX12_plainComes_2 rfl (fun v w hw => ?_)
  obtain ⟨rfl, rfl⟩ := hw
  show Z _ _ _ _ _ _ _ [] _
  refine Z.iload_n (n := 6) dX12_plainComes_5 rfl rfl ?_
  refine Z.aload_n (n := 7) dX12_plainComes_6 rfl rfl ?_
  refine Z.getf (n := 10) fX12_256 dX12_plainComes_7 rfl W93 rfl ?_
  refine Z.iadd (n := 11) dX12_plainComes_10 rfl ?_
  have hz := Option.some.inj hf
  subst hz
  exact Z.iret hJ dX12_plainComes_11 rfl (Nat.le_refl _) (Nat.le_refl _) ⟨rfl, rfl⟩
def fX12_comesActs (l1 : Int32) (h : HT) : Option (Int32 × HT) :=
  if (h 93 29) = 5 then (Option.bind (fX12_runs 51 h) fun z7 =>
  Option.bind (fX12_plainComes l1 z7.2) fun z8 =>
  some (z8.1 ^^^ (z8.2 93 30), z8.2))
  else (Option.bind (fX12_isUnder (h 93 29) 2 h) fun z2 =>
  if z2.1 = 0 then (Option.bind (fX12_plainComes l1 z2.2) fun z4 =>
  some (z4.1, z4.2))
  else (Option.bind (fX12_runs 21 z2.2) fun z5 =>
  Option.bind (fX12_plainComes l1 z5.2) fun z6 =>
  some (-z6.1, z6.2)))
set_option maxHeartbeats 4000000 in
theorem ctX12_comesActs {g : GP} {a : Nat → Nat} {P : PT} {h : HT} {z : Int32 × HT} {l1 : Int32} (hf : fX12_comesActs l1 h = some z) : Ct g 3 0 0 mX12_comesActs [.ref (a 93), .int l1] (WD g a h P) (PoI g a P z) := by
  refine Ct.of (by decide +kernel) (Nat.le_of_ble_eq_true rfl) fun J hJ => ?_
  show Z g mX12_comesActs J 0 0 0 [some (.ref (a 93)), some (.int l1)] [] (WD g a h P)
  unfold fX12_comesActs at hf
  refine Z.aload_n (n := 1) dX12_comesActs_0 rfl rfl ?_
  refine Z.getf (n := 4) fX12_259 dX12_comesActs_1 rfl W93 rfl ?_
  refine Z.iconst (n := 5) (v := 5) dX12_comesActs_4 rfl (by decide +kernel) ?_
  refine Z.icmp_ne (tgt := 25) (n := 8) dX12_comesActs_5 rfl rfl (fun c1 => ?_) (fun c1 => ?_)
  · rw [if_neg c1] at hf
    refine Z.aload_n (n := 26) dX12_comesActs_25 rfl rfl ?_
    refine Z.getf (n := 29) fX12_259 dX12_comesActs_26 rfl W93 rfl ?_
    refine Z.iconst (n := 30) (v := 2) dX12_comesActs_29 rfl (by decide +kernel) ?_
    obtain ⟨z2, ez2, hf⟩ := Option.bind_eq_some_iff.mp hf
    refine Z.callS (n := 33) vX12_265 (ctX12_isUnder ez2) hJ.rm (Nat.le_of_ble_eq_true rfl) rfl rfl (Nat.le_refl _) (Nat.le_refl _) rfl (Nat.le_of_ble_eq_true rfl) rfl dX12_comesActs_30 rfl (fun v w hw => ?_)
    obtain ⟨rfl, rfl⟩ := hw
    show Z _ _ _ _ _ _ _ [.int z2.1] _
    refine Z.if_eq (tgt := 49) (n := 36) dX12_comesActs_33 rfl rfl (fun c3 => ?_) (fun c3 => ?_)
    · rw [if_pos c3] at hf
      refine Z.aload_n (n := 50) dX12_comesActs_49 rfl rfl ?_
      refine Z.iload_n (n := 51) dX12_comesActs_50 rfl rfl ?_
      obtain ⟨z4, ez4, hf⟩ := Option.bind_eq_some_iff.mp hf
      refine Z.callV (n := 54) vX12_262 (ctX12_plainComes ez4) hJ.rm (Nat.le_of_ble_eq_true rfl) rfl rfl (Nat.le_refl _) (Nat.le_refl _) rfl W93 rfl rfl (Nat.le_of_ble_eq_true rfl) rfl dX12_comesActs_51 rfl (fun v w hw => ?_)
      obtain ⟨rfl, rfl⟩ := hw
      show Z _ _ _ _ _ _ _ [.int z4.1] _
      have hz := Option.some.inj hf
      subst hz
      exact Z.iret hJ dX12_comesActs_54 rfl (Nat.le_refl _) (Nat.le_refl _) ⟨rfl, rfl⟩
    · rw [if_neg c3] at hf
      refine Z.aload_n (n := 37) dX12_comesActs_36 rfl rfl ?_
      refine Z.bipush (n := 39) (v := 21) dX12_comesActs_37 rfl (by decide +kernel) ?_
      obtain ⟨z5, ez5, hf⟩ := Option.bind_eq_some_iff.mp hf
      refine Z.callV (n := 42) vX12_253 (ctX12_runs ez5) hJ.rm (Nat.le_of_ble_eq_true rfl) rfl rfl (Nat.le_refl _) (Nat.le_refl _) rfl W93 rfl rfl (Nat.le_of_ble_eq_true rfl) rfl dX12_comesActs_39 rfl (fun v w hw => ?_)
      obtain ⟨rfl, rfl⟩ := hw
      show Z _ _ _ _ _ _ _ [] _
      refine Z.aload_n (n := 43) dX12_comesActs_42 rfl rfl ?_
      refine Z.iload_n (n := 44) dX12_comesActs_43 rfl rfl ?_
      obtain ⟨z6, ez6, hf⟩ := Option.bind_eq_some_iff.mp hf
      refine Z.callV (n := 47) vX12_262 (ctX12_plainComes ez6) hJ.rm (Nat.le_of_ble_eq_true rfl) rfl rfl (Nat.le_refl _) (Nat.le_refl _) rfl W93 rfl rfl (Nat.le_of_ble_eq_true rfl) rfl dX12_comesActs_44 rfl (fun v w hw => ?_)
      obtain ⟨rfl, rfl⟩ := hw
      show Z _ _ _ _ _ _ _ [.int z6.1] _
      refine Z.ineg (n := 48) dX12_comesActs_47 rfl ?_
      have hz := Option.some.inj hf
      subst hz
      exact Z.iret hJ dX12_comesActs_48 rfl (Nat.le_refl _) (Nat.le_refl _) ⟨rfl, rfl⟩
  · rw [if_pos c1] at hf
    refine Z.aload_n (n := 9) dX12_comesActs_8 rfl rfl ?_
    refine Z.bipush (n := 11) (v := 51) dX12_comesActs_9 rfl (by decide +kernel) ?_
    obtain ⟨z7, ez7, hf⟩ := Option.bind_eq_some_iff.mp hf
    refine Z.callV (n := 14) vX12_253 (ctX12_runs ez7) hJ.rm (Nat.le_of_ble_eq_true rfl) rfl rfl (Nat.le_refl _) (Nat.le_refl _) rfl W93 rfl rfl (Nat.le_of_ble_eq_true rfl) rfl dX12_comesActs_11 rfl (fun v w hw => ?_)
    obtain ⟨rfl, rfl⟩ := hw
    show Z _ _ _ _ _ _ _ [] _
    refine Z.aload_n (n := 15) dX12_comesActs_14 rfl rfl ?_
    refine Z.iload_n (n := 16) dX12_comesActs_15 rfl rfl ?_
    obtain ⟨z8, ez8, hf⟩ := Option.bind_eq_some_iff.mp hf
    refine Z.callV (n := 19) vX12_262 (ctX12_plainComes ez8) hJ.rm (Nat.le_of_ble_eq_true rfl) rfl rfl (Nat.le_refl _) (Nat.le_refl _) rfl W93 rfl rfl (Nat.le_of_ble_eq_true rfl) rfl dX12_comesActs_16 rfl (fun v w hw => ?_)
    obtain ⟨rfl, rfl⟩ := hw
    show Z _ _ _ _ _ _ _ [.int z8.1] _
    refine Z.aload_n (n := 20) dX12_comesActs_19 rfl rfl ?_
    refine Z.getf (n := 23) fX12_256 dX12_comesActs_20 rfl W93 rfl ?_
    refine Z.ixor (n := 24) dX12_comesActs_23 rfl ?_
    have hz := Option.some.inj hf
    subst hz
    exact Z.iret hJ dX12_comesActs_24 rfl (Nat.le_refl _) (Nat.le_refl _) ⟨rfl, rfl⟩
def fX12_plainDares (l1 : Int32) (h : HT) : Option (Int32 × HT) :=
  Option.bind (fX12_runs 2 h) fun z1 =>
  Option.bind (fX12_comesActs l1 z1.2) fun z2 =>
  some (z2.1 - (z2.2 93 31), z2.2)
set_option maxHeartbeats 4000000 in
theorem ctX12_plainDares {g : GP} {a : Nat → Nat} {P : PT} {h : HT} {z : Int32 × HT} {l1 : Int32} (hf : fX12_plainDares l1 h = some z) : Ct g 4 0 0 mX12_plainDares [.ref (a 93), .int l1] (WD g a h P) (PoI g a P z) := by
  refine Ct.of (by decide +kernel) (Nat.le_of_ble_eq_true rfl) fun J hJ => ?_
  show Z g mX12_plainDares J 0 0 0 [some (.ref (a 93)), some (.int l1)] [] (WD g a h P)
  unfold fX12_plainDares at hf
  refine Z.aload_n (n := 1) dX12_plainDares_0 rfl rfl ?_
  refine Z.iconst (n := 2) (v := 2) dX12_plainDares_1 rfl (by decide +kernel) ?_
  obtain ⟨z1, ez1, hf⟩ := Option.bind_eq_some_iff.mp hf
  refine Z.callV (n := 5) vX12_253 (ctX12_runs ez1) hJ.rm (Nat.le_of_ble_eq_true rfl) rfl rfl (Nat.le_refl _) (Nat.le_refl _) rfl W93 rfl rfl (Nat.le_of_ble_eq_true rfl) rfl dX12_plainDares_2 rfl (fun v w hw => ?_)
  obtain ⟨rfl, rfl⟩ := hw
  show Z _ _ _ _ _ _ _ [] _
  refine Z.aload_n (n := 6) dX12_plainDares_5 rfl rfl ?_
  refine Z.iload_n (n := 7) dX12_plainDares_6 rfl rfl ?_
  obtain ⟨z2, ez2, hf⟩ := Option.bind_eq_some_iff.mp hf
  refine Z.callV (n := 10) vX12_268 (ctX12_comesActs ez2) hJ.rm (Nat.le_of_ble_eq_true rfl) rfl rfl (Nat.le_refl _) (Nat.le_refl _) rfl W93 rfl rfl (Nat.le_of_ble_eq_true rfl) rfl dX12_plainDares_7 rfl (fun v w hw => ?_)
  obtain ⟨rfl, rfl⟩ := hw
  show Z _ _ _ _ _ _ _ [.int z2.1] _
  refine Z.aload_n (n := 11) dX12_plainDares_10 rfl rfl ?_
  refine Z.getf (n := 14) fX12_271 dX12_plainDares_11 rfl W93 rfl ?_
  refine Z.isub (n := 15) dX12_plainDares_14 rfl ?_
  have hz := Option.some.inj hf
  subst hz
  exact Z.iret hJ dX12_plainDares_15 rfl (Nat.le_refl _) (Nat.le_refl _) ⟨rfl, rfl⟩
def fX12_daresActs (l1 : Int32) (h : HT) : Option (Int32 × HT) :=
  if (h 93 29) = 1 then (Option.bind (fX12_runs 11 h) fun z6 =>
  Option.bind (fX12_plainDares (l1 * (3 : Int32)) z6.2) fun z7 =>
  some (z7.1, z7.2))
  else (if (h 93 29) = 6 then (Option.bind (fX12_runs 61 h) fun z4 =>
  Option.bind (fX12_plainDares l1 z4.2) fun z5 =>
  some (z5.1 + (z5.2 93 31), z5.2))
  else (Option.bind (fX12_plainDares l1 h) fun z3 =>
  some (z3.1, z3.2)))
set_option maxHeartbeats 4000000 in
theorem ctX12_daresActs {g : GP} {a : Nat → Nat} {P : PT} {h : HT} {z : Int32 × HT} {l1 : Int32} (hf : fX12_daresActs l1 h = some z) : Ct g 5 0 0 mX12_daresActs [.ref (a 93), .int l1] (WD g a h P) (PoI g a P z) := by
  refine Ct.of (by decide +kernel) (Nat.le_of_ble_eq_true rfl) fun J hJ => ?_
  show Z g mX12_daresActs J 0 0 0 [some (.ref (a 93)), some (.int l1)] [] (WD g a h P)
  unfold fX12_daresActs at hf
  refine Z.aload_n (n := 1) dX12_daresActs_0 rfl rfl ?_
  refine Z.getf (n := 4) fX12_259 dX12_daresActs_1 rfl W93 rfl ?_
  refine Z.iconst (n := 5) (v := 1) dX12_daresActs_4 rfl (by decide +kernel) ?_
  refine Z.icmp_ne (tgt := 22) (n := 8) dX12_daresActs_5 rfl rfl (fun c1 => ?_) (fun c1 => ?_)
  · rw [if_neg c1] at hf
    refine Z.aload_n (n := 23) dX12_daresActs_22 rfl rfl ?_
    refine Z.getf (n := 26) fX12_259 dX12_daresActs_23 rfl W93 rfl ?_
    refine Z.bipush (n := 28) (v := 6) dX12_daresActs_26 rfl (by decide +kernel) ?_
    refine Z.icmp_ne (tgt := 48) (n := 31) dX12_daresActs_28 rfl rfl (fun c2 => ?_) (fun c2 => ?_)
    · rw [if_neg c2] at hf
      refine Z.aload_n (n := 49) dX12_daresActs_48 rfl rfl ?_
      refine Z.iload_n (n := 50) dX12_daresActs_49 rfl rfl ?_
      obtain ⟨z3, ez3, hf⟩ := Option.bind_eq_some_iff.mp hf
      refine Z.callV (n := 53) vX12_274 (ctX12_plainDares ez3) hJ.rm (Nat.le_of_ble_eq_true rfl) rfl rfl (Nat.le_refl _) (Nat.le_refl _) rfl W93 rfl rfl (Nat.le_of_ble_eq_true rfl) rfl dX12_daresActs_50 rfl (fun v w hw => ?_)
      obtain ⟨rfl, rfl⟩ := hw
      show Z _ _ _ _ _ _ _ [.int z3.1] _
      have hz := Option.some.inj hf
      subst hz
      exact Z.iret hJ dX12_daresActs_53 rfl (Nat.le_refl _) (Nat.le_refl _) ⟨rfl, rfl⟩
    · rw [if_pos c2] at hf
      refine Z.aload_n (n := 32) dX12_daresActs_31 rfl rfl ?_
      refine Z.bipush (n := 34) (v := 61) dX12_daresActs_32 rfl (by decide +kernel) ?_
      obtain ⟨z4, ez4, hf⟩ := Option.bind_eq_some_iff.mp hf
      refine Z.callV (n := 37) vX12_253 (ctX12_runs ez4) hJ.rm (Nat.le_of_ble_eq_true rfl) rfl rfl (Nat.le_refl _) (Nat.le_refl _) rfl W93 rfl rfl (Nat.le_of_ble_eq_true rfl) rfl dX12_daresActs_34 rfl (fun v w hw => ?_)
      obtain ⟨rfl, rfl⟩ := hw
      show Z _ _ _ _ _ _ _ [] _
      refine Z.aload_n (n := 38) dX12_daresActs_37 rfl rfl ?_
      refine Z.iload_n (n := 39) dX12_daresActs_38 rfl rfl ?_
      obtain ⟨z5, ez5, hf⟩ := Option.bind_eq_some_iff.mp hf
      refine Z.callV (n := 42) vX12_274 (ctX12_plainDares ez5) hJ.rm (Nat.le_of_ble_eq_true rfl) rfl rfl (Nat.le_refl _) (Nat.le_refl _) rfl W93 rfl rfl (Nat.le_of_ble_eq_true rfl) rfl dX12_daresActs_39 rfl (fun v w hw => ?_)
      obtain ⟨rfl, rfl⟩ := hw
      show Z _ _ _ _ _ _ _ [.int z5.1] _
      refine Z.aload_n (n := 43) dX12_daresActs_42 rfl rfl ?_
      refine Z.getf (n := 46) fX12_271 dX12_daresActs_43 rfl W93 rfl ?_
      refine Z.iadd (n := 47) dX12_daresActs_46 rfl ?_
      have hz := Option.some.inj hf
      subst hz
      exact Z.iret hJ dX12_daresActs_47 rfl (Nat.le_refl _) (Nat.le_refl _) ⟨rfl, rfl⟩
  · rw [if_pos c1] at hf
    refine Z.aload_n (n := 9) dX12_daresActs_8 rfl rfl ?_
    refine Z.bipush (n := 11) (v := 11) dX12_daresActs_9 rfl (by decide +kernel) ?_
    obtain ⟨z6, ez6, hf⟩ := Option.bind_eq_some_iff.mp hf
    refine Z.callV (n := 14) vX12_253 (ctX12_runs ez6) hJ.rm (Nat.le_of_ble_eq_true rfl) rfl rfl (Nat.le_refl _) (Nat.le_refl _) rfl W93 rfl rfl (Nat.le_of_ble_eq_true rfl) rfl dX12_daresActs_11 rfl (fun v w hw => ?_)
    obtain ⟨rfl, rfl⟩ := hw
    show Z _ _ _ _ _ _ _ [] _
    refine Z.aload_n (n := 15) dX12_daresActs_14 rfl rfl ?_
    refine Z.iload_n (n := 16) dX12_daresActs_15 rfl rfl ?_
    refine Z.iconst (n := 17) (v := 3) dX12_daresActs_16 rfl (by decide +kernel) ?_
    refine Z.imul (n := 18) dX12_daresActs_17 rfl ?_
    obtain ⟨z7, ez7, hf⟩ := Option.bind_eq_some_iff.mp hf
    refine Z.callV (n := 21) vX12_274 (ctX12_plainDares ez7) hJ.rm (Nat.le_of_ble_eq_true rfl) rfl rfl (Nat.le_refl _) (Nat.le_refl _) rfl W93 rfl rfl (Nat.le_of_ble_eq_true rfl) rfl dX12_daresActs_18 rfl (fun v w hw => ?_)
    obtain ⟨rfl, rfl⟩ := hw
    show Z _ _ _ _ _ _ _ [.int z7.1] _
    have hz := Option.some.inj hf
    subst hz
    exact Z.iret hJ dX12_daresActs_21 rfl (Nat.le_refl _) (Nat.le_refl _) ⟨rfl, rfl⟩
def fX12_plainHolds (l1 : Int32) (h : HT) : Option (Int32 × HT) :=
  Option.bind (fX12_runs 3 h) fun z1 =>
  Option.bind (fX12_daresActs l1 z1.2) fun z2 =>
  some (z2.1 * (2 : Int32), z2.2)
set_option maxHeartbeats 4000000 in
theorem ctX12_plainHolds {g : GP} {a : Nat → Nat} {P : PT} {h : HT} {z : Int32 × HT} {l1 : Int32} (hf : fX12_plainHolds l1 h = some z) : Ct g 6 0 0 mX12_plainHolds [.ref (a 93), .int l1] (WD g a h P) (PoI g a P z) := by
  refine Ct.of (by decide +kernel) (Nat.le_of_ble_eq_true rfl) fun J hJ => ?_
  show Z g mX12_plainHolds J 0 0 0 [some (.ref (a 93)), some (.int l1)] [] (WD g a h P)
  unfold fX12_plainHolds at hf
  refine Z.aload_n (n := 1) dX12_plainHolds_0 rfl rfl ?_
  refine Z.iconst (n := 2) (v := 3) dX12_plainHolds_1 rfl (by decide +kernel) ?_
  obtain ⟨z1, ez1, hf⟩ := Option.bind_eq_some_iff.mp hf
  refine Z.callV (n := 5) vX12_253 (ctX12_runs ez1) hJ.rm (Nat.le_of_ble_eq_true rfl) rfl rfl (Nat.le_refl _) (Nat.le_refl _) rfl W93 rfl rfl (Nat.le_of_ble_eq_true rfl) rfl dX12_plainHolds_2 rfl (fun v w hw => ?_)
  obtain ⟨rfl, rfl⟩ := hw
  show Z _ _ _ _ _ _ _ [] _
  refine Z.aload_n (n := 6) dX12_plainHolds_5 rfl rfl ?_
  refine Z.iload_n (n := 7) dX12_plainHolds_6 rfl rfl ?_
  obtain ⟨z2, ez2, hf⟩ := Option.bind_eq_some_iff.mp hf
  refine Z.callV (n := 10) vX12_277 (ctX12_daresActs ez2) hJ.rm (Nat.le_of_ble_eq_true rfl) rfl rfl (Nat.le_refl _) (Nat.le_refl _) rfl W93 rfl rfl (Nat.le_of_ble_eq_true rfl) rfl dX12_plainHolds_7 rfl (fun v w hw => ?_)
  obtain ⟨rfl, rfl⟩ := hw
  show Z _ _ _ _ _ _ _ [.int z2.1] _
  refine Z.iconst (n := 11) (v := 2) dX12_plainHolds_10 rfl (by decide +kernel) ?_
  refine Z.imul (n := 12) dX12_plainHolds_11 rfl ?_
  have hz := Option.some.inj hf
  subst hz
  exact Z.iret hJ dX12_plainHolds_12 rfl (Nat.le_refl _) (Nat.le_refl _) ⟨rfl, rfl⟩
def fX12_holdsActs (l1 : Int32) (h : HT) : Option (Int32 × HT) :=
  if (h 93 29) = 4 then (Option.bind (fX12_runs 41 h) fun z7 =>
  Option.bind (fX12_plainHolds (l1 - (1 : Int32)) z7.2) fun z8 =>
  Option.bind (fX12_comesActs 2 z8.2) fun z9 =>
  some (z8.1 + z9.1, z9.2))
  else (Option.bind (fX12_isUnder (h 93 29) 3 h) fun z2 =>
  if z2.1 = 0 then (Option.bind (fX12_plainHolds l1 z2.2) fun z4 =>
  some (z4.1, z4.2))
  else (Option.bind (fX12_runs 31 z2.2) fun z5 =>
  Option.bind (fX12_plainHolds l1 z5.2) fun z6 =>
  some (z6.1 ^^^ (7 : Int32), z6.2)))
set_option maxHeartbeats 4000000 in
theorem ctX12_holdsActs {g : GP} {a : Nat → Nat} {P : PT} {h : HT} {z : Int32 × HT} {l1 : Int32} (hf : fX12_holdsActs l1 h = some z) : Ct g 7 0 0 mX12_holdsActs [.ref (a 93), .int l1] (WD g a h P) (PoI g a P z) := by
  refine Ct.of (by decide +kernel) (Nat.le_of_ble_eq_true rfl) fun J hJ => ?_
  show Z g mX12_holdsActs J 0 0 0 [some (.ref (a 93)), some (.int l1), none] [] (WD g a h P)
  unfold fX12_holdsActs at hf
  refine Z.aload_n (n := 1) dX12_holdsActs_0 rfl rfl ?_
  refine Z.getf (n := 4) fX12_259 dX12_holdsActs_1 rfl W93 rfl ?_
  refine Z.iconst (n := 5) (v := 4) dX12_holdsActs_4 rfl (by decide +kernel) ?_
  refine Z.icmp_ne (tgt := 30) (n := 8) dX12_holdsActs_5 rfl rfl (fun c1 => ?_) (fun c1 => ?_)
  · rw [if_neg c1] at hf
    refine Z.aload_n (n := 31) dX12_holdsActs_30 rfl rfl ?_
    refine Z.getf (n := 34) fX12_259 dX12_holdsActs_31 rfl W93 rfl ?_
    refine Z.iconst (n := 35) (v := 3) dX12_holdsActs_34 rfl (by decide +kernel) ?_
    obtain ⟨z2, ez2, hf⟩ := Option.bind_eq_some_iff.mp hf
    refine Z.callS (n := 38) vX12_265 (ctX12_isUnder ez2) hJ.rm (Nat.le_of_ble_eq_true rfl) rfl rfl (Nat.le_refl _) (Nat.le_refl _) rfl (Nat.le_of_ble_eq_true rfl) rfl dX12_holdsActs_35 rfl (fun v w hw => ?_)
    obtain ⟨rfl, rfl⟩ := hw
    show Z _ _ _ _ _ _ _ [.int z2.1] _
    refine Z.if_eq (tgt := 56) (n := 41) dX12_holdsActs_38 rfl rfl (fun c3 => ?_) (fun c3 => ?_)
    · rw [if_pos c3] at hf
      refine Z.aload_n (n := 57) dX12_holdsActs_56 rfl rfl ?_
      refine Z.iload_n (n := 58) dX12_holdsActs_57 rfl rfl ?_
      obtain ⟨z4, ez4, hf⟩ := Option.bind_eq_some_iff.mp hf
      refine Z.callV (n := 61) vX12_280 (ctX12_plainHolds ez4) hJ.rm (Nat.le_of_ble_eq_true rfl) rfl rfl (Nat.le_refl _) (Nat.le_refl _) rfl W93 rfl rfl (Nat.le_of_ble_eq_true rfl) rfl dX12_holdsActs_58 rfl (fun v w hw => ?_)
      obtain ⟨rfl, rfl⟩ := hw
      show Z _ _ _ _ _ _ _ [.int z4.1] _
      have hz := Option.some.inj hf
      subst hz
      exact Z.iret hJ dX12_holdsActs_61 rfl (Nat.le_refl _) (Nat.le_refl _) ⟨rfl, rfl⟩
    · rw [if_neg c3] at hf
      refine Z.aload_n (n := 42) dX12_holdsActs_41 rfl rfl ?_
      refine Z.bipush (n := 44) (v := 31) dX12_holdsActs_42 rfl (by decide +kernel) ?_
      obtain ⟨z5, ez5, hf⟩ := Option.bind_eq_some_iff.mp hf
      refine Z.callV (n := 47) vX12_253 (ctX12_runs ez5) hJ.rm (Nat.le_of_ble_eq_true rfl) rfl rfl (Nat.le_refl _) (Nat.le_refl _) rfl W93 rfl rfl (Nat.le_of_ble_eq_true rfl) rfl dX12_holdsActs_44 rfl (fun v w hw => ?_)
      obtain ⟨rfl, rfl⟩ := hw
      show Z _ _ _ _ _ _ _ [] _
      refine Z.aload_n (n := 48) dX12_holdsActs_47 rfl rfl ?_
      refine Z.iload_n (n := 49) dX12_holdsActs_48 rfl rfl ?_
      obtain ⟨z6, ez6, hf⟩ := Option.bind_eq_some_iff.mp hf
      refine Z.callV (n := 52) vX12_280 (ctX12_plainHolds ez6) hJ.rm (Nat.le_of_ble_eq_true rfl) rfl rfl (Nat.le_refl _) (Nat.le_refl _) rfl W93 rfl rfl (Nat.le_of_ble_eq_true rfl) rfl dX12_holdsActs_49 rfl (fun v w hw => ?_)
      obtain ⟨rfl, rfl⟩ := hw
      show Z _ _ _ _ _ _ _ [.int z6.1] _
      refine Z.bipush (n := 54) (v := 7) dX12_holdsActs_52 rfl (by decide +kernel) ?_
      refine Z.ixor (n := 55) dX12_holdsActs_54 rfl ?_
      have hz := Option.some.inj hf
      subst hz
      exact Z.iret hJ dX12_holdsActs_55 rfl (Nat.le_refl _) (Nat.le_refl _) ⟨rfl, rfl⟩
  · rw [if_pos c1] at hf
    refine Z.aload_n (n := 9) dX12_holdsActs_8 rfl rfl ?_
    refine Z.bipush (n := 11) (v := 41) dX12_holdsActs_9 rfl (by decide +kernel) ?_
    obtain ⟨z7, ez7, hf⟩ := Option.bind_eq_some_iff.mp hf
    refine Z.callV (n := 14) vX12_253 (ctX12_runs ez7) hJ.rm (Nat.le_of_ble_eq_true rfl) rfl rfl (Nat.le_refl _) (Nat.le_refl _) rfl W93 rfl rfl (Nat.le_of_ble_eq_true rfl) rfl dX12_holdsActs_11 rfl (fun v w hw => ?_)
    obtain ⟨rfl, rfl⟩ := hw
    show Z _ _ _ _ _ _ _ [] _
    refine Z.aload_n (n := 15) dX12_holdsActs_14 rfl rfl ?_
    refine Z.iload_n (n := 16) dX12_holdsActs_15 rfl rfl ?_
    refine Z.iconst (n := 17) (v := 1) dX12_holdsActs_16 rfl (by decide +kernel) ?_
    refine Z.isub (n := 18) dX12_holdsActs_17 rfl ?_
    obtain ⟨z8, ez8, hf⟩ := Option.bind_eq_some_iff.mp hf
    refine Z.callV (n := 21) vX12_280 (ctX12_plainHolds ez8) hJ.rm (Nat.le_of_ble_eq_true rfl) rfl rfl (Nat.le_refl _) (Nat.le_refl _) rfl W93 rfl rfl (Nat.le_of_ble_eq_true rfl) rfl dX12_holdsActs_18 rfl (fun v w hw => ?_)
    obtain ⟨rfl, rfl⟩ := hw
    show Z _ _ _ _ _ _ _ [.int z8.1] _
    refine Z.istore_n (n := 22) dX12_holdsActs_21 rfl (by decide) rfl ?_
    refine Z.iload_n (n := 23) dX12_holdsActs_22 rfl rfl ?_
    refine Z.aload_n (n := 24) dX12_holdsActs_23 rfl rfl ?_
    refine Z.iconst (n := 25) (v := 2) dX12_holdsActs_24 rfl (by decide +kernel) ?_
    obtain ⟨z9, ez9, hf⟩ := Option.bind_eq_some_iff.mp hf
    refine Z.callV (n := 28) vX12_268 (ctX12_comesActs ez9) hJ.rm (Nat.le_of_ble_eq_true rfl) rfl rfl (Nat.le_refl _) (Nat.le_refl _) rfl W93 rfl rfl (Nat.le_of_ble_eq_true rfl) rfl dX12_holdsActs_25 rfl (fun v w hw => ?_)
    obtain ⟨rfl, rfl⟩ := hw
    show Z _ _ _ _ _ _ _ [.int z9.1, .int z8.1] _
    refine Z.iadd (n := 29) dX12_holdsActs_28 rfl ?_
    have hz := Option.some.inj hf
    subst hz
    exact Z.iret hJ dX12_holdsActs_29 rfl (Nat.le_refl _) (Nat.le_refl _) ⟨rfl, rfl⟩
def fX12_act_22 (h : HT) : Option (Int32 × HT) :=
  some (0, h)
set_option maxHeartbeats 4000000 in
theorem zX12_act_22 {g : GP} {a : Nat → Nat} {P : PT} {J : JT} {z : Int32 × HT} (hJ : JX g 8 0 0 (PoI g a P z) J) (h : HT) (hf : fX12_act_22 h = some z) : Z g mX12_act J 0 0 22 [none, none, none, none] [] (WD g a h P) := by
  unfold fX12_act_22 at hf
  refine Z.iconst (n := 23) (v := 0) dX12_act_22 rfl (by decide +kernel) ?_
  have hz := Option.some.inj hf
  subst hz
  exact Z.iret hJ dX12_act_23 rfl (Nat.le_refl _) (Nat.le_refl _) ⟨rfl, rfl⟩
def fX12_act_87 (s0 : Int32) (h : HT) : Option (Int32 × HT) :=
  some (s0, h)
set_option maxHeartbeats 4000000 in
theorem zX12_act_87 {g : GP} {a : Nat → Nat} {P : PT} {J : JT} {z : Int32 × HT} (hJ : JX g 8 0 0 (PoI g a P z) J) (s0 : Int32) (h : HT) (hf : fX12_act_87 s0 h = some z) : Z g mX12_act J 0 0 87 [none, none, none, none] [.int s0] (WD g a h P) := by
  unfold fX12_act_87 at hf
  have hz := Option.some.inj hf
  subst hz
  exact Z.iret hJ dX12_act_87 rfl (Nat.le_refl _) (Nat.le_refl _) ⟨rfl, rfl⟩
def fX12_act (l1 : Int32) (l2 : Int32) (l3 : Int32) (h : HT) : Option (Int32 × HT) :=
  Option.bind (fX12_isStanding l1 (hu h 93 28 0)) fun z1 =>
  if z1.1 = 0 then (fX12_act_22 z1.2)
  else (Option.bind (fX12_in l2 0 2 z1.2) fun z3 =>
  if z3.1 = 0 then (fX12_act_22 z3.2)
  else (Option.bind (ck 490 ((410 : Int32) + l1)) fun j5 =>
  Option.bind (ck 490 ((420 : Int32) + l1)) fun j6 =>
  if l2 = 0 then (Option.bind (fX12_comesActs l3 (hu (hu (hu z3.2 93 29 (z3.2 94 j5)) 93 30 l1) 93 31 ((hu (hu z3.2 93 29 (z3.2 94 j5)) 93 30 l1) 94 j6))) fun z11 =>
  fX12_act_87 z11.1 z11.2)
  else (if l2 = 1 then (Option.bind (fX12_daresActs l3 (hu (hu (hu z3.2 93 29 (z3.2 94 j5)) 93 30 l1) 93 31 ((hu (hu z3.2 93 29 (z3.2 94 j5)) 93 30 l1) 94 j6))) fun z10 =>
  fX12_act_87 z10.1 z10.2)
  else (Option.bind (fX12_holdsActs l3 (hu (hu (hu z3.2 93 29 (z3.2 94 j5)) 93 30 l1) 93 31 ((hu (hu z3.2 93 29 (z3.2 94 j5)) 93 30 l1) 94 j6))) fun z9 =>
  fX12_act_87 z9.1 z9.2))))
set_option maxHeartbeats 4000000 in
theorem ctX12_act {g : GP} {a : Nat → Nat} {P : PT} {h : HT} {z : Int32 × HT} {l1 : Int32} {l2 : Int32} {l3 : Int32} (hf : fX12_act l1 l2 l3 h = some z) : Ct g 8 0 0 mX12_act [.ref (a 93), .int l1, .int l2, .int l3] (WD g a h P) (PoI g a P z) := by
  refine Ct.of (by decide +kernel) (Nat.le_of_ble_eq_true rfl) fun J hJ => ?_
  show Z g mX12_act J 0 0 0 [some (.ref (a 93)), some (.int l1), some (.int l2), some (.int l3)] [] (WD g a h P)
  unfold fX12_act at hf
  refine Z.aload_n (n := 1) dX12_act_0 rfl rfl ?_
  refine Z.iconst (n := 2) (v := 0) dX12_act_1 rfl (by decide +kernel) ?_
  refine Z.putf (n := 5) pX12_250 dX12_act_2 rfl W93 (Nat.le_of_ble_eq_true rfl) rfl rfl W93s_28 ?_
  refine Z.aload_n (n := 6) dX12_act_5 rfl rfl ?_
  refine Z.iload_n (n := 7) dX12_act_6 rfl rfl ?_
  obtain ⟨z1, ez1, hf⟩ := Option.bind_eq_some_iff.mp hf
  refine Z.callV (n := 10) vX12_132 (ctX12_isStanding ez1) hJ.rm (Nat.le_of_ble_eq_true rfl) rfl rfl (Nat.le_refl _) (Nat.le_refl _) rfl W93 rfl rfl (Nat.le_of_ble_eq_true rfl) rfl dX12_act_7 rfl (fun v w hw => ?_)
  obtain ⟨rfl, rfl⟩ := hw
  show Z _ _ _ _ _ _ _ [.int z1.1] _
  refine Z.if_eq (tgt := 22) (n := 13) dX12_act_10 rfl rfl (fun c2 => ?_) (fun c2 => ?_)
  · rw [if_pos c2] at hf
    refine Z.fg [0, 1, 2, 3] ?_
    exact zX12_act_22 hJ _ hf
  · rw [if_neg c2] at hf
    refine Z.iload_n (n := 14) dX12_act_13 rfl rfl ?_
    refine Z.iconst (n := 15) (v := 0) dX12_act_14 rfl (by decide +kernel) ?_
    refine Z.iconst (n := 16) (v := 2) dX12_act_15 rfl (by decide +kernel) ?_
    obtain ⟨z3, ez3, hf⟩ := Option.bind_eq_some_iff.mp hf
    refine Z.callS (n := 19) vX12_41 (ctX12_in ez3) hJ.rm (Nat.le_of_ble_eq_true rfl) rfl rfl (Nat.le_refl _) (Nat.le_refl _) rfl (Nat.le_of_ble_eq_true rfl) rfl dX12_act_16 rfl (fun v w hw => ?_)
    obtain ⟨rfl, rfl⟩ := hw
    show Z _ _ _ _ _ _ _ [.int z3.1] _
    refine Z.if_ne (tgt := 24) (n := 22) dX12_act_19 rfl rfl (fun c4 => ?_) (fun c4 => ?_)
    · rw [if_neg c4] at hf
      refine Z.aload_n (n := 25) dX12_act_24 rfl rfl ?_
      refine Z.aload_n (n := 26) dX12_act_25 rfl rfl ?_
      refine Z.getf (n := 29) fX12_9 dX12_act_26 rfl W93 rfl ?_
      refine Z.sipush (n := 32) (v := 410) dX12_act_29 rfl (by decide +kernel) ?_
      refine Z.iload_n (n := 33) dX12_act_32 rfl rfl ?_
      refine Z.iadd (n := 34) dX12_act_33 rfl ?_
      obtain ⟨j5, ej5, hf⟩ := Option.bind_eq_some_iff.mp hf
      obtain ⟨hij5, hlj5⟩ := ck_spec ej5
      refine Z.iald (j := j5) (n := 35) dX12_act_34 rfl W94 hij5 hlj5 (by decide) ?_
      refine Z.putf (n := 38) pX12_259 dX12_act_35 rfl W93 (Nat.le_of_ble_eq_true rfl) rfl rfl W93s_29 ?_
      refine Z.aload_n (n := 39) dX12_act_38 rfl rfl ?_
      refine Z.iload_n (n := 40) dX12_act_39 rfl rfl ?_
      refine Z.putf (n := 43) pX12_256 dX12_act_40 rfl W93 (Nat.le_of_ble_eq_true rfl) rfl rfl W93s_30 ?_
      refine Z.aload_n (n := 44) dX12_act_43 rfl rfl ?_
      refine Z.aload_n (n := 45) dX12_act_44 rfl rfl ?_
      refine Z.getf (n := 48) fX12_9 dX12_act_45 rfl W93 rfl ?_
      refine Z.sipush (n := 51) (v := 420) dX12_act_48 rfl (by decide +kernel) ?_
      refine Z.iload_n (n := 52) dX12_act_51 rfl rfl ?_
      refine Z.iadd (n := 53) dX12_act_52 rfl ?_
      obtain ⟨j6, ej6, hf⟩ := Option.bind_eq_some_iff.mp hf
      obtain ⟨hij6, hlj6⟩ := ck_spec ej6
      refine Z.iald (j := j6) (n := 54) dX12_act_53 rfl W94 hij6 hlj6 (by decide) ?_
      refine Z.putf (n := 57) pX12_271 dX12_act_54 rfl W93 (Nat.le_of_ble_eq_true rfl) rfl rfl W93s_31 ?_
      refine Z.iload_n (n := 58) dX12_act_57 rfl rfl ?_
      refine Z.if_ne (tgt := 69) (n := 61) dX12_act_58 rfl rfl (fun c7 => ?_) (fun c7 => ?_)
      · rw [if_neg c7] at hf
        refine Z.iload_n (n := 70) dX12_act_69 rfl rfl ?_
        refine Z.iconst (n := 71) (v := 1) dX12_act_70 rfl (by decide +kernel) ?_
        refine Z.icmp_ne (tgt := 82) (n := 74) dX12_act_71 rfl rfl (fun c8 => ?_) (fun c8 => ?_)
        · rw [if_neg c8] at hf
          refine Z.aload_n (n := 83) dX12_act_82 rfl rfl ?_
          refine Z.iload_n (n := 84) dX12_act_83 rfl rfl ?_
          obtain ⟨z9, ez9, hf⟩ := Option.bind_eq_some_iff.mp hf
          refine Z.callV (n := 87) vX12_283 (ctX12_holdsActs ez9) hJ.rm (Nat.le_of_ble_eq_true rfl) rfl rfl (Nat.le_refl _) (Nat.le_refl _) rfl W93 rfl rfl (Nat.le_of_ble_eq_true rfl) rfl dX12_act_84 rfl (fun v w hw => ?_)
          obtain ⟨rfl, rfl⟩ := hw
          show Z _ _ _ _ _ _ _ [.int z9.1] _
          refine Z.fg [0, 1, 2, 3] ?_
          exact zX12_act_87 hJ _ _ hf
        · rw [if_pos c8] at hf
          refine Z.aload_n (n := 75) dX12_act_74 rfl rfl ?_
          refine Z.iload_n (n := 76) dX12_act_75 rfl rfl ?_
          obtain ⟨z10, ez10, hf⟩ := Option.bind_eq_some_iff.mp hf
          refine Z.callV (n := 79) vX12_277 (ctX12_daresActs ez10) hJ.rm (Nat.le_of_ble_eq_true rfl) rfl rfl (Nat.le_refl _) (Nat.le_refl _) rfl W93 rfl rfl (Nat.le_of_ble_eq_true rfl) rfl dX12_act_76 rfl (fun v w hw => ?_)
          obtain ⟨rfl, rfl⟩ := hw
          show Z _ _ _ _ _ _ _ [.int z10.1] _
          refine Z.goto (tgt := 87) dX12_act_79 rfl ?_
          refine Z.fg [0, 1, 2, 3] ?_
          exact zX12_act_87 hJ _ _ hf
      · rw [if_pos c7] at hf
        refine Z.aload_n (n := 62) dX12_act_61 rfl rfl ?_
        refine Z.iload_n (n := 63) dX12_act_62 rfl rfl ?_
        obtain ⟨z11, ez11, hf⟩ := Option.bind_eq_some_iff.mp hf
        refine Z.callV (n := 66) vX12_268 (ctX12_comesActs ez11) hJ.rm (Nat.le_of_ble_eq_true rfl) rfl rfl (Nat.le_refl _) (Nat.le_refl _) rfl W93 rfl rfl (Nat.le_of_ble_eq_true rfl) rfl dX12_act_63 rfl (fun v w hw => ?_)
        obtain ⟨rfl, rfl⟩ := hw
        show Z _ _ _ _ _ _ _ [.int z11.1] _
        refine Z.goto (tgt := 87) dX12_act_66 rfl ?_
        refine Z.fg [0, 1, 2, 3] ?_
        exact zX12_act_87 hJ _ _ hf
    · rw [if_pos c4] at hf
      refine Z.fg [0, 1, 2, 3] ?_
      exact zX12_act_22 hJ _ hf
def fX12_trace_38 (s0 : Int32) (h : HT) : Option (Int32 × HT) :=
  some (s0, h)
set_option maxHeartbeats 4000000 in
theorem zX12_trace_38 {g : GP} {a : Nat → Nat} {P : PT} {J : JT} {z : Int32 × HT} (hJ : JX g 2 0 0 (PoI g a P z) J) (s0 : Int32) (h : HT) (hf : fX12_trace_38 s0 h = some z) : Z g mX12_trace J 0 0 38 [none, none] [.int s0] (WD g a h P) := by
  unfold fX12_trace_38 at hf
  have hz := Option.some.inj hf
  subst hz
  exact Z.iret hJ dX12_trace_38 rfl (Nat.le_refl _) (Nat.le_refl _) ⟨rfl, rfl⟩
def fX12_trace_20 (l1 : Int32) (s0 : Int32) (s1 : Int32) (s2 : Int32) (h : HT) : Option (Int32 × HT) :=
  Option.bind (fX12_in s2 s1 (s0 - (1 : Int32)) h) fun z2 =>
  if z2.1 = 0 then (fX12_trace_38 (-1) z2.2)
  else (Option.bind (ck 20 l1) fun j4 =>
  fX12_trace_38 (z2.2 101 j4) z2.2)
set_option maxHeartbeats 4000000 in
theorem zX12_trace_20 {g : GP} {a : Nat → Nat} {P : PT} {J : JT} {z : Int32 × HT} (hJ : JX g 2 0 0 (PoI g a P z) J) (l1 : Int32) (s0 : Int32) (s1 : Int32) (s2 : Int32) (h : HT) (hf : fX12_trace_20 l1 s0 s1 s2 h = some z) : Z g mX12_trace J 0 0 20 [some (.ref (a 93)), some (.int l1)] [.int s0, .int s1, .int s2] (WD g a h P) := by
  unfold fX12_trace_20 at hf
  refine Z.iconst (n := 21) (v := 1) dX12_trace_20 rfl (by decide +kernel) ?_
  refine Z.isub (n := 22) dX12_trace_21 rfl ?_
  obtain ⟨z2, ez2, hf⟩ := Option.bind_eq_some_iff.mp hf
  refine Z.callS (n := 25) vX12_41 (ctX12_in ez2) hJ.rm (Nat.le_of_ble_eq_true rfl) rfl rfl (Nat.le_refl _) (Nat.le_refl _) rfl (Nat.le_of_ble_eq_true rfl) rfl dX12_trace_22 rfl (fun v w hw => ?_)
  obtain ⟨rfl, rfl⟩ := hw
  show Z _ _ _ _ _ _ _ [.int z2.1] _
  refine Z.if_eq (tgt := 37) (n := 28) dX12_trace_25 rfl rfl (fun c3 => ?_) (fun c3 => ?_)
  · rw [if_pos c3] at hf
    refine Z.iconst (n := 38) (v := -1) dX12_trace_37 rfl (by decide +kernel) ?_
    refine Z.fg [0, 1] ?_
    exact zX12_trace_38 hJ _ _ hf
  · rw [if_neg c3] at hf
    refine Z.aload_n (n := 29) dX12_trace_28 rfl rfl ?_
    refine Z.getf (n := 32) fX12_34 dX12_trace_29 rfl W93 rfl ?_
    refine Z.iload_n (n := 33) dX12_trace_32 rfl rfl ?_
    obtain ⟨j4, ej4, hf⟩ := Option.bind_eq_some_iff.mp hf
    obtain ⟨hij4, hlj4⟩ := ck_spec ej4
    refine Z.iald (j := j4) (n := 34) dX12_trace_33 rfl W101 hij4 hlj4 (by decide) ?_
    refine Z.goto (tgt := 38) dX12_trace_34 rfl ?_
    refine Z.fg [0, 1] ?_
    exact zX12_trace_38 hJ _ _ hf
def fX12_trace (l1 : Int32) (h : HT) : Option (Int32 × HT) :=
  if 20 ≤ (h 93 28) then (fX12_trace_20 l1 20 0 l1 h)
  else (fX12_trace_20 l1 (h 93 28) 0 l1 h)
set_option maxHeartbeats 4000000 in
theorem ctX12_trace {g : GP} {a : Nat → Nat} {P : PT} {h : HT} {z : Int32 × HT} {l1 : Int32} (hf : fX12_trace l1 h = some z) : Ct g 2 0 0 mX12_trace [.ref (a 93), .int l1] (WD g a h P) (PoI g a P z) := by
  refine Ct.of (by decide +kernel) (Nat.le_of_ble_eq_true rfl) fun J hJ => ?_
  show Z g mX12_trace J 0 0 0 [some (.ref (a 93)), some (.int l1)] [] (WD g a h P)
  unfold fX12_trace at hf
  refine Z.iload_n (n := 1) dX12_trace_0 rfl rfl ?_
  refine Z.iconst (n := 2) (v := 0) dX12_trace_1 rfl (by decide +kernel) ?_
  refine Z.aload_n (n := 3) dX12_trace_2 rfl rfl ?_
  refine Z.getf (n := 6) fX12_250 dX12_trace_3 rfl W93 rfl ?_
  refine Z.bipush (n := 8) (v := 20) dX12_trace_6 rfl (by decide +kernel) ?_
  refine Z.icmp_ge (tgt := 18) (n := 11) dX12_trace_8 rfl rfl (fun c1 => ?_) (fun c1 => ?_)
  · rw [if_pos c1] at hf
    refine Z.bipush (n := 20) (v := 20) dX12_trace_18 rfl (by decide +kernel) ?_
    exact zX12_trace_20 hJ _ _ _ _ _ hf
  · rw [if_neg c1] at hf
    refine Z.aload_n (n := 12) dX12_trace_11 rfl rfl ?_
    refine Z.getf (n := 15) fX12_250 dX12_trace_12 rfl W93 rfl ?_
    refine Z.goto (tgt := 20) dX12_trace_15 rfl ?_
    exact zX12_trace_20 hJ _ _ _ _ _ hf
def fX12_as_18 (h : HT) : Option (Int32 × HT) :=
  some ((-1), h)
set_option maxHeartbeats 4000000 in
theorem zX12_as_18 {g : GP} {a : Nat → Nat} {P : PT} {J : JT} {z : Int32 × HT} (hJ : JX g 3 0 0 (PoI g a P z) J) (h : HT) (hf : fX12_as_18 h = some z) : Z g mX12_as J 0 0 18 [none, none, none] [] (WD g a h P) := by
  unfold fX12_as_18 at hf
  refine Z.iconst (n := 19) (v := -1) dX12_as_18 rfl (by decide +kernel) ?_
  have hz := Option.some.inj hf
  subst hz
  exact Z.iret hJ dX12_as_19 rfl (Nat.le_refl _) (Nat.le_refl _) ⟨rfl, rfl⟩
def fX12_as_52 (s0 : Int32) (h : HT) : Option (Int32 × HT) :=
  some (s0, h)
set_option maxHeartbeats 4000000 in
theorem zX12_as_52 {g : GP} {a : Nat → Nat} {P : PT} {J : JT} {z : Int32 × HT} (hJ : JX g 3 0 0 (PoI g a P z) J) (s0 : Int32) (h : HT) (hf : fX12_as_52 s0 h = some z) : Z g mX12_as J 0 0 52 [none, none, none] [.int s0] (WD g a h P) := by
  unfold fX12_as_52 at hf
  have hz := Option.some.inj hf
  subst hz
  exact Z.iret hJ dX12_as_52 rfl (Nat.le_refl _) (Nat.le_refl _) ⟨rfl, rfl⟩
def fX12_as (l1 : Int32) (l2 : Int32) (h : HT) : Option (Int32 × HT) :=
  Option.bind (fX12_isStanding l1 h) fun z1 =>
  if z1.1 = 0 then (fX12_as_18 z1.2)
  else (Option.bind (fX12_in l2 0 6 z1.2) fun z3 =>
  if z3.1 = 0 then (fX12_as_18 z3.2)
  else (Option.bind (ck 490 ((410 : Int32) + l1)) fun j5 =>
  Option.bind (fX12_isUnder (z3.2 94 j5) l2 z3.2) fun z6 =>
  if z6.1 = 0 then (fX12_as_52 (-6) z6.2)
  else (Option.bind (ck 490 ((420 : Int32) + l1)) fun j8 =>
  fX12_as_52 (z6.2 94 j8) z6.2)))
set_option maxHeartbeats 4000000 in
theorem ctX12_as {g : GP} {a : Nat → Nat} {P : PT} {h : HT} {z : Int32 × HT} {l1 : Int32} {l2 : Int32} (hf : fX12_as l1 l2 h = some z) : Ct g 3 0 0 mX12_as [.ref (a 93), .int l1, .int l2] (WD g a h P) (PoI g a P z) := by
  refine Ct.of (by decide +kernel) (Nat.le_of_ble_eq_true rfl) fun J hJ => ?_
  show Z g mX12_as J 0 0 0 [some (.ref (a 93)), some (.int l1), some (.int l2)] [] (WD g a h P)
  unfold fX12_as at hf
  refine Z.aload_n (n := 1) dX12_as_0 rfl rfl ?_
  refine Z.iload_n (n := 2) dX12_as_1 rfl rfl ?_
  obtain ⟨z1, ez1, hf⟩ := Option.bind_eq_some_iff.mp hf
  refine Z.callV (n := 5) vX12_132 (ctX12_isStanding ez1) hJ.rm (Nat.le_of_ble_eq_true rfl) rfl rfl (Nat.le_refl _) (Nat.le_refl _) rfl W93 rfl rfl (Nat.le_of_ble_eq_true rfl) rfl dX12_as_2 rfl (fun v w hw => ?_)
  obtain ⟨rfl, rfl⟩ := hw
  show Z _ _ _ _ _ _ _ [.int z1.1] _
  refine Z.if_eq (tgt := 18) (n := 8) dX12_as_5 rfl rfl (fun c2 => ?_) (fun c2 => ?_)
  · rw [if_pos c2] at hf
    refine Z.fg [0, 1, 2] ?_
    exact zX12_as_18 hJ _ hf
  · rw [if_neg c2] at hf
    refine Z.iload_n (n := 9) dX12_as_8 rfl rfl ?_
    refine Z.iconst (n := 10) (v := 0) dX12_as_9 rfl (by decide +kernel) ?_
    refine Z.bipush (n := 12) (v := 6) dX12_as_10 rfl (by decide +kernel) ?_
    obtain ⟨z3, ez3, hf⟩ := Option.bind_eq_some_iff.mp hf
    refine Z.callS (n := 15) vX12_41 (ctX12_in ez3) hJ.rm (Nat.le_of_ble_eq_true rfl) rfl rfl (Nat.le_refl _) (Nat.le_refl _) rfl (Nat.le_of_ble_eq_true rfl) rfl dX12_as_12 rfl (fun v w hw => ?_)
    obtain ⟨rfl, rfl⟩ := hw
    show Z _ _ _ _ _ _ _ [.int z3.1] _
    refine Z.if_ne (tgt := 20) (n := 18) dX12_as_15 rfl rfl (fun c4 => ?_) (fun c4 => ?_)
    · rw [if_neg c4] at hf
      refine Z.aload_n (n := 21) dX12_as_20 rfl rfl ?_
      refine Z.getf (n := 24) fX12_9 dX12_as_21 rfl W93 rfl ?_
      refine Z.sipush (n := 27) (v := 410) dX12_as_24 rfl (by decide +kernel) ?_
      refine Z.iload_n (n := 28) dX12_as_27 rfl rfl ?_
      refine Z.iadd (n := 29) dX12_as_28 rfl ?_
      obtain ⟨j5, ej5, hf⟩ := Option.bind_eq_some_iff.mp hf
      obtain ⟨hij5, hlj5⟩ := ck_spec ej5
      refine Z.iald (j := j5) (n := 30) dX12_as_29 rfl W94 hij5 hlj5 (by decide) ?_
      refine Z.iload_n (n := 31) dX12_as_30 rfl rfl ?_
      obtain ⟨z6, ez6, hf⟩ := Option.bind_eq_some_iff.mp hf
      refine Z.callS (n := 34) vX12_265 (ctX12_isUnder ez6) hJ.rm (Nat.le_of_ble_eq_true rfl) rfl rfl (Nat.le_refl _) (Nat.le_refl _) rfl (Nat.le_of_ble_eq_true rfl) rfl dX12_as_31 rfl (fun v w hw => ?_)
      obtain ⟨rfl, rfl⟩ := hw
      show Z _ _ _ _ _ _ _ [.int z6.1] _
      refine Z.if_eq (tgt := 50) (n := 37) dX12_as_34 rfl rfl (fun c7 => ?_) (fun c7 => ?_)
      · rw [if_pos c7] at hf
        refine Z.bipush (n := 52) (v := -6) dX12_as_50 rfl (by decide +kernel) ?_
        refine Z.fg [0, 1, 2] ?_
        exact zX12_as_52 hJ _ _ hf
      · rw [if_neg c7] at hf
        refine Z.aload_n (n := 38) dX12_as_37 rfl rfl ?_
        refine Z.getf (n := 41) fX12_9 dX12_as_38 rfl W93 rfl ?_
        refine Z.sipush (n := 44) (v := 420) dX12_as_41 rfl (by decide +kernel) ?_
        refine Z.iload_n (n := 45) dX12_as_44 rfl rfl ?_
        refine Z.iadd (n := 46) dX12_as_45 rfl ?_
        obtain ⟨j8, ej8, hf⟩ := Option.bind_eq_some_iff.mp hf
        obtain ⟨hij8, hlj8⟩ := ck_spec ej8
        refine Z.iald (j := j8) (n := 47) dX12_as_46 rfl W94 hij8 hlj8 (by decide) ?_
        refine Z.goto (tgt := 52) dX12_as_47 rfl ?_
        refine Z.fg [0, 1, 2] ?_
        exact zX12_as_52 hJ _ _ hf
    · rw [if_pos c4] at hf
      refine Z.fg [0, 1, 2] ?_
      exact zX12_as_18 hJ _ hf
def fX12_image_2 : Nat → Int32 → HT → Option (Int32 × HT)
  | 0, _, _ => none
  | n + 1, l1, h =>
  if 490 ≤ l1 then (some ((hu h 93 3 1) 94 0, hu h 93 3 1))
  else (Option.bind (ck 490 l1) fun j2 =>
  Option.bind (ck 490 l1) fun j3 =>
  fX12_image_2  n (l1 + 1) (hu h 95 j3 (h 94 j2)))
set_option maxHeartbeats 4000000 in
theorem zX12_image_2 {g : GP} {a : Nat → Nat} {P : PT} {J : JT} {z : Int32 × HT} (hJ : JX g 1 0 0 (PoI g a P z) J) : ∀ (n : Nat) (l1 : Int32) (h : HT), fX12_image_2 n l1 h = some z → Z g mX12_image J 0 0 2 [some (.ref (a 93)), some (.int l1)] [] (WD g a h P) := by
  intro n
  induction n with
  | zero =>
    intro _ _ hf
    cases hf
  | succ n ih =>
    intro l1 h hf
    unfold fX12_image_2 at hf
    refine Z.iload_n (n := 3) dX12_image_2 rfl rfl ?_
    refine Z.sipush (n := 6) (v := 490) dX12_image_3 rfl (by decide +kernel) ?_
    refine Z.icmp_ge (tgt := 27) (n := 9) dX12_image_6 rfl rfl (fun c1 => ?_) (fun c1 => ?_)
    · rw [if_pos c1] at hf
      refine Z.aload_n (n := 28) dX12_image_27 rfl rfl ?_
      refine Z.iconst (n := 29) (v := 1) dX12_image_28 rfl (by decide +kernel) ?_
      refine Z.putf (n := 32) pX12_286 dX12_image_29 rfl W93 (Nat.le_of_ble_eq_true rfl) rfl rfl W93s_3 ?_
      refine Z.aload_n (n := 33) dX12_image_32 rfl rfl ?_
      refine Z.getf (n := 36) fX12_9 dX12_image_33 rfl W93 rfl ?_
      refine Z.iconst (n := 37) (v := 0) dX12_image_36 rfl (by decide +kernel) ?_
      refine Z.iald (j := 0) (n := 38) dX12_image_37 rfl W94 (by decide +kernel) (by decide) (by decide) ?_
      have hz := Option.some.inj hf
      subst hz
      exact Z.iret hJ dX12_image_38 rfl (Nat.le_refl _) (Nat.le_refl _) ⟨rfl, rfl⟩
    · rw [if_neg c1] at hf
      refine Z.aload_n (n := 10) dX12_image_9 rfl rfl ?_
      refine Z.getf (n := 13) fX12_15 dX12_image_10 rfl W93 rfl ?_
      refine Z.iload_n (n := 14) dX12_image_13 rfl rfl ?_
      refine Z.aload_n (n := 15) dX12_image_14 rfl rfl ?_
      refine Z.getf (n := 18) fX12_9 dX12_image_15 rfl W93 rfl ?_
      refine Z.iload_n (n := 19) dX12_image_18 rfl rfl ?_
      obtain ⟨j2, ej2, hf⟩ := Option.bind_eq_some_iff.mp hf
      obtain ⟨hij2, hlj2⟩ := ck_spec ej2
      refine Z.iald (j := j2) (n := 20) dX12_image_19 rfl W94 hij2 hlj2 (by decide) ?_
      obtain ⟨j3, ej3, hf⟩ := Option.bind_eq_some_iff.mp hf
      obtain ⟨hij3, hlj3⟩ := ck_spec ej3
      refine Z.iast (j := j3) (n := 21) dX12_image_20 rfl W95 hij3 hlj3 (by decide) W95s ?_
      refine Z.iinc (n := 24) (v := l1 + 1) dX12_image_21 rfl rfl rfl (by decide) rfl ?_
      refine Z.goto (tgt := 2) dX12_image_24 rfl ?_
      exact ih _ _ hf
def fX12_image (h : HT) : Option (Int32 × HT) :=
  fX12_image_2 1000 0 h
set_option maxHeartbeats 4000000 in
theorem ctX12_image {g : GP} {a : Nat → Nat} {P : PT} {h : HT} {z : Int32 × HT} (hf : fX12_image h = some z) : Ct g 1 0 0 mX12_image [.ref (a 93)] (WD g a h P) (PoI g a P z) := by
  refine Ct.of (by decide +kernel) (Nat.le_of_ble_eq_true rfl) fun J hJ => ?_
  show Z g mX12_image J 0 0 0 [some (.ref (a 93)), none] [] (WD g a h P)
  unfold fX12_image at hf
  refine Z.iconst (n := 1) (v := 0) dX12_image_0 rfl (by decide +kernel) ?_
  refine Z.istore_n (n := 2) dX12_image_1 rfl (by decide) rfl ?_
  exact zX12_image_2 hJ _ _ _ hf
def fX12_undo_12 : Nat → Int32 → HT → Option (Int32 × HT)
  | 0, _, _ => none
  | n + 1, l1, h =>
  if 490 ≤ l1 then (some (h 94 0, h))
  else (Option.bind (ck 490 l1) fun j3 =>
  Option.bind (ck 490 l1) fun j4 =>
  fX12_undo_12  n (l1 + 1) (hu h 94 j4 (h 95 j3)))
set_option maxHeartbeats 4000000 in
theorem zX12_undo_12 {g : GP} {a : Nat → Nat} {P : PT} {J : JT} {z : Int32 × HT} (hJ : JX g 1 0 0 (PoI g a P z) J) : ∀ (n : Nat) (l1 : Int32) (h : HT), fX12_undo_12 n l1 h = some z → Z g mX12_undo J 0 0 12 [some (.ref (a 93)), some (.int l1)] [] (WD g a h P) := by
  intro n
  induction n with
  | zero =>
    intro _ _ hf
    cases hf
  | succ n ih =>
    intro l1 h hf
    unfold fX12_undo_12 at hf
    refine Z.iload_n (n := 13) dX12_undo_12 rfl rfl ?_
    refine Z.sipush (n := 16) (v := 490) dX12_undo_13 rfl (by decide +kernel) ?_
    refine Z.icmp_ge (tgt := 37) (n := 19) dX12_undo_16 rfl rfl (fun c2 => ?_) (fun c2 => ?_)
    · rw [if_pos c2] at hf
      refine Z.aload_n (n := 38) dX12_undo_37 rfl rfl ?_
      refine Z.getf (n := 41) fX12_9 dX12_undo_38 rfl W93 rfl ?_
      refine Z.iconst (n := 42) (v := 0) dX12_undo_41 rfl (by decide +kernel) ?_
      refine Z.iald (j := 0) (n := 43) dX12_undo_42 rfl W94 (by decide +kernel) (by decide) (by decide) ?_
      have hz := Option.some.inj hf
      subst hz
      exact Z.iret hJ dX12_undo_43 rfl (Nat.le_refl _) (Nat.le_refl _) ⟨rfl, rfl⟩
    · rw [if_neg c2] at hf
      refine Z.aload_n (n := 20) dX12_undo_19 rfl rfl ?_
      refine Z.getf (n := 23) fX12_9 dX12_undo_20 rfl W93 rfl ?_
      refine Z.iload_n (n := 24) dX12_undo_23 rfl rfl ?_
      refine Z.aload_n (n := 25) dX12_undo_24 rfl rfl ?_
      refine Z.getf (n := 28) fX12_15 dX12_undo_25 rfl W93 rfl ?_
      refine Z.iload_n (n := 29) dX12_undo_28 rfl rfl ?_
      obtain ⟨j3, ej3, hf⟩ := Option.bind_eq_some_iff.mp hf
      obtain ⟨hij3, hlj3⟩ := ck_spec ej3
      refine Z.iald (j := j3) (n := 30) dX12_undo_29 rfl W95 hij3 hlj3 (by decide) ?_
      obtain ⟨j4, ej4, hf⟩ := Option.bind_eq_some_iff.mp hf
      obtain ⟨hij4, hlj4⟩ := ck_spec ej4
      refine Z.iast (j := j4) (n := 31) dX12_undo_30 rfl W94 hij4 hlj4 (by decide) W94s ?_
      refine Z.iinc (n := 34) (v := l1 + 1) dX12_undo_31 rfl rfl rfl (by decide) rfl ?_
      refine Z.goto (tgt := 12) dX12_undo_34 rfl ?_
      exact ih _ _ hf
def fX12_undo (h : HT) : Option (Int32 × HT) :=
  if (h 93 3) = 0 then (some ((-3), h))
  else (fX12_undo_12 1000 0 h)
set_option maxHeartbeats 4000000 in
theorem ctX12_undo {g : GP} {a : Nat → Nat} {P : PT} {h : HT} {z : Int32 × HT} (hf : fX12_undo h = some z) : Ct g 1 0 0 mX12_undo [.ref (a 93)] (WD g a h P) (PoI g a P z) := by
  refine Ct.of (by decide +kernel) (Nat.le_of_ble_eq_true rfl) fun J hJ => ?_
  show Z g mX12_undo J 0 0 0 [some (.ref (a 93)), none] [] (WD g a h P)
  unfold fX12_undo at hf
  refine Z.aload_n (n := 1) dX12_undo_0 rfl rfl ?_
  refine Z.getf (n := 4) fX12_286 dX12_undo_1 rfl W93 rfl ?_
  refine Z.if_ne (tgt := 10) (n := 7) dX12_undo_4 rfl rfl (fun c1 => ?_) (fun c1 => ?_)
  · rw [if_neg c1] at hf
    refine Z.iconst (n := 11) (v := 0) dX12_undo_10 rfl (by decide +kernel) ?_
    refine Z.istore_n (n := 12) dX12_undo_11 rfl (by decide) rfl ?_
    exact zX12_undo_12 hJ _ _ _ hf
  · rw [if_pos c1] at hf
    refine Z.bipush (n := 9) (v := -3) dX12_undo_7 rfl (by decide +kernel) ?_
    have hz := Option.some.inj hf
    subst hz
    exact Z.iret hJ dX12_undo_9 rfl (Nat.le_refl _) (Nat.le_refl _) ⟨rfl, rfl⟩
def fX12_count (l1 : Int32) (h : HT) : Option (Int32 × HT) :=
  if l1 = 0 then (some (h 94 0, h))
  else if l1 = 1 then (Option.bind (fX12_alive  h) fun z3 =>
  Option.bind (fX12_count1 z3.1 z3.2) fun z4 =>
  some (z4.1, z4.2))
  else if l1 = 2 then (some (h 94 1, h))
  else if l1 = 3 then (some (h 94 2, h))
  else if l1 = 4 then (some (h 94 3, h))
  else if l1 = 5 then (some (h 93 28, h))
  else if l1 = 6 then (some (h 94 4, h))
  else (some ((-1), h))
set_option maxHeartbeats 4000000 in
theorem ctX12_count {g : GP} {a : Nat → Nat} {P : PT} {h : HT} {z : Int32 × HT} {l1 : Int32} (hf : fX12_count l1 h = some z) : Ct g 5 0 0 mX12_count [.ref (a 93), .int l1] (WD g a h P) (PoI g a P z) := by
  refine Ct.of (by decide +kernel) (Nat.le_of_ble_eq_true rfl) fun J hJ => ?_
  show Z g mX12_count J 0 0 0 [some (.ref (a 93)), some (.int l1)] [] (WD g a h P)
  unfold fX12_count at hf
  refine Z.iload_n (n := 1) dX12_count_0 rfl rfl ?_
  by_cases c1 : l1 = 0
  · rw [if_pos c1] at hf
    refine Z.tswI (off := 43) (tgt := 44) dX12_count_1 c1 (by decide +kernel) (by decide +kernel) (by decide +kernel) rfl ?_
    refine Z.aload_n (n := 45) dX12_count_44 rfl rfl ?_
    refine Z.getf (n := 48) fX12_9 dX12_count_45 rfl W93 rfl ?_
    refine Z.iconst (n := 49) (v := 0) dX12_count_48 rfl (by decide +kernel) ?_
    refine Z.iald (j := 0) (n := 50) dX12_count_49 rfl W94 (by decide +kernel) (by decide) (by decide) ?_
    have hz := Option.some.inj hf
    subst hz
    exact Z.iret hJ dX12_count_50 rfl (Nat.le_refl _) (Nat.le_refl _) ⟨rfl, rfl⟩
  rw [if_neg c1] at hf
  by_cases c2 : l1 = 1
  · rw [if_pos c2] at hf
    refine Z.tswI (off := 50) (tgt := 51) dX12_count_1 c2 (by decide +kernel) (by decide +kernel) (by decide +kernel) rfl ?_
    refine Z.aload_n (n := 52) dX12_count_51 rfl rfl ?_
    obtain ⟨z3, ez3, hf⟩ := Option.bind_eq_some_iff.mp hf
    refine Z.callV (n := 55) vX12_153 (ctX12_alive ez3) hJ.rm (Nat.le_of_ble_eq_true rfl) rfl rfl (Nat.le_refl _) (Nat.le_refl _) rfl W93 rfl rfl (Nat.le_of_ble_eq_true rfl) rfl dX12_count_52 rfl (fun v w hw => ?_)
    obtain ⟨rfl, rfl⟩ := hw
    show Z _ _ _ _ _ _ _ [.int z3.1] _
    obtain ⟨z4, ez4, hf⟩ := Option.bind_eq_some_iff.mp hf
    refine Z.callS (n := 58) vX12_232 (ctX12_count1 ez4) hJ.rm (Nat.le_of_ble_eq_true rfl) rfl rfl (Nat.le_refl _) (Nat.le_refl _) rfl (Nat.le_of_ble_eq_true rfl) rfl dX12_count_55 rfl (fun v w hw => ?_)
    obtain ⟨rfl, rfl⟩ := hw
    show Z _ _ _ _ _ _ _ [.int z4.1] _
    have hz := Option.some.inj hf
    subst hz
    exact Z.iret hJ dX12_count_58 rfl (Nat.le_refl _) (Nat.le_refl _) ⟨rfl, rfl⟩
  rw [if_neg c2] at hf
  by_cases c5 : l1 = 2
  · rw [if_pos c5] at hf
    refine Z.tswI (off := 58) (tgt := 59) dX12_count_1 c5 (by decide +kernel) (by decide +kernel) (by decide +kernel) rfl ?_
    refine Z.aload_n (n := 60) dX12_count_59 rfl rfl ?_
    refine Z.getf (n := 63) fX12_9 dX12_count_60 rfl W93 rfl ?_
    refine Z.iconst (n := 64) (v := 1) dX12_count_63 rfl (by decide +kernel) ?_
    refine Z.iald (j := 1) (n := 65) dX12_count_64 rfl W94 (by decide +kernel) (by decide) (by decide) ?_
    have hz := Option.some.inj hf
    subst hz
    exact Z.iret hJ dX12_count_65 rfl (Nat.le_refl _) (Nat.le_refl _) ⟨rfl, rfl⟩
  rw [if_neg c5] at hf
  by_cases c6 : l1 = 3
  · rw [if_pos c6] at hf
    refine Z.tswI (off := 65) (tgt := 66) dX12_count_1 c6 (by decide +kernel) (by decide +kernel) (by decide +kernel) rfl ?_
    refine Z.aload_n (n := 67) dX12_count_66 rfl rfl ?_
    refine Z.getf (n := 70) fX12_9 dX12_count_67 rfl W93 rfl ?_
    refine Z.iconst (n := 71) (v := 2) dX12_count_70 rfl (by decide +kernel) ?_
    refine Z.iald (j := 2) (n := 72) dX12_count_71 rfl W94 (by decide +kernel) (by decide) (by decide) ?_
    have hz := Option.some.inj hf
    subst hz
    exact Z.iret hJ dX12_count_72 rfl (Nat.le_refl _) (Nat.le_refl _) ⟨rfl, rfl⟩
  rw [if_neg c6] at hf
  by_cases c7 : l1 = 4
  · rw [if_pos c7] at hf
    refine Z.tswI (off := 72) (tgt := 73) dX12_count_1 c7 (by decide +kernel) (by decide +kernel) (by decide +kernel) rfl ?_
    refine Z.aload_n (n := 74) dX12_count_73 rfl rfl ?_
    refine Z.getf (n := 77) fX12_9 dX12_count_74 rfl W93 rfl ?_
    refine Z.iconst (n := 78) (v := 3) dX12_count_77 rfl (by decide +kernel) ?_
    refine Z.iald (j := 3) (n := 79) dX12_count_78 rfl W94 (by decide +kernel) (by decide) (by decide) ?_
    have hz := Option.some.inj hf
    subst hz
    exact Z.iret hJ dX12_count_79 rfl (Nat.le_refl _) (Nat.le_refl _) ⟨rfl, rfl⟩
  rw [if_neg c7] at hf
  by_cases c8 : l1 = 5
  · rw [if_pos c8] at hf
    refine Z.tswI (off := 79) (tgt := 80) dX12_count_1 c8 (by decide +kernel) (by decide +kernel) (by decide +kernel) rfl ?_
    refine Z.aload_n (n := 81) dX12_count_80 rfl rfl ?_
    refine Z.getf (n := 84) fX12_250 dX12_count_81 rfl W93 rfl ?_
    have hz := Option.some.inj hf
    subst hz
    exact Z.iret hJ dX12_count_84 rfl (Nat.le_refl _) (Nat.le_refl _) ⟨rfl, rfl⟩
  rw [if_neg c8] at hf
  by_cases c9 : l1 = 6
  · rw [if_pos c9] at hf
    refine Z.tswI (off := 84) (tgt := 85) dX12_count_1 c9 (by decide +kernel) (by decide +kernel) (by decide +kernel) rfl ?_
    refine Z.aload_n (n := 86) dX12_count_85 rfl rfl ?_
    refine Z.getf (n := 89) fX12_9 dX12_count_86 rfl W93 rfl ?_
    refine Z.iconst (n := 90) (v := 4) dX12_count_89 rfl (by decide +kernel) ?_
    refine Z.iald (j := 4) (n := 91) dX12_count_90 rfl W94 (by decide +kernel) (by decide) (by decide) ?_
    have hz := Option.some.inj hf
    subst hz
    exact Z.iret hJ dX12_count_91 rfl (Nat.le_refl _) (Nat.le_refl _) ⟨rfl, rfl⟩
  rw [if_neg c9] at hf
  have tc1 := lv_neT (k := 0) c1 (a := 0) (by decide +kernel)
  have tc2 := lv_neT (k := 1) c2 (a := 1) (by decide +kernel)
  have tc5 := lv_neT (k := 2) c5 (a := 2) (by decide +kernel)
  have tc6 := lv_neT (k := 3) c6 (a := 3) (by decide +kernel)
  have tc7 := lv_neT (k := 4) c7 (a := 4) (by decide +kernel)
  have tc8 := lv_neT (k := 5) c8 (a := 5) (by decide +kernel)
  have tc9 := lv_neT (k := 6) c9 (a := 6) (by decide +kernel)
  refine Z.tswO (tgt := 92) dX12_count_1 (by omega) rfl ?_
  refine Z.iconst (n := 93) (v := -1) dX12_count_92 rfl (by decide +kernel) ?_
  have hz := Option.some.inj hf
  subst hz
  exact Z.iret hJ dX12_count_93 rfl (Nat.le_refl _) (Nat.le_refl _) ⟨rfl, rfl⟩
