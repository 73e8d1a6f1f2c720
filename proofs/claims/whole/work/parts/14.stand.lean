/-! walks, by program: 14.stand.lean.txt -/
def fX5_joined (l1 : Int32) (l2 : Int32) (l3 : Int32) (l4 : Int32) (h : HT) : Option (Int32 × HT) :=
  some (((l3 &&& ((h 1 1) &&& ((((1 : Int32) <<< (l1 &&& 31)) ||| ((1 : Int32) <<< (l2 &&& 31))) ^^^ (-1 : Int32)))) ||| ((1 : Int32) <<< (l1 &&& 31))) ||| (((l4 &&& ((h 1 1) &&& ((((1 : Int32) <<< (l1 &&& 31)) ||| ((1 : Int32) <<< (l2 &&& 31))) ^^^ (-1 : Int32)))) ||| ((1 : Int32) <<< (l2 &&& 31))) <<< ((8 : Int32) &&& 31)), h)
set_option maxHeartbeats 4000000 in
theorem ctX5_joined {g : GP} {a : Nat → Nat} {P : PT} {h : HT} {z : Int32 × HT} {l1 : Int32} {l2 : Int32} {l3 : Int32} {l4 : Int32} (hf : fX5_joined l1 l2 l3 l4 h = some z) : Ct g 1 0 0 mX5_joined [.ref (a 1), .int l1, .int l2, .int l3, .int l4] (WD g a h P) (PoI g a P z) := by
  refine Ct.of (by decide +kernel) (Nat.le_of_ble_eq_true rfl) fun J hJ => ?_
  show Z g mX5_joined J 0 0 0 [some (.ref (a 1)), some (.int l1), some (.int l2), some (.int l3), some (.int l4), none] [] (WD g a h P)
  unfold fX5_joined at hf
  refine Z.aload_n (n := 1) dX5_joined_0 rfl rfl ?_
  refine Z.getf (n := 4) fX5_22 dX5_joined_1 rfl W1 rfl ?_
  refine Z.iconst (n := 5) (v := 1) dX5_joined_4 rfl (by decide +kernel) ?_
  refine Z.iload_n (n := 6) dX5_joined_5 rfl rfl ?_
  refine Z.ishl (n := 7) dX5_joined_6 rfl ?_
  refine Z.iconst (n := 8) (v := 1) dX5_joined_7 rfl (by decide +kernel) ?_
  refine Z.iload_n (n := 9) dX5_joined_8 rfl rfl ?_
  refine Z.ishl (n := 10) dX5_joined_9 rfl ?_
  refine Z.ior (n := 11) dX5_joined_10 rfl ?_
  refine Z.iconst (n := 12) (v := -1) dX5_joined_11 rfl (by decide +kernel) ?_
  refine Z.ixor (n := 13) dX5_joined_12 rfl ?_
  refine Z.iand (n := 14) dX5_joined_13 rfl ?_
  refine Z.istore (n := 16) dX5_joined_14 rfl (by decide) rfl ?_
  refine Z.iload_n (n := 17) dX5_joined_16 rfl rfl ?_
  refine Z.iload (n := 19) dX5_joined_17 rfl rfl ?_
  refine Z.iand (n := 20) dX5_joined_19 rfl ?_
  refine Z.iconst (n := 21) (v := 1) dX5_joined_20 rfl (by decide +kernel) ?_
  refine Z.iload_n (n := 22) dX5_joined_21 rfl rfl ?_
  refine Z.ishl (n := 23) dX5_joined_22 rfl ?_
  refine Z.ior (n := 24) dX5_joined_23 rfl ?_
  refine Z.iload (n := 26) dX5_joined_24 rfl rfl ?_
  refine Z.iload (n := 28) dX5_joined_26 rfl rfl ?_
  refine Z.iand (n := 29) dX5_joined_28 rfl ?_
  refine Z.iconst (n := 30) (v := 1) dX5_joined_29 rfl (by decide +kernel) ?_
  refine Z.iload_n (n := 31) dX5_joined_30 rfl rfl ?_
  refine Z.ishl (n := 32) dX5_joined_31 rfl ?_
  refine Z.ior (n := 33) dX5_joined_32 rfl ?_
  refine Z.bipush (n := 35) (v := 8) dX5_joined_33 rfl (by decide +kernel) ?_
  refine Z.ishl (n := 36) dX5_joined_35 rfl ?_
  refine Z.ior (n := 37) dX5_joined_36 rfl ?_
  have hz := Option.some.inj hf
  subst hz
  exact Z.iret hJ dX5_joined_37 rfl (Nat.le_refl _) (Nat.le_refl _) ⟨rfl, rfl⟩
def fX0_camps (r : SR) (l2 : Int32) (l3 : Int32) (h : HT) : Option (Int32 × HT) :=
  Option.bind (fX5_joined l2 l3 0 0 h) fun z1 =>
  some (z1.1, z1.2)
set_option maxHeartbeats 4000000 in
theorem ctX0_camps {g : GP} {a : Nat → Nat} {P : PT} {h : HT} {z : Int32 × HT} {r : SR} {l2 : Int32} {l3 : Int32} (k : Nat) (he : At g a P k r) (hc : SCX0 r.1) (hf : fX0_camps r l2 l3 h = some z) : Ct g 2 0 0 mX0_camps [.ref (a k), .ref (a 1), .int l2, .int l3] (WD g a h P) (PoI g a P z) := by
  refine Ct.of (by decide +kernel) (Nat.le_of_ble_eq_true rfl) fun J hJ => ?_
  show Z g mX0_camps J 0 0 0 [some (.ref (a k)), some (.ref (a 1)), some (.int l2), some (.int l3)] [] (WD g a h P)
  unfold fX0_camps at hf
  refine Z.aload_n (n := 1) dX0_camps_0 rfl rfl ?_
  refine Z.iload_n (n := 2) dX0_camps_1 rfl rfl ?_
  refine Z.iload_n (n := 3) dX0_camps_2 rfl rfl ?_
  refine Z.iconst (n := 4) (v := 0) dX0_camps_3 rfl (by decide +kernel) ?_
  refine Z.iconst (n := 5) (v := 0) dX0_camps_4 rfl (by decide +kernel) ?_
  obtain ⟨z1, ez1, hf⟩ := Option.bind_eq_some_iff.mp hf
  refine Z.callT (n := 8) vX0_7 (ctX5_joined ez1) hJ.rm (Nat.le_of_ble_eq_true rfl) rfl rfl (Nat.le_refl _) (Nat.le_refl _) rfl (Nat.le_of_ble_eq_true rfl) rfl dX0_camps_5 rfl (fun v w hw => ?_)
  obtain ⟨rfl, rfl⟩ := hw
  show Z _ _ _ _ _ _ _ [.int z1.1] _
  have hz := Option.some.inj hf
  subst hz
  exact Z.iret hJ dX0_camps_8 rfl (Nat.le_refl _) (Nat.le_refl _) ⟨rfl, rfl⟩
theorem fS_X1_7_X1 {c : Nat} (hc : SCX1 c) : FdOK RX1 7 c 1 := by
  cases (show c = 1 from hc)
  · exact fX1_7_X1
def fX9_camps_118 (r : SR) (k9_ : Int32 → Int32 → Int32 → Int32 → Int32 → HT → Option (Int32 × HT)) (l2 : Int32) (l3 : Int32) (l4 : Int32) (l5 : Int32) (l6 : Int32) (h : HT) : Option (Int32 × HT) :=
  k9_ l2 l3 l4 l5 (l6 + 1) h
set_option maxHeartbeats 4000000 in
theorem zX9_camps_118 {g : GP} {a : Nat → Nat} {P : PT} {J : JT} {z : Int32 × HT} {r : SR} {k9_ : Int32 → Int32 → Int32 → Int32 → Int32 → HT → Option (Int32 × HT)} (hJ : JX g 2 0 0 (PoI g a P z) J) (k : Nat) (he : At g a P k r) (hc : SCX9 r.1) (hk9 : ∀ (l2 : Int32) (l3 : Int32) (l4 : Int32) (l5 : Int32) (l6 : Int32) (h : HT), k9_ l2 l3 l4 l5 l6 h = some z → Z g mX9_camps J 0 0 9 [none, some (.ref (a 1)), some (.int l2), some (.int l3), some (.int l4), some (.int l5), some (.int l6), none, none, none, none] [] (WD g a h P)) (l2 : Int32) (l3 : Int32) (l4 : Int32) (l5 : Int32) (l6 : Int32) (h : HT) (hf : fX9_camps_118 r k9_ l2 l3 l4 l5 l6 h = some z) : Z g mX9_camps J 0 0 118 [none, some (.ref (a 1)), some (.int l2), some (.int l3), some (.int l4), some (.int l5), some (.int l6), none, none, none, none] [] (WD g a h P) := by
  unfold fX9_camps_118 at hf
  refine Z.iinc (n := 121) (v := l6 + 1) dX9_camps_118 rfl rfl rfl (by decide) rfl ?_
  refine Z.goto (tgt := 9) dX9_camps_121 rfl ?_
  exact hk9 _ _ _ _ _ _ hf
def fX9_camps_99 (r : SR) (k9_ : Int32 → Int32 → Int32 → Int32 → Int32 → HT → Option (Int32 × HT)) (l2 : Int32) (l3 : Int32) (l4 : Int32) (l5 : Int32) (l6 : Int32) (l9 : Int32) (l10 : Int32) (h : HT) : Option (Int32 × HT) :=
  if l10 = 0 then (fX9_camps_118 r k9_ l2 l3 l4 l5 l6 h)
  else (if l9 = 0 then (fX9_camps_118 r k9_ l2 l3 l4 (l5 ||| ((1 : Int32) <<< (l6 &&& 31))) l6 h)
  else (fX9_camps_118 r k9_ l2 l3 l4 l5 l6 h))
set_option maxHeartbeats 4000000 in
theorem zX9_camps_99 {g : GP} {a : Nat → Nat} {P : PT} {J : JT} {z : Int32 × HT} {r : SR} {k9_ : Int32 → Int32 → Int32 → Int32 → Int32 → HT → Option (Int32 × HT)} (hJ : JX g 2 0 0 (PoI g a P z) J) (k : Nat) (he : At g a P k r) (hc : SCX9 r.1) (hk9 : ∀ (l2 : Int32) (l3 : Int32) (l4 : Int32) (l5 : Int32) (l6 : Int32) (h : HT), k9_ l2 l3 l4 l5 l6 h = some z → Z g mX9_camps J 0 0 9 [none, some (.ref (a 1)), some (.int l2), some (.int l3), some (.int l4), some (.int l5), some (.int l6), none, none, none, none] [] (WD g a h P)) (l2 : Int32) (l3 : Int32) (l4 : Int32) (l5 : Int32) (l6 : Int32) (l9 : Int32) (l10 : Int32) (h : HT) (hf : fX9_camps_99 r k9_ l2 l3 l4 l5 l6 l9 l10 h = some z) : Z g mX9_camps J 0 0 99 [none, some (.ref (a 1)), some (.int l2), some (.int l3), some (.int l4), some (.int l5), some (.int l6), none, none, some (.int l9), some (.int l10)] [] (WD g a h P) := by
  unfold fX9_camps_99 at hf
  refine Z.iload (n := 101) dX9_camps_99 rfl rfl ?_
  refine Z.if_eq (tgt := 118) (n := 104) dX9_camps_101 rfl rfl (fun c12 => ?_) (fun c12 => ?_)
  · rw [if_pos c12] at hf
    refine Z.fg [9, 10] ?_
    exact zX9_camps_118 hJ k he hc hk9 _ _ _ _ _ _ hf
  · rw [if_neg c12] at hf
    refine Z.iload (n := 106) dX9_camps_104 rfl rfl ?_
    refine Z.if_ne (tgt := 118) (n := 109) dX9_camps_106 rfl rfl (fun c13 => ?_) (fun c13 => ?_)
    · rw [if_neg c13] at hf
      refine Z.fg [9, 10] ?_
      exact zX9_camps_118 hJ k he hc hk9 _ _ _ _ _ _ hf
    · rw [if_pos c13] at hf
      refine Z.iload (n := 111) dX9_camps_109 rfl rfl ?_
      refine Z.iconst (n := 112) (v := 1) dX9_camps_111 rfl (by decide +kernel) ?_
      refine Z.iload (n := 114) dX9_camps_112 rfl rfl ?_
      refine Z.ishl (n := 115) dX9_camps_114 rfl ?_
      refine Z.ior (n := 116) dX9_camps_115 rfl ?_
      refine Z.istore (n := 118) dX9_camps_116 rfl (by decide) rfl ?_
      refine Z.fg [9, 10] ?_
      exact zX9_camps_118 hJ k he hc hk9 _ _ _ _ _ _ hf
def fX9_camps_78 (r : SR) (k9_ : Int32 → Int32 → Int32 → Int32 → Int32 → HT → Option (Int32 × HT)) (l2 : Int32) (l3 : Int32) (l4 : Int32) (l5 : Int32) (l6 : Int32) (l9 : Int32) (s0 : Int32) (h : HT) : Option (Int32 × HT) :=
  if l9 = 0 then (fX9_camps_99 r k9_ l2 l3 l4 l5 l6 l9 s0 h)
  else (if s0 = 0 then (fX9_camps_99 r k9_ l2 l3 (l4 ||| ((1 : Int32) <<< (l6 &&& 31))) l5 l6 l9 s0 h)
  else (fX9_camps_99 r k9_ l2 l3 l4 l5 l6 l9 s0 h))
set_option maxHeartbeats 4000000 in
theorem zX9_camps_78 {g : GP} {a : Nat → Nat} {P : PT} {J : JT} {z : Int32 × HT} {r : SR} {k9_ : Int32 → Int32 → Int32 → Int32 → Int32 → HT → Option (Int32 × HT)} (hJ : JX g 2 0 0 (PoI g a P z) J) (k : Nat) (he : At g a P k r) (hc : SCX9 r.1) (hk9 : ∀ (l2 : Int32) (l3 : Int32) (l4 : Int32) (l5 : Int32) (l6 : Int32) (h : HT), k9_ l2 l3 l4 l5 l6 h = some z → Z g mX9_camps J 0 0 9 [none, some (.ref (a 1)), some (.int l2), some (.int l3), some (.int l4), some (.int l5), some (.int l6), none, none, none, none] [] (WD g a h P)) (l2 : Int32) (l3 : Int32) (l4 : Int32) (l5 : Int32) (l6 : Int32) (l9 : Int32) (s0 : Int32) (h : HT) (hf : fX9_camps_78 r k9_ l2 l3 l4 l5 l6 l9 s0 h = some z) : Z g mX9_camps J 0 0 78 [none, some (.ref (a 1)), some (.int l2), some (.int l3), some (.int l4), some (.int l5), some (.int l6), none, none, some (.int l9), none] [.int s0] (WD g a h P) := by
  unfold fX9_camps_78 at hf
  refine Z.istore (n := 80) dX9_camps_78 rfl (by decide) rfl ?_
  refine Z.iload (n := 82) dX9_camps_80 rfl rfl ?_
  refine Z.if_eq (tgt := 99) (n := 85) dX9_camps_82 rfl rfl (fun c11 => ?_) (fun c11 => ?_)
  · rw [if_pos c11] at hf
    exact zX9_camps_99 hJ k he hc hk9 _ _ _ _ _ _ _ _ hf
  · rw [if_neg c11] at hf
    refine Z.iload (n := 87) dX9_camps_85 rfl rfl ?_
    refine Z.if_ne (tgt := 99) (n := 90) dX9_camps_87 rfl rfl (fun c14 => ?_) (fun c14 => ?_)
    · rw [if_neg c14] at hf
      exact zX9_camps_99 hJ k he hc hk9 _ _ _ _ _ _ _ _ hf
    · rw [if_pos c14] at hf
      refine Z.iload (n := 92) dX9_camps_90 rfl rfl ?_
      refine Z.iconst (n := 93) (v := 1) dX9_camps_92 rfl (by decide +kernel) ?_
      refine Z.iload (n := 95) dX9_camps_93 rfl rfl ?_
      refine Z.ishl (n := 96) dX9_camps_95 rfl ?_
      refine Z.ior (n := 97) dX9_camps_96 rfl ?_
      refine Z.istore (n := 99) dX9_camps_97 rfl (by decide) rfl ?_
      exact zX9_camps_99 hJ k he hc hk9 _ _ _ _ _ _ _ _ hf
def fX9_camps_66 (r : SR) (k9_ : Int32 → Int32 → Int32 → Int32 → Int32 → HT → Option (Int32 × HT)) (l2 : Int32) (l3 : Int32) (l4 : Int32) (l5 : Int32) (l6 : Int32) (l8 : Int32) (s0 : Int32) (h : HT) : Option (Int32 × HT) :=
  if l8 = 0 then (fX9_camps_78 r k9_ l2 l3 l4 l5 l6 s0 0 h)
  else (fX9_camps_78 r k9_ l2 l3 l4 l5 l6 s0 1 h)
set_option maxHeartbeats 4000000 in
theorem zX9_camps_66 {g : GP} {a : Nat → Nat} {P : PT} {J : JT} {z : Int32 × HT} {r : SR} {k9_ : Int32 → Int32 → Int32 → Int32 → Int32 → HT → Option (Int32 × HT)} (hJ : JX g 2 0 0 (PoI g a P z) J) (k : Nat) (he : At g a P k r) (hc : SCX9 r.1) (hk9 : ∀ (l2 : Int32) (l3 : Int32) (l4 : Int32) (l5 : Int32) (l6 : Int32) (h : HT), k9_ l2 l3 l4 l5 l6 h = some z → Z g mX9_camps J 0 0 9 [none, some (.ref (a 1)), some (.int l2), some (.int l3), some (.int l4), some (.int l5), some (.int l6), none, none, none, none] [] (WD g a h P)) (l2 : Int32) (l3 : Int32) (l4 : Int32) (l5 : Int32) (l6 : Int32) (l8 : Int32) (s0 : Int32) (h : HT) (hf : fX9_camps_66 r k9_ l2 l3 l4 l5 l6 l8 s0 h = some z) : Z g mX9_camps J 0 0 66 [none, some (.ref (a 1)), some (.int l2), some (.int l3), some (.int l4), some (.int l5), some (.int l6), none, some (.int l8), none, none] [.int s0] (WD g a h P) := by
  unfold fX9_camps_66 at hf
  refine Z.istore (n := 68) dX9_camps_66 rfl (by decide) rfl ?_
  refine Z.iload (n := 70) dX9_camps_68 rfl rfl ?_
  refine Z.if_eq (tgt := 77) (n := 73) dX9_camps_70 rfl rfl (fun c10 => ?_) (fun c10 => ?_)
  · rw [if_pos c10] at hf
    refine Z.iconst (n := 78) (v := 0) dX9_camps_77 rfl (by decide +kernel) ?_
    refine Z.fg [8] ?_
    exact zX9_camps_78 hJ k he hc hk9 _ _ _ _ _ _ _ _ hf
  · rw [if_neg c10] at hf
    refine Z.iconst (n := 74) (v := 1) dX9_camps_73 rfl (by decide +kernel) ?_
    refine Z.goto (tgt := 78) dX9_camps_74 rfl ?_
    refine Z.fg [8] ?_
    exact zX9_camps_78 hJ k he hc hk9 _ _ _ _ _ _ _ _ hf
def fX9_camps_9 (r : SR) : Nat → Int32 → Int32 → Int32 → Int32 → Int32 → HT → Option (Int32 × HT)
  | 0, _, _, _, _, _, _ => none
  | n + 1, l2, l3, l4, l5, l6, h =>
  if (h 1 0) ≤ l6 then (Option.bind (fX5_joined l2 l3 l4 l5 h) fun z2 =>
  some (z2.1, z2.2))
  else (Option.bind (ck 7 l6) fun j3 =>
  Option.bind (ck 7 l2) fun j4 =>
  Option.bind (ck 7 l6) fun j5 =>
  Option.bind (ck 7 l3) fun j6 =>
  if (h (14 + j3) j4) = 3 then (fX9_camps_118 r (fX9_camps_9 r  n) l2 l3 l4 l5 l6 h)
  else (if (h (14 + j5) j6) = 3 then (fX9_camps_118 r (fX9_camps_9 r  n) l2 l3 l4 l5 l6 h)
  else (if (h (14 + j3) j4) = 2 then (fX9_camps_66 r (fX9_camps_9 r  n) l2 l3 l4 l5 l6 (h (14 + j5) j6) 1 h)
  else (fX9_camps_66 r (fX9_camps_9 r  n) l2 l3 l4 l5 l6 (h (14 + j5) j6) 0 h))))
set_option maxHeartbeats 4000000 in
theorem zX9_camps_9 {g : GP} {a : Nat → Nat} {P : PT} {J : JT} {z : Int32 × HT} {r : SR} (hJ : JX g 2 0 0 (PoI g a P z) J) (k : Nat) (he : At g a P k r) (hc : SCX9 r.1) : ∀ (n : Nat) (l2 : Int32) (l3 : Int32) (l4 : Int32) (l5 : Int32) (l6 : Int32) (h : HT), fX9_camps_9 r n l2 l3 l4 l5 l6 h = some z → Z g mX9_camps J 0 0 9 [none, some (.ref (a 1)), some (.int l2), some (.int l3), some (.int l4), some (.int l5), some (.int l6), none, none, none, none] [] (WD g a h P) := by
  intro n
  induction n with
  | zero =>
    intro _ _ _ _ _ _ hf
    cases hf
  | succ n ih =>
    intro l2 l3 l4 l5 l6 h hf
    unfold fX9_camps_9 at hf
    refine Z.iload (n := 11) dX9_camps_9 rfl rfl ?_
    refine Z.aload_n (n := 12) dX9_camps_11 rfl rfl ?_
    refine Z.getf (n := 15) fX9_7 dX9_camps_12 rfl W1 rfl ?_
    refine Z.icmp_ge (tgt := 124) (n := 18) dX9_camps_15 rfl rfl (fun c1 => ?_) (fun c1 => ?_)
    · rw [if_pos c1] at hf
      refine Z.aload_n (n := 125) dX9_camps_124 rfl rfl ?_
      refine Z.iload_n (n := 126) dX9_camps_125 rfl rfl ?_
      refine Z.iload_n (n := 127) dX9_camps_126 rfl rfl ?_
      refine Z.iload (n := 129) dX9_camps_127 rfl rfl ?_
      refine Z.iload (n := 131) dX9_camps_129 rfl rfl ?_
      obtain ⟨z2, ez2, hf⟩ := Option.bind_eq_some_iff.mp hf
      refine Z.callT (n := 134) vX9_17 (ctX5_joined ez2) hJ.rm (Nat.le_of_ble_eq_true rfl) rfl rfl (Nat.le_refl _) (Nat.le_refl _) rfl (Nat.le_of_ble_eq_true rfl) rfl dX9_camps_131 rfl (fun v w hw => ?_)
      obtain ⟨rfl, rfl⟩ := hw
      show Z _ _ _ _ _ _ _ [.int z2.1] _
      have hz := Option.some.inj hf
      subst hz
      exact Z.iret hJ dX9_camps_134 rfl (Nat.le_refl _) (Nat.le_refl _) ⟨rfl, rfl⟩
    · rw [if_neg c1] at hf
      refine Z.aload_n (n := 19) dX9_camps_18 rfl rfl ?_
      refine Z.getf (n := 22) fX9_13 dX9_camps_19 rfl W1 rfl ?_
      refine Z.iload (n := 24) dX9_camps_22 rfl rfl ?_
      obtain ⟨j3, ej3, hf⟩ := Option.bind_eq_some_iff.mp hf
      obtain ⟨hij3, hlj3⟩ := ck_spec ej3
      refine Z.aald (j := j3) (ty := 3) (n := 25) dX9_camps_24 rfl W13 rfl rfl hij3 hlj3 (by decide) ?_
      rw [if_pos hlj3]
      show Z _ _ _ _ _ _ _ (.ref (a (14 + j3)) :: _) _
      refine Z.iload_n (n := 26) dX9_camps_25 rfl rfl ?_
      obtain ⟨j4, ej4, hf⟩ := Option.bind_eq_some_iff.mp hf
      obtain ⟨hij4, hlj4⟩ := ck_spec ej4
      refine Z.iald (j := j4) (n := 27) dX9_camps_26 rfl (Wpa (r := j3) hlj3) hij4 hlj4 (by decide) ?_
      refine Z.istore (n := 29) dX9_camps_27 rfl (by decide) rfl ?_
      refine Z.aload_n (n := 30) dX9_camps_29 rfl rfl ?_
      refine Z.getf (n := 33) fX9_13 dX9_camps_30 rfl W1 rfl ?_
      refine Z.iload (n := 35) dX9_camps_33 rfl rfl ?_
      obtain ⟨j5, ej5, hf⟩ := Option.bind_eq_some_iff.mp hf
      obtain ⟨hij5, hlj5⟩ := ck_spec ej5
      refine Z.aald (j := j5) (ty := 3) (n := 36) dX9_camps_35 rfl W13 rfl rfl hij5 hlj5 (by decide) ?_
      rw [if_pos hlj5]
      show Z _ _ _ _ _ _ _ (.ref (a (14 + j5)) :: _) _
      refine Z.iload_n (n := 37) dX9_camps_36 rfl rfl ?_
      obtain ⟨j6, ej6, hf⟩ := Option.bind_eq_some_iff.mp hf
      obtain ⟨hij6, hlj6⟩ := ck_spec ej6
      refine Z.iald (j := j6) (n := 38) dX9_camps_37 rfl (Wpa (r := j5) hlj5) hij6 hlj6 (by decide) ?_
      refine Z.istore (n := 40) dX9_camps_38 rfl (by decide) rfl ?_
      refine Z.iload (n := 42) dX9_camps_40 rfl rfl ?_
      refine Z.iconst (n := 43) (v := 3) dX9_camps_42 rfl (by decide +kernel) ?_
      refine Z.icmp_eq (tgt := 118) (n := 46) dX9_camps_43 rfl rfl (fun c7 => ?_) (fun c7 => ?_)
      · rw [if_pos c7] at hf
        refine Z.fg [7, 8] ?_
        exact zX9_camps_118 hJ k he hc ih _ _ _ _ _ _ hf
      · rw [if_neg c7] at hf
        refine Z.iload (n := 48) dX9_camps_46 rfl rfl ?_
        refine Z.iconst (n := 49) (v := 3) dX9_camps_48 rfl (by decide +kernel) ?_
        refine Z.icmp_ne (tgt := 55) (n := 52) dX9_camps_49 rfl rfl (fun c8 => ?_) (fun c8 => ?_)
        · rw [if_neg c8] at hf
          refine Z.iload (n := 57) dX9_camps_55 rfl rfl ?_
          refine Z.iconst (n := 58) (v := 2) dX9_camps_57 rfl (by decide +kernel) ?_
          refine Z.icmp_ne (tgt := 65) (n := 61) dX9_camps_58 rfl rfl (fun c9 => ?_) (fun c9 => ?_)
          · rw [if_neg c9] at hf
            refine Z.iconst (n := 66) (v := 0) dX9_camps_65 rfl (by decide +kernel) ?_
            refine Z.fg [7] ?_
            exact zX9_camps_66 hJ k he hc ih _ _ _ _ _ _ _ _ hf
          · rw [if_pos c9] at hf
            refine Z.iconst (n := 62) (v := 1) dX9_camps_61 rfl (by decide +kernel) ?_
            refine Z.goto (tgt := 66) dX9_camps_62 rfl ?_
            refine Z.fg [7] ?_
            exact zX9_camps_66 hJ k he hc ih _ _ _ _ _ _ _ _ hf
        · rw [if_pos c8] at hf
          refine Z.goto (tgt := 118) dX9_camps_52 rfl ?_
          refine Z.fg [7, 8] ?_
          exact zX9_camps_118 hJ k he hc ih _ _ _ _ _ _ hf
def fX9_camps (r : SR) (l2 : Int32) (l3 : Int32) (h : HT) : Option (Int32 × HT) :=
  fX9_camps_9 r 1000 l2 l3 0 0 0 h
set_option maxHeartbeats 4000000 in
theorem ctX9_camps {g : GP} {a : Nat → Nat} {P : PT} {h : HT} {z : Int32 × HT} {r : SR} {l2 : Int32} {l3 : Int32} (k : Nat) (he : At g a P k r) (hc : SCX9 r.1) (hf : fX9_camps r l2 l3 h = some z) : Ct g 2 0 0 mX9_camps [.ref (a k), .ref (a 1), .int l2, .int l3] (WD g a h P) (PoI g a P z) := by
  refine Ct.of (by decide +kernel) (Nat.le_of_ble_eq_true rfl) fun J hJ => ?_
  show Z g mX9_camps J 0 0 0 [some (.ref (a k)), some (.ref (a 1)), some (.int l2), some (.int l3), none, none, none, none, none, none, none] [] (WD g a h P)
  unfold fX9_camps at hf
  refine Z.iconst (n := 1) (v := 0) dX9_camps_0 rfl (by decide +kernel) ?_
  refine Z.istore (n := 3) dX9_camps_1 rfl (by decide) rfl ?_
  refine Z.iconst (n := 4) (v := 0) dX9_camps_3 rfl (by decide +kernel) ?_
  refine Z.istore (n := 6) dX9_camps_4 rfl (by decide) rfl ?_
  refine Z.iconst (n := 7) (v := 0) dX9_camps_6 rfl (by decide +kernel) ?_
  refine Z.istore (n := 9) dX9_camps_7 rfl (by decide) rfl ?_
  refine Z.fg [0] ?_
  exact zX9_camps_9 hJ k he hc _ _ _ _ _ _ _ hf
def fX1_camps_29 (r : SR) (s0 : Int32) (h : HT) : Option (Int32 × HT) :=
  some (s0, h)
set_option maxHeartbeats 4000000 in
theorem zX1_camps_29 {g : GP} {a : Nat → Nat} {P : PT} {J : JT} {z : Int32 × HT} {r : SR} (hJ : JX g 3 0 0 (PoI g a P z) J) (k : Nat) (he : At g a P k r) (hc : SCX1 r.1) (s0 : Int32) (h : HT) (hf : fX1_camps_29 r s0 h = some z) : Z g mX1_camps J 0 0 29 [none, none, none, none] [.int s0] (WD g a h P) := by
  unfold fX1_camps_29 at hf
  have hz := Option.some.inj hf
  subst hz
  exact Z.iret hJ dX1_camps_29 rfl (Nat.le_refl _) (Nat.le_refl _) ⟨rfl, rfl⟩
def fX1_camps (r : SR) (l2 : Int32) (l3 : Int32) (h : HT) : Option (Int32 × HT) :=
  if l3 = r.2.2 then (Option.bind (fX5_joined l2 l3 0 (h 1 1) h) fun z3 =>
  fX1_camps_29 r z3.1 z3.2)
  else (Option.bind (fX9_camps r l2 l3 h) fun z2 =>
  fX1_camps_29 r z2.1 z2.2)
set_option maxHeartbeats 4000000 in
theorem ctX1_camps {g : GP} {a : Nat → Nat} {P : PT} {h : HT} {z : Int32 × HT} {r : SR} {l2 : Int32} {l3 : Int32} (k : Nat) (he : At g a P k r) (hc : SCX1 r.1) (hf : fX1_camps r l2 l3 h = some z) : Ct g 3 0 0 mX1_camps [.ref (a k), .ref (a 1), .int l2, .int l3] (WD g a h P) (PoI g a P z) := by
  refine Ct.of (by decide +kernel) (Nat.le_of_ble_eq_true rfl) fun J hJ => ?_
  show Z g mX1_camps J 0 0 0 [some (.ref (a k)), some (.ref (a 1)), some (.int l2), some (.int l3)] [] (WD g a h P)
  unfold fX1_camps at hf
  refine Z.iload_n (n := 1) dX1_camps_0 rfl rfl ?_
  refine Z.aload_n (n := 2) dX1_camps_1 rfl rfl ?_
  refine Z.getf (n := 5) (fS_X1_7_X1 hc) dX1_camps_2 rfl (he _) rfl ?_
  refine Z.icmp_ne (tgt := 22) (n := 8) dX1_camps_5 rfl rfl (fun c1 => ?_) (fun c1 => ?_)
  · rw [if_neg c1] at hf
    refine Z.aload_n (n := 23) dX1_camps_22 rfl rfl ?_
    refine Z.aload_n (n := 24) dX1_camps_23 rfl rfl ?_
    refine Z.iload_n (n := 25) dX1_camps_24 rfl rfl ?_
    refine Z.iload_n (n := 26) dX1_camps_25 rfl rfl ?_
    obtain ⟨z2, ez2, hf⟩ := Option.bind_eq_some_iff.mp hf
    obtain ⟨q9, hq9⟩ := SC_cl (SCX1_X5 hc)
    refine Z.callP (n := 29) vX1_22 (ctX9_camps k he (SCX1_X9 hc) ez2) hJ.rm (Nat.le_of_ble_eq_true rfl) rfl rfl (Nat.le_refl _) (Nat.le_refl _) rfl (he _) hq9 (Nat.le_of_ble_eq_true rfl) rfl dX1_camps_26 rfl (fun v w hw => ?_)
    obtain ⟨rfl, rfl⟩ := hw
    show Z _ _ _ _ _ _ _ [.int z2.1] _
    refine Z.fg [0, 1, 2, 3] ?_
    exact zX1_camps_29 hJ k he hc _ _ hf
  · rw [if_pos c1] at hf
    refine Z.aload_n (n := 9) dX1_camps_8 rfl rfl ?_
    refine Z.iload_n (n := 10) dX1_camps_9 rfl rfl ?_
    refine Z.iload_n (n := 11) dX1_camps_10 rfl rfl ?_
    refine Z.iconst (n := 12) (v := 0) dX1_camps_11 rfl (by decide +kernel) ?_
    refine Z.aload_n (n := 13) dX1_camps_12 rfl rfl ?_
    refine Z.getf (n := 16) fX1_13 dX1_camps_13 rfl W1 rfl ?_
    obtain ⟨z3, ez3, hf⟩ := Option.bind_eq_some_iff.mp hf
    refine Z.callT (n := 19) vX1_18 (ctX5_joined ez3) hJ.rm (Nat.le_of_ble_eq_true rfl) rfl rfl (Nat.le_refl _) (Nat.le_refl _) rfl (Nat.le_of_ble_eq_true rfl) rfl dX1_camps_16 rfl (fun v w hw => ?_)
    obtain ⟨rfl, rfl⟩ := hw
    show Z _ _ _ _ _ _ _ [.int z3.1] _
    refine Z.goto (tgt := 29) dX1_camps_19 rfl ?_
    refine Z.fg [0, 1, 2, 3] ?_
    exact zX1_camps_29 hJ k he hc _ _ hf
theorem fS_X4_23_X4 {c : Nat} (hc : SCX4 c) : FdOK RX4 23 c 0 := by
  rcases hc with rfl | rfl
  · exact fX4_23_X4
  · exact fX4_23_X2
def fX4_blockBits_44 (r : SR) (k16_ : Int32 → Nat → Int32 → Int32 → HT → Option (Int32 × HT)) (l2 : Int32) (w3 : Nat) (l4 : Int32) (l5 : Int32) (h : HT) : Option (Int32 × HT) :=
  k16_ l2 w3 l4 (l5 + 1) h
set_option maxHeartbeats 4000000 in
theorem zX4_blockBits_44 {g : GP} {a : Nat → Nat} {P : PT} {J : JT} {z : Int32 × HT} {r : SR} {k16_ : Int32 → Nat → Int32 → Int32 → HT → Option (Int32 × HT)} (hJ : JX g 1 0 0 (PoI g a P z) J) (k : Nat) (he : At g a P k r) (hc : SCX4 r.1) (hk16 : ∀ (l2 : Int32) (w3 : Nat) (l4 : Int32) (l5 : Int32) (h : HT) (hw3 : w3 < 9), k16_ l2 w3 l4 l5 h = some z → Z g mX4_blockBits J 0 0 16 [none, some (.ref (a 1)), some (.int l2), some (.ref (a (32 + w3))), some (.int l4), some (.int l5)] [] (WD g a h P)) (l2 : Int32) (w3 : Nat) (l4 : Int32) (l5 : Int32) (h : HT) (hw3 : w3 < 9) (hf : fX4_blockBits_44 r k16_ l2 w3 l4 l5 h = some z) : Z g mX4_blockBits J 0 0 44 [none, some (.ref (a 1)), some (.int l2), some (.ref (a (32 + w3))), some (.int l4), some (.int l5)] [] (WD g a h P) := by
  unfold fX4_blockBits_44 at hf
  refine Z.iinc (n := 47) (v := l5 + 1) dX4_blockBits_44 rfl rfl rfl (by decide) rfl ?_
  refine Z.goto (tgt := 16) dX4_blockBits_47 rfl ?_
  exact hk16 _ _ _ _ _ hw3 hf
def fX4_blockBits_16 (r : SR) : Nat → Int32 → Nat → Int32 → Int32 → HT → Option (Int32 × HT)
  | 0, _, _, _, _, _ => none
  | n + 1, l2, w3, l4, l5, h =>
  if (h 1 0) ≤ l5 then (some (l4, h))
  else (Option.bind (ck 7 l5) fun j3 =>
  Option.bind (ck 7 l2) fun j4 =>
  if (h (32 + w3) j3) = (h (32 + w3) j4) then (fX4_blockBits_44 r (fX4_blockBits_16 r  n) l2 w3 (l4 ||| ((1 : Int32) <<< (l5 &&& 31))) l5 h)
  else (fX4_blockBits_44 r (fX4_blockBits_16 r  n) l2 w3 l4 l5 h))
set_option maxHeartbeats 4000000 in
theorem zX4_blockBits_16 {g : GP} {a : Nat → Nat} {P : PT} {J : JT} {z : Int32 × HT} {r : SR} (hJ : JX g 1 0 0 (PoI g a P z) J) (k : Nat) (he : At g a P k r) (hc : SCX4 r.1) : ∀ (n : Nat) (l2 : Int32) (w3 : Nat) (l4 : Int32) (l5 : Int32) (h : HT) (hw3 : w3 < 9), fX4_blockBits_16 r n l2 w3 l4 l5 h = some z → Z g mX4_blockBits J 0 0 16 [none, some (.ref (a 1)), some (.int l2), some (.ref (a (32 + w3))), some (.int l4), some (.int l5)] [] (WD g a h P) := by
  intro n
  induction n with
  | zero =>
    intro _ _ _ _ _ _ hf
    cases hf
  | succ n ih =>
    intro l2 w3 l4 l5 h hw3 hf
    unfold fX4_blockBits_16 at hf
    refine Z.iload (n := 18) dX4_blockBits_16 rfl rfl ?_
    refine Z.aload_n (n := 19) dX4_blockBits_18 rfl rfl ?_
    refine Z.getf (n := 22) fX4_27 dX4_blockBits_19 rfl W1 rfl ?_
    refine Z.icmp_ge (tgt := 50) (n := 25) dX4_blockBits_22 rfl rfl (fun c2 => ?_) (fun c2 => ?_)
    · rw [if_pos c2] at hf
      refine Z.iload (n := 52) dX4_blockBits_50 rfl rfl ?_
      have hz := Option.some.inj hf
      subst hz
      exact Z.iret hJ dX4_blockBits_52 rfl (Nat.le_refl _) (Nat.le_refl _) ⟨rfl, rfl⟩
    · rw [if_neg c2] at hf
      refine Z.aload_n (n := 26) dX4_blockBits_25 rfl rfl ?_
      refine Z.iload (n := 28) dX4_blockBits_26 rfl rfl ?_
      obtain ⟨j3, ej3, hf⟩ := Option.bind_eq_some_iff.mp hf
      obtain ⟨hij3, hlj3⟩ := ck_spec ej3
      refine Z.iald (j := j3) (n := 29) dX4_blockBits_28 rfl (Wbl (r := w3) hw3) hij3 hlj3 (by decide) ?_
      refine Z.aload_n (n := 30) dX4_blockBits_29 rfl rfl ?_
      refine Z.iload_n (n := 31) dX4_blockBits_30 rfl rfl ?_
      obtain ⟨j4, ej4, hf⟩ := Option.bind_eq_some_iff.mp hf
      obtain ⟨hij4, hlj4⟩ := ck_spec ej4
      refine Z.iald (j := j4) (n := 32) dX4_blockBits_31 rfl (Wbl (r := w3) hw3) hij4 hlj4 (by decide) ?_
      refine Z.icmp_ne (tgt := 44) (n := 35) dX4_blockBits_32 rfl rfl (fun c5 => ?_) (fun c5 => ?_)
      · rw [if_neg c5] at hf
        exact zX4_blockBits_44 hJ k he hc ih _ _ _ _ _ hw3 hf
      · rw [if_pos c5] at hf
        refine Z.iload (n := 37) dX4_blockBits_35 rfl rfl ?_
        refine Z.iconst (n := 38) (v := 1) dX4_blockBits_37 rfl (by decide +kernel) ?_
        refine Z.iload (n := 40) dX4_blockBits_38 rfl rfl ?_
        refine Z.ishl (n := 41) dX4_blockBits_40 rfl ?_
        refine Z.ior (n := 42) dX4_blockBits_41 rfl ?_
        refine Z.istore (n := 44) dX4_blockBits_42 rfl (by decide) rfl ?_
        exact zX4_blockBits_44 hJ k he hc ih _ _ _ _ _ hw3 hf
def fX4_blockBits (r : SR) (l2 : Int32) (h : HT) : Option (Int32 × HT) :=
  Option.bind (ck 9 r.2.1) fun j1 =>
  fX4_blockBits_16 r 1000 l2 j1 0 0 h
set_option maxHeartbeats 4000000 in
theorem ctX4_blockBits {g : GP} {a : Nat → Nat} {P : PT} {h : HT} {z : Int32 × HT} {r : SR} {l2 : Int32} (k : Nat) (he : At g a P k r) (hc : SCX4 r.1) (hf : fX4_blockBits r l2 h = some z) : Ct g 1 0 0 mX4_blockBits [.ref (a k), .ref (a 1), .int l2] (WD g a h P) (PoI g a P z) := by
  refine Ct.of (by decide +kernel) (Nat.le_of_ble_eq_true rfl) fun J hJ => ?_
  show Z g mX4_blockBits J 0 0 0 [some (.ref (a k)), some (.ref (a 1)), some (.int l2), none, none, none] [] (WD g a h P)
  unfold fX4_blockBits at hf
  refine Z.aload_n (n := 1) dX4_blockBits_0 rfl rfl ?_
  refine Z.getf (n := 4) fX4_17 dX4_blockBits_1 rfl W1 rfl ?_
  refine Z.aload_n (n := 5) dX4_blockBits_4 rfl rfl ?_
  refine Z.getf (n := 8) (fS_X4_23_X4 hc) dX4_blockBits_5 rfl (he _) rfl ?_
  obtain ⟨j1, ej1, hf⟩ := Option.bind_eq_some_iff.mp hf
  obtain ⟨hij1, hlj1⟩ := ck_spec ej1
  refine Z.aald (j := j1) (ty := 3) (n := 9) dX4_blockBits_8 rfl W31 rfl rfl hij1 hlj1 (by decide) ?_
  rw [if_pos hlj1]
  show Z _ _ _ _ _ _ _ (.ref (a (32 + j1)) :: _) _
  refine Z.astore_n (n := 10) dX4_blockBits_9 rfl (by decide) rfl ?_
  refine Z.iconst (n := 11) (v := 0) dX4_blockBits_10 rfl (by decide +kernel) ?_
  refine Z.istore (n := 13) dX4_blockBits_11 rfl (by decide) rfl ?_
  refine Z.iconst (n := 14) (v := 0) dX4_blockBits_13 rfl (by decide +kernel) ?_
  refine Z.istore (n := 16) dX4_blockBits_14 rfl (by decide) rfl ?_
  refine Z.fg [0] ?_
  exact zX4_blockBits_16 hJ k he hc _ _ _ _ _ _ hlj1 hf
theorem uS_X2_7_X2 {c : Nat} (hc : SCX2 c) : ∃ q : vw_C, vwCl[c]? = some q ∧ CU RX2 7 q.1 mX4_blockBits 2 := by
  cases (show c = 2 from hc)
  · exact ⟨_, rfl, uX2_7_X2⟩
theorem uS_X4_7_X4 {c : Nat} (hc : SCX4 c) : ∃ q : vw_C, vwCl[c]? = some q ∧ CU RX4 7 q.1 mX4_blockBits 2 := by
  rcases hc with rfl | rfl
  · exact ⟨_, rfl, uX4_7_X4⟩
  · exact ⟨_, rfl, uX4_7_X2⟩
def fX4_camps_42 (r : SR) (s0 : Int32) (h : HT) : Option (Int32 × HT) :=
  some (s0, h)
set_option maxHeartbeats 4000000 in
theorem zX4_camps_42 {g : GP} {a : Nat → Nat} {P : PT} {J : JT} {z : Int32 × HT} {r : SR} (hJ : JX g 2 0 0 (PoI g a P z) J) (k : Nat) (he : At g a P k r) (hc : SCX4 r.1) (s0 : Int32) (h : HT) (hf : fX4_camps_42 r s0 h = some z) : Z g mX4_camps J 0 0 42 [none, none, none, none, none] [.int s0] (WD g a h P) := by
  unfold fX4_camps_42 at hf
  have hz := Option.some.inj hf
  subst hz
  exact Z.iret hJ dX4_camps_42 rfl (Nat.le_refl _) (Nat.le_refl _) ⟨rfl, rfl⟩
def fX4_camps (r : SR) (l2 : Int32) (l3 : Int32) (h : HT) : Option (Int32 × HT) :=
  Option.bind (fX4_blockBits r l2 h) fun z1 =>
  if ((z1.1 >>> (l3 &&& 31)) &&& (1 : Int32)) = 0 then (Option.bind (fX4_blockBits r l3 z1.2) fun z3 =>
  Option.bind (fX5_joined l2 l3 z1.1 z3.1 z3.2) fun z4 =>
  fX4_camps_42 r z4.1 z4.2)
  else (Option.bind (fX5_joined l2 l3 0 0 z1.2) fun z5 =>
  fX4_camps_42 r z5.1 z5.2)
set_option maxHeartbeats 4000000 in
theorem ctX4_camps {g : GP} {a : Nat → Nat} {P : PT} {h : HT} {z : Int32 × HT} {r : SR} {l2 : Int32} {l3 : Int32} (k : Nat) (he : At g a P k r) (hc : SCX4 r.1) (hf : fX4_camps r l2 l3 h = some z) : Ct g 2 0 0 mX4_camps [.ref (a k), .ref (a 1), .int l2, .int l3] (WD g a h P) (PoI g a P z) := by
  refine Ct.of (by decide +kernel) (Nat.le_of_ble_eq_true rfl) fun J hJ => ?_
  show Z g mX4_camps J 0 0 0 [some (.ref (a k)), some (.ref (a 1)), some (.int l2), some (.int l3), none] [] (WD g a h P)
  unfold fX4_camps at hf
  refine Z.aload_n (n := 1) dX4_camps_0 rfl rfl ?_
  refine Z.aload_n (n := 2) dX4_camps_1 rfl rfl ?_
  refine Z.iload_n (n := 3) dX4_camps_2 rfl rfl ?_
  obtain ⟨z1, ez1, hf⟩ := Option.bind_eq_some_iff.mp hf
  obtain ⟨q9, hq9, hu9⟩ := uS_X4_7_X4 hc
  refine Z.callU (n := 6) hu9 (ctX4_blockBits k he hc ez1) hJ.rm (Nat.le_of_ble_eq_true rfl) rfl rfl (Nat.le_refl _) (Nat.le_refl _) rfl (he _) hq9 (Nat.le_of_ble_eq_true rfl) rfl dX4_camps_3 rfl (fun v w hw => ?_)
  obtain ⟨rfl, rfl⟩ := hw
  show Z _ _ _ _ _ _ _ [.int z1.1] _
  refine Z.istore (n := 8) dX4_camps_6 rfl (by decide) rfl ?_
  refine Z.iload (n := 10) dX4_camps_8 rfl rfl ?_
  refine Z.iload_n (n := 11) dX4_camps_10 rfl rfl ?_
  refine Z.ishr (n := 12) dX4_camps_11 rfl ?_
  refine Z.iconst (n := 13) (v := 1) dX4_camps_12 rfl (by decide +kernel) ?_
  refine Z.iand (n := 14) dX4_camps_13 rfl ?_
  refine Z.if_eq (tgt := 28) (n := 17) dX4_camps_14 rfl rfl (fun c2 => ?_) (fun c2 => ?_)
  · rw [if_pos c2] at hf
    refine Z.aload_n (n := 29) dX4_camps_28 rfl rfl ?_
    refine Z.iload_n (n := 30) dX4_camps_29 rfl rfl ?_
    refine Z.iload_n (n := 31) dX4_camps_30 rfl rfl ?_
    refine Z.iload (n := 33) dX4_camps_31 rfl rfl ?_
    refine Z.aload_n (n := 34) dX4_camps_33 rfl rfl ?_
    refine Z.aload_n (n := 35) dX4_camps_34 rfl rfl ?_
    refine Z.iload_n (n := 36) dX4_camps_35 rfl rfl ?_
    obtain ⟨z3, ez3, hf⟩ := Option.bind_eq_some_iff.mp hf
    obtain ⟨q9, hq9, hu9⟩ := uS_X4_7_X4 hc
    refine Z.callU (n := 39) hu9 (ctX4_blockBits k he hc ez3) hJ.rm (Nat.le_of_ble_eq_true rfl) rfl rfl (Nat.le_refl _) (Nat.le_refl _) rfl (he _) hq9 (Nat.le_of_ble_eq_true rfl) rfl dX4_camps_36 rfl (fun v w hw => ?_)
    obtain ⟨rfl, rfl⟩ := hw
    show Z _ _ _ _ _ _ _ [.int z3.1, .int z1.1, .int l3, .int l2, .ref (a 1)] _
    obtain ⟨z4, ez4, hf⟩ := Option.bind_eq_some_iff.mp hf
    refine Z.callT (n := 42) vX4_13 (ctX5_joined ez4) hJ.rm (Nat.le_of_ble_eq_true rfl) rfl rfl (Nat.le_refl _) (Nat.le_refl _) rfl (Nat.le_of_ble_eq_true rfl) rfl dX4_camps_39 rfl (fun v w hw => ?_)
    obtain ⟨rfl, rfl⟩ := hw
    show Z _ _ _ _ _ _ _ [.int z4.1] _
    refine Z.fg [0, 1, 2, 3, 4] ?_
    exact zX4_camps_42 hJ k he hc _ _ hf
  · rw [if_neg c2] at hf
    refine Z.aload_n (n := 18) dX4_camps_17 rfl rfl ?_
    refine Z.iload_n (n := 19) dX4_camps_18 rfl rfl ?_
    refine Z.iload_n (n := 20) dX4_camps_19 rfl rfl ?_
    refine Z.iconst (n := 21) (v := 0) dX4_camps_20 rfl (by decide +kernel) ?_
    refine Z.iconst (n := 22) (v := 0) dX4_camps_21 rfl (by decide +kernel) ?_
    obtain ⟨z5, ez5, hf⟩ := Option.bind_eq_some_iff.mp hf
    refine Z.callT (n := 25) vX4_13 (ctX5_joined ez5) hJ.rm (Nat.le_of_ble_eq_true rfl) rfl rfl (Nat.le_refl _) (Nat.le_refl _) rfl (Nat.le_of_ble_eq_true rfl) rfl dX4_camps_22 rfl (fun v w hw => ?_)
    obtain ⟨rfl, rfl⟩ := hw
    show Z _ _ _ _ _ _ _ [.int z5.1] _
    refine Z.goto (tgt := 42) dX4_camps_25 rfl ?_
    refine Z.fg [0, 1, 2, 3, 4] ?_
    exact zX4_camps_42 hJ k he hc _ _ hf
def fX2_camps_53 (r : SR) (l4 : Int32) (s0 : Int32) (s1 : Int32) (s2 : Int32) (h : HT) : Option (Int32 × HT) :=
  Option.bind (fX5_joined s2 s1 s0 (l4 ^^^ (-1 : Int32)) h) fun z6 =>
  some (z6.1, z6.2)
set_option maxHeartbeats 4000000 in
theorem zX2_camps_53 {g : GP} {a : Nat → Nat} {P : PT} {J : JT} {z : Int32 × HT} {r : SR} (hJ : JX g 3 0 0 (PoI g a P z) J) (k : Nat) (he : At g a P k r) (hc : SCX2 r.1) (l4 : Int32) (s0 : Int32) (s1 : Int32) (s2 : Int32) (h : HT) (hf : fX2_camps_53 r l4 s0 s1 s2 h = some z) : Z g mX2_camps J 0 0 53 [none, none, none, none, some (.int l4)] [.int s0, .int s1, .int s2, .ref (a 1)] (WD g a h P) := by
  unfold fX2_camps_53 at hf
  refine Z.iload (n := 55) dX2_camps_53 rfl rfl ?_
  refine Z.iconst (n := 56) (v := -1) dX2_camps_55 rfl (by decide +kernel) ?_
  refine Z.ixor (n := 57) dX2_camps_56 rfl ?_
  obtain ⟨z6, ez6, hf⟩ := Option.bind_eq_some_iff.mp hf
  refine Z.callT (n := 60) vX2_27 (ctX5_joined ez6) hJ.rm (Nat.le_of_ble_eq_true rfl) rfl rfl (Nat.le_refl _) (Nat.le_refl _) rfl (Nat.le_of_ble_eq_true rfl) rfl dX2_camps_57 rfl (fun v w hw => ?_)
  obtain ⟨rfl, rfl⟩ := hw
  show Z _ _ _ _ _ _ _ [.int z6.1] _
  have hz := Option.some.inj hf
  subst hz
  exact Z.iret hJ dX2_camps_60 rfl (Nat.le_refl _) (Nat.le_refl _) ⟨rfl, rfl⟩
def fX2_camps (r : SR) (l2 : Int32) (l3 : Int32) (h : HT) : Option (Int32 × HT) :=
  Option.bind (fX4_blockBits r l2 h) fun z1 =>
  Option.bind (fX3_strengthOf z1.1 z1.2) fun z2 =>
  Option.bind (fX3_strengthOf (z2.2 1 1) z2.2) fun z3 =>
  if z3.1 < ((2 : Int32) * z2.1) then (if ((z1.1 >>> (l3 &&& 31)) &&& (1 : Int32)) = 0 then (fX2_camps_53 r z1.1 z1.1 l3 l2 z3.2)
  else (fX2_camps_53 r z1.1 0 l3 l2 z3.2))
  else (Option.bind (fX4_camps r l2 l3 z3.2) fun z7 =>
  some (z7.1, z7.2))
set_option maxHeartbeats 4000000 in
theorem ctX2_camps {g : GP} {a : Nat → Nat} {P : PT} {h : HT} {z : Int32 × HT} {r : SR} {l2 : Int32} {l3 : Int32} (k : Nat) (he : At g a P k r) (hc : SCX2 r.1) (hf : fX2_camps r l2 l3 h = some z) : Ct g 3 0 0 mX2_camps [.ref (a k), .ref (a 1), .int l2, .int l3] (WD g a h P) (PoI g a P z) := by
  refine Ct.of (by decide +kernel) (Nat.le_of_ble_eq_true rfl) fun J hJ => ?_
  show Z g mX2_camps J 0 0 0 [some (.ref (a k)), some (.ref (a 1)), some (.int l2), some (.int l3), none] [] (WD g a h P)
  unfold fX2_camps at hf
  refine Z.aload_n (n := 1) dX2_camps_0 rfl rfl ?_
  refine Z.aload_n (n := 2) dX2_camps_1 rfl rfl ?_
  refine Z.iload_n (n := 3) dX2_camps_2 rfl rfl ?_
  obtain ⟨z1, ez1, hf⟩ := Option.bind_eq_some_iff.mp hf
  obtain ⟨q9, hq9, hu9⟩ := uS_X2_7_X2 hc
  refine Z.callU (n := 6) hu9 (ctX4_blockBits k he (SCX2_X4 hc) ez1) hJ.rm (Nat.le_of_ble_eq_true rfl) rfl rfl (Nat.le_refl _) (Nat.le_refl _) rfl (he _) hq9 (Nat.le_of_ble_eq_true rfl) rfl dX2_camps_3 rfl (fun v w hw => ?_)
  obtain ⟨rfl, rfl⟩ := hw
  show Z _ _ _ _ _ _ _ [.int z1.1] _
  refine Z.istore (n := 8) dX2_camps_6 rfl (by decide) rfl ?_
  refine Z.iconst (n := 9) (v := 2) dX2_camps_8 rfl (by decide +kernel) ?_
  refine Z.aload_n (n := 10) dX2_camps_9 rfl rfl ?_
  refine Z.iload (n := 12) dX2_camps_10 rfl rfl ?_
  obtain ⟨z2, ez2, hf⟩ := Option.bind_eq_some_iff.mp hf
  refine Z.callV (n := 15) vX2_13 (ctX3_strengthOf ez2) hJ.rm (Nat.le_of_ble_eq_true rfl) rfl rfl (Nat.le_refl _) (Nat.le_refl _) rfl W1 rfl rfl (Nat.le_of_ble_eq_true rfl) rfl dX2_camps_12 rfl (fun v w hw => ?_)
  obtain ⟨rfl, rfl⟩ := hw
  show Z _ _ _ _ _ _ _ [.int z2.1, .int 2] _
  refine Z.imul (n := 16) dX2_camps_15 rfl ?_
  refine Z.aload_n (n := 17) dX2_camps_16 rfl rfl ?_
  refine Z.aload_n (n := 18) dX2_camps_17 rfl rfl ?_
  refine Z.getf (n := 21) fX2_19 dX2_camps_18 rfl W1 rfl ?_
  obtain ⟨z3, ez3, hf⟩ := Option.bind_eq_some_iff.mp hf
  refine Z.callV (n := 24) vX2_13 (ctX3_strengthOf ez3) hJ.rm (Nat.le_of_ble_eq_true rfl) rfl rfl (Nat.le_refl _) (Nat.le_refl _) rfl W1 rfl rfl (Nat.le_of_ble_eq_true rfl) rfl dX2_camps_21 rfl (fun v w hw => ?_)
  obtain ⟨rfl, rfl⟩ := hw
  show Z _ _ _ _ _ _ _ [.int z3.1, .int ((2 : Int32) * z2.1)] _
  refine Z.icmp_gt (tgt := 35) (n := 27) dX2_camps_24 rfl rfl (fun c4 => ?_) (fun c4 => ?_)
  · rw [if_pos c4] at hf
    refine Z.aload_n (n := 36) dX2_camps_35 rfl rfl ?_
    refine Z.iload_n (n := 37) dX2_camps_36 rfl rfl ?_
    refine Z.iload_n (n := 38) dX2_camps_37 rfl rfl ?_
    refine Z.iload (n := 40) dX2_camps_38 rfl rfl ?_
    refine Z.iload_n (n := 41) dX2_camps_40 rfl rfl ?_
    refine Z.ishr (n := 42) dX2_camps_41 rfl ?_
    refine Z.iconst (n := 43) (v := 1) dX2_camps_42 rfl (by decide +kernel) ?_
    refine Z.iand (n := 44) dX2_camps_43 rfl ?_
    refine Z.if_eq (tgt := 51) (n := 47) dX2_camps_44 rfl rfl (fun c5 => ?_) (fun c5 => ?_)
    · rw [if_pos c5] at hf
      refine Z.iload (n := 53) dX2_camps_51 rfl rfl ?_
      refine Z.fg [0, 1, 2, 3] ?_
      exact zX2_camps_53 hJ k he hc _ _ _ _ _ hf
    · rw [if_neg c5] at hf
      refine Z.iconst (n := 48) (v := 0) dX2_camps_47 rfl (by decide +kernel) ?_
      refine Z.goto (tgt := 53) dX2_camps_48 rfl ?_
      refine Z.fg [0, 1, 2, 3] ?_
      exact zX2_camps_53 hJ k he hc _ _ _ _ _ hf
  · rw [if_neg c4] at hf
    refine Z.aload_n (n := 28) dX2_camps_27 rfl rfl ?_
    refine Z.aload_n (n := 29) dX2_camps_28 rfl rfl ?_
    refine Z.iload_n (n := 30) dX2_camps_29 rfl rfl ?_
    refine Z.iload_n (n := 31) dX2_camps_30 rfl rfl ?_
    obtain ⟨z7, ez7, hf⟩ := Option.bind_eq_some_iff.mp hf
    obtain ⟨q9, hq9⟩ := SC_cl (SCX2_X5 hc)
    refine Z.callP (n := 34) vX2_23 (ctX4_camps k he (SCX2_X4 hc) ez7) hJ.rm (Nat.le_of_ble_eq_true rfl) rfl rfl (Nat.le_refl _) (Nat.le_refl _) rfl (he _) hq9 (Nat.le_of_ble_eq_true rfl) rfl dX2_camps_31 rfl (fun v w hw => ?_)
    obtain ⟨rfl, rfl⟩ := hw
    show Z _ _ _ _ _ _ _ [.int z7.1] _
    have hz := Option.some.inj hf
    subst hz
    exact Z.iret hJ dX2_camps_34 rfl (Nat.le_refl _) (Nat.le_refl _) ⟨rfl, rfl⟩
def fX5_camps (r : SR) (l2 : Int32) (l3 : Int32) (h : HT) : Option (Int32 × HT) :=
  Option.bind (fX5_joined l2 l3 85 42 h) fun z1 =>
  some (z1.1, z1.2)
set_option maxHeartbeats 4000000 in
theorem ctX5_camps {g : GP} {a : Nat → Nat} {P : PT} {h : HT} {z : Int32 × HT} {r : SR} {l2 : Int32} {l3 : Int32} (k : Nat) (he : At g a P k r) (hc : SCX5 r.1) (hf : fX5_camps r l2 l3 h = some z) : Ct g 2 0 0 mX5_camps [.ref (a k), .ref (a 1), .int l2, .int l3] (WD g a h P) (PoI g a P z) := by
  refine Ct.of (by decide +kernel) (Nat.le_of_ble_eq_true rfl) fun J hJ => ?_
  show Z g mX5_camps J 0 0 0 [some (.ref (a k)), some (.ref (a 1)), some (.int l2), some (.int l3)] [] (WD g a h P)
  unfold fX5_camps at hf
  refine Z.aload_n (n := 1) dX5_camps_0 rfl rfl ?_
  refine Z.iload_n (n := 2) dX5_camps_1 rfl rfl ?_
  refine Z.iload_n (n := 3) dX5_camps_2 rfl rfl ?_
  refine Z.bipush (n := 5) (v := 85) dX5_camps_3 rfl (by decide +kernel) ?_
  refine Z.bipush (n := 7) (v := 42) dX5_camps_5 rfl (by decide +kernel) ?_
  obtain ⟨z1, ez1, hf⟩ := Option.bind_eq_some_iff.mp hf
  refine Z.callS (n := 10) vX5_18 (ctX5_joined ez1) hJ.rm (Nat.le_of_ble_eq_true rfl) rfl rfl (Nat.le_refl _) (Nat.le_refl _) rfl (Nat.le_of_ble_eq_true rfl) rfl dX5_camps_7 rfl (fun v w hw => ?_)
  obtain ⟨rfl, rfl⟩ := hw
  show Z _ _ _ _ _ _ _ [.int z1.1] _
  have hz := Option.some.inj hf
  subst hz
  exact Z.iret hJ dX5_camps_10 rfl (Nat.le_refl _) (Nat.le_refl _) ⟨rfl, rfl⟩
def fX5_attackers (l0 : Int32) (h : HT) : Option (Int32 × HT) :=
  some (l0 &&& (127 : Int32), h)
set_option maxHeartbeats 4000000 in
theorem ctX5_attackers {g : GP} {a : Nat → Nat} {P : PT} {h : HT} {z : Int32 × HT} {l0 : Int32} (hf : fX5_attackers l0 h = some z) : Ct g 1 0 0 mX5_attackers [.int l0] (WD g a h P) (PoI g a P z) := by
  refine Ct.of (by decide +kernel) (Nat.le_of_ble_eq_true rfl) fun J hJ => ?_
  show Z g mX5_attackers J 0 0 0 [some (.int l0)] [] (WD g a h P)
  unfold fX5_attackers at hf
  refine Z.iload_n (n := 1) dX5_attackers_0 rfl rfl ?_
  refine Z.bipush (n := 3) (v := 127) dX5_attackers_1 rfl (by decide +kernel) ?_
  refine Z.iand (n := 4) dX5_attackers_3 rfl ?_
  have hz := Option.some.inj hf
  subst hz
  exact Z.iret hJ dX5_attackers_4 rfl (Nat.le_refl _) (Nat.le_refl _) ⟨rfl, rfl⟩
def fX7_keepers_51 (k5_ : Int32 → Int32 → Int32 → Int32 → HT → Option (Int32 × HT)) (l1 : Int32) (l2 : Int32) (l3 : Int32) (l4 : Int32) (h : HT) : Option (Int32 × HT) :=
  k5_ l1 l2 l3 (l4 + 1) h
set_option maxHeartbeats 4000000 in
theorem zX7_keepers_51 {g : GP} {a : Nat → Nat} {P : PT} {J : JT} {z : Int32 × HT} {k5_ : Int32 → Int32 → Int32 → Int32 → HT → Option (Int32 × HT)} (hJ : JX g 2 0 0 (PoI g a P z) J) (hk5 : ∀ (l1 : Int32) (l2 : Int32) (l3 : Int32) (l4 : Int32) (h : HT), k5_ l1 l2 l3 l4 h = some z → Z g mX7_keepers J 0 0 5 [some (.ref (a 1)), some (.int l1), some (.int l2), some (.int l3), some (.int l4)] [] (WD g a h P)) (l1 : Int32) (l2 : Int32) (l3 : Int32) (l4 : Int32) (h : HT) (hf : fX7_keepers_51 k5_ l1 l2 l3 l4 h = some z) : Z g mX7_keepers J 0 0 51 [some (.ref (a 1)), some (.int l1), some (.int l2), some (.int l3), some (.int l4)] [] (WD g a h P) := by
  unfold fX7_keepers_51 at hf
  refine Z.iinc (n := 54) (v := l4 + 1) dX7_keepers_51 rfl rfl rfl (by decide) rfl ?_
  refine Z.goto (tgt := 5) dX7_keepers_54 rfl ?_
  exact hk5 _ _ _ _ _ hf
def fX7_keepers_5 : Nat → Int32 → Int32 → Int32 → Int32 → HT → Option (Int32 × HT)
  | 0, _, _, _, _, _ => none
  | n + 1, l1, l2, l3, l4, h =>
  if (h 1 0) ≤ l4 then (some (l3, h))
  else (if ((l1 >>> (l4 &&& 31)) &&& (1 : Int32)) = 0 then (fX7_keepers_51 (fX7_keepers_5  n) l1 l2 l3 l4 h)
  else (Option.bind (fX10_costOf l4 l2 h) fun z3 =>
  if (z3.2 23 0) < z3.1 then (fX7_keepers_51 (fX7_keepers_5  n) l1 l2 l3 l4 z3.2)
  else (fX7_keepers_51 (fX7_keepers_5  n) l1 l2 (l3 ||| ((1 : Int32) <<< (l4 &&& 31))) l4 z3.2)))
set_option maxHeartbeats 4000000 in
theorem zX7_keepers_5 {g : GP} {a : Nat → Nat} {P : PT} {J : JT} {z : Int32 × HT} (hJ : JX g 2 0 0 (PoI g a P z) J) : ∀ (n : Nat) (l1 : Int32) (l2 : Int32) (l3 : Int32) (l4 : Int32) (h : HT), fX7_keepers_5 n l1 l2 l3 l4 h = some z → Z g mX7_keepers J 0 0 5 [some (.ref (a 1)), some (.int l1), some (.int l2), some (.int l3), some (.int l4)] [] (WD g a h P) := by
  intro n
  induction n with
  | zero =>
    intro _ _ _ _ _ hf
    cases hf
  | succ n ih =>
    intro l1 l2 l3 l4 h hf
    unfold fX7_keepers_5 at hf
    refine Z.iload (n := 7) dX7_keepers_5 rfl rfl ?_
    refine Z.aload_n (n := 8) dX7_keepers_7 rfl rfl ?_
    refine Z.getf (n := 11) fX7_27 dX7_keepers_8 rfl W1 rfl ?_
    refine Z.icmp_ge (tgt := 57) (n := 14) dX7_keepers_11 rfl rfl (fun c1 => ?_) (fun c1 => ?_)
    · rw [if_pos c1] at hf
      refine Z.iload_n (n := 58) dX7_keepers_57 rfl rfl ?_
      have hz := Option.some.inj hf
      subst hz
      exact Z.iret hJ dX7_keepers_58 rfl (Nat.le_refl _) (Nat.le_refl _) ⟨rfl, rfl⟩
    · rw [if_neg c1] at hf
      refine Z.iload_n (n := 15) dX7_keepers_14 rfl rfl ?_
      refine Z.iload (n := 17) dX7_keepers_15 rfl rfl ?_
      refine Z.ishr (n := 18) dX7_keepers_17 rfl ?_
      refine Z.iconst (n := 19) (v := 1) dX7_keepers_18 rfl (by decide +kernel) ?_
      refine Z.iand (n := 20) dX7_keepers_19 rfl ?_
      refine Z.if_eq (tgt := 51) (n := 23) dX7_keepers_20 rfl rfl (fun c2 => ?_) (fun c2 => ?_)
      · rw [if_pos c2] at hf
        exact zX7_keepers_51 hJ ih _ _ _ _ _ hf
      · rw [if_neg c2] at hf
        refine Z.aload_n (n := 24) dX7_keepers_23 rfl rfl ?_
        refine Z.getf (n := 27) fX7_33 dX7_keepers_24 rfl W1 rfl ?_
        refine Z.aload_n (n := 28) dX7_keepers_27 rfl rfl ?_
        refine Z.iload (n := 30) dX7_keepers_28 rfl rfl ?_
        refine Z.iload_n (n := 31) dX7_keepers_30 rfl rfl ?_
        obtain ⟨z3, ez3, hf⟩ := Option.bind_eq_some_iff.mp hf
        refine Z.callV (n := 34) vX7_37 (ctX10_costOf ez3) hJ.rm (Nat.le_of_ble_eq_true rfl) rfl rfl (Nat.le_refl _) (Nat.le_refl _) rfl W23 rfl rfl (Nat.le_of_ble_eq_true rfl) rfl dX7_keepers_31 rfl (fun v w hw => ?_)
        obtain ⟨rfl, rfl⟩ := hw
        show Z _ _ _ _ _ _ _ [.int z3.1] _
        refine Z.aload_n (n := 35) dX7_keepers_34 rfl rfl ?_
        refine Z.getf (n := 38) fX7_33 dX7_keepers_35 rfl W1 rfl ?_
        refine Z.getf (n := 41) fX7_42 dX7_keepers_38 rfl W23 rfl ?_
        refine Z.icmp_gt (tgt := 51) (n := 44) dX7_keepers_41 rfl rfl (fun c4 => ?_) (fun c4 => ?_)
        · rw [if_pos c4] at hf
          exact zX7_keepers_51 hJ ih _ _ _ _ _ hf
        · rw [if_neg c4] at hf
          refine Z.iload_n (n := 45) dX7_keepers_44 rfl rfl ?_
          refine Z.iconst (n := 46) (v := 1) dX7_keepers_45 rfl (by decide +kernel) ?_
          refine Z.iload (n := 48) dX7_keepers_46 rfl rfl ?_
          refine Z.ishl (n := 49) dX7_keepers_48 rfl ?_
          refine Z.ior (n := 50) dX7_keepers_49 rfl ?_
          refine Z.istore_n (n := 51) dX7_keepers_50 rfl (by decide) rfl ?_
          exact zX7_keepers_51 hJ ih _ _ _ _ _ hf
def fX7_keepers (l1 : Int32) (l2 : Int32) (h : HT) : Option (Int32 × HT) :=
  fX7_keepers_5 1000 l1 l2 0 0 h
set_option maxHeartbeats 4000000 in
theorem ctX7_keepers {g : GP} {a : Nat → Nat} {P : PT} {h : HT} {z : Int32 × HT} {l1 : Int32} {l2 : Int32} (hf : fX7_keepers l1 l2 h = some z) : Ct g 2 0 0 mX7_keepers [.ref (a 1), .int l1, .int l2] (WD g a h P) (PoI g a P z) := by
  refine Ct.of (by decide +kernel) (Nat.le_of_ble_eq_true rfl) fun J hJ => ?_
  show Z g mX7_keepers J 0 0 0 [some (.ref (a 1)), some (.int l1), some (.int l2), none, none] [] (WD g a h P)
  unfold fX7_keepers at hf
  refine Z.iconst (n := 1) (v := 0) dX7_keepers_0 rfl (by decide +kernel) ?_
  refine Z.istore_n (n := 2) dX7_keepers_1 rfl (by decide) rfl ?_
  refine Z.iconst (n := 3) (v := 0) dX7_keepers_2 rfl (by decide +kernel) ?_
  refine Z.istore (n := 5) dX7_keepers_3 rfl (by decide) rfl ?_
  exact zX7_keepers_5 hJ _ _ _ _ _ _ hf
def fX5_defenders (l0 : Int32) (h : HT) : Option (Int32 × HT) :=
  some ((l0 >>> ((8 : Int32) &&& 31)) &&& (127 : Int32), h)
set_option maxHeartbeats 4000000 in
theorem ctX5_defenders {g : GP} {a : Nat → Nat} {P : PT} {h : HT} {z : Int32 × HT} {l0 : Int32} (hf : fX5_defenders l0 h = some z) : Ct g 1 0 0 mX5_defenders [.int l0] (WD g a h P) (PoI g a P z) := by
  refine Ct.of (by decide +kernel) (Nat.le_of_ble_eq_true rfl) fun J hJ => ?_
  show Z g mX5_defenders J 0 0 0 [some (.int l0)] [] (WD g a h P)
  unfold fX5_defenders at hf
  refine Z.iload_n (n := 1) dX5_defenders_0 rfl rfl ?_
  refine Z.bipush (n := 3) (v := 8) dX5_defenders_1 rfl (by decide +kernel) ?_
  refine Z.ishr (n := 4) dX5_defenders_3 rfl ?_
  refine Z.bipush (n := 6) (v := 127) dX5_defenders_4 rfl (by decide +kernel) ?_
  refine Z.iand (n := 7) dX5_defenders_6 rfl ?_
  have hz := Option.some.inj hf
  subst hz
  exact Z.iret hJ dX5_defenders_7 rfl (Nat.le_refl _) (Nat.le_refl _) ⟨rfl, rfl⟩
def fX7_camps (r : SR) (l2 : Int32) (l3 : Int32) (h : HT) : Option (Int32 × HT) :=
  Option.bind (fX9_camps r l2 l3 h) fun z1 =>
  Option.bind (fX5_attackers z1.1 z1.2) fun z2 =>
  Option.bind (fX7_keepers z2.1 l3 z2.2) fun z3 =>
  Option.bind (fX5_defenders z1.1 z3.2) fun z4 =>
  Option.bind (fX7_keepers z4.1 l2 z4.2) fun z5 =>
  Option.bind (fX5_joined l2 l3 z3.1 z5.1 z5.2) fun z6 =>
  some (z6.1, z6.2)
set_option maxHeartbeats 4000000 in
theorem ctX7_camps {g : GP} {a : Nat → Nat} {P : PT} {h : HT} {z : Int32 × HT} {r : SR} {l2 : Int32} {l3 : Int32} (k : Nat) (he : At g a P k r) (hc : SCX7 r.1) (hf : fX7_camps r l2 l3 h = some z) : Ct g 3 0 0 mX7_camps [.ref (a k), .ref (a 1), .int l2, .int l3] (WD g a h P) (PoI g a P z) := by
  refine Ct.of (by decide +kernel) (Nat.le_of_ble_eq_true rfl) fun J hJ => ?_
  show Z g mX7_camps J 0 0 0 [some (.ref (a k)), some (.ref (a 1)), some (.int l2), some (.int l3), none] [] (WD g a h P)
  unfold fX7_camps at hf
  refine Z.aload_n (n := 1) dX7_camps_0 rfl rfl ?_
  refine Z.aload_n (n := 2) dX7_camps_1 rfl rfl ?_
  refine Z.iload_n (n := 3) dX7_camps_2 rfl rfl ?_
  refine Z.iload_n (n := 4) dX7_camps_3 rfl rfl ?_
  obtain ⟨z1, ez1, hf⟩ := Option.bind_eq_some_iff.mp hf
  obtain ⟨q9, hq9⟩ := SC_cl (SCX7_X5 hc)
  refine Z.callP (n := 7) vX7_7 (ctX9_camps k he (SCX7_X9 hc) ez1) hJ.rm (Nat.le_of_ble_eq_true rfl) rfl rfl (Nat.le_refl _) (Nat.le_refl _) rfl (he _) hq9 (Nat.le_of_ble_eq_true rfl) rfl dX7_camps_4 rfl (fun v w hw => ?_)
  obtain ⟨rfl, rfl⟩ := hw
  show Z _ _ _ _ _ _ _ [.int z1.1] _
  refine Z.istore (n := 9) dX7_camps_7 rfl (by decide) rfl ?_
  refine Z.aload_n (n := 10) dX7_camps_9 rfl rfl ?_
  refine Z.iload_n (n := 11) dX7_camps_10 rfl rfl ?_
  refine Z.iload_n (n := 12) dX7_camps_11 rfl rfl ?_
  refine Z.aload_n (n := 13) dX7_camps_12 rfl rfl ?_
  refine Z.iload (n := 15) dX7_camps_13 rfl rfl ?_
  obtain ⟨z2, ez2, hf⟩ := Option.bind_eq_some_iff.mp hf
  refine Z.callT (n := 18) vX7_11 (ctX5_attackers ez2) hJ.rm (Nat.le_of_ble_eq_true rfl) rfl rfl (Nat.le_refl _) (Nat.le_refl _) rfl (Nat.le_of_ble_eq_true rfl) rfl dX7_camps_15 rfl (fun v w hw => ?_)
  obtain ⟨rfl, rfl⟩ := hw
  show Z _ _ _ _ _ _ _ [.int z2.1, .ref (a 1), .int l3, .int l2, .ref (a 1)] _
  refine Z.iload_n (n := 19) dX7_camps_18 rfl rfl ?_
  obtain ⟨z3, ez3, hf⟩ := Option.bind_eq_some_iff.mp hf
  refine Z.callS (n := 22) vX7_17 (ctX7_keepers ez3) hJ.rm (Nat.le_of_ble_eq_true rfl) rfl rfl (Nat.le_refl _) (Nat.le_refl _) rfl (Nat.le_of_ble_eq_true rfl) rfl dX7_camps_19 rfl (fun v w hw => ?_)
  obtain ⟨rfl, rfl⟩ := hw
  show Z _ _ _ _ _ _ _ [.int z3.1, .int l3, .int l2, .ref (a 1)] _
  refine Z.aload_n (n := 23) dX7_camps_22 rfl rfl ?_
  refine Z.iload (n := 25) dX7_camps_23 rfl rfl ?_
  obtain ⟨z4, ez4, hf⟩ := Option.bind_eq_some_iff.mp hf
  refine Z.callT (n := 28) vX7_20 (ctX5_defenders ez4) hJ.rm (Nat.le_of_ble_eq_true rfl) rfl rfl (Nat.le_refl _) (Nat.le_refl _) rfl (Nat.le_of_ble_eq_true rfl) rfl dX7_camps_25 rfl (fun v w hw => ?_)
  obtain ⟨rfl, rfl⟩ := hw
  show Z _ _ _ _ _ _ _ [.int z4.1, .ref (a 1), .int z3.1, .int l3, .int l2, .ref (a 1)] _
  refine Z.iload_n (n := 29) dX7_camps_28 rfl rfl ?_
  obtain ⟨z5, ez5, hf⟩ := Option.bind_eq_some_iff.mp hf
  refine Z.callS (n := 32) vX7_17 (ctX7_keepers ez5) hJ.rm (Nat.le_of_ble_eq_true rfl) rfl rfl (Nat.le_refl _) (Nat.le_refl _) rfl (Nat.le_of_ble_eq_true rfl) rfl dX7_camps_29 rfl (fun v w hw => ?_)
  obtain ⟨rfl, rfl⟩ := hw
  show Z _ _ _ _ _ _ _ [.int z5.1, .int z3.1, .int l3, .int l2, .ref (a 1)] _
  obtain ⟨z6, ez6, hf⟩ := Option.bind_eq_some_iff.mp hf
  refine Z.callT (n := 35) vX7_23 (ctX5_joined ez6) hJ.rm (Nat.le_of_ble_eq_true rfl) rfl rfl (Nat.le_refl _) (Nat.le_refl _) rfl (Nat.le_of_ble_eq_true rfl) rfl dX7_camps_32 rfl (fun v w hw => ?_)
  obtain ⟨rfl, rfl⟩ := hw
  show Z _ _ _ _ _ _ _ [.int z6.1] _
  have hz := Option.some.inj hf
  subst hz
  exact Z.iret hJ dX7_camps_35 rfl (Nat.le_refl _) (Nat.le_refl _) ⟨rfl, rfl⟩
def fv_camps (r : SR) (l2 l3 : Int32) (h : HT) : Option (Int32 × HT) :=
  if r.1 = 0 then fX0_camps r l2 l3 h else if r.1 = 1 then fX1_camps r l2 l3 h else if r.1 = 2 then fX2_camps r l2 l3 h else if r.1 = 4 then fX4_camps r l2 l3 h else if r.1 = 5 then fX5_camps r l2 l3 h else if r.1 = 7 then fX7_camps r l2 l3 h else if r.1 = 9 then fX9_camps r l2 l3 h else none
theorem dv_X5_31_X5 {g : GP} {a : Nat → Nat} {P : PT} {r : SR} (k : Nat) (he : At g a P k r) (hc : SCX5 r.1) {l2 l3 : Int32} {h : HT} {z : Int32 × HT} (hf : fv_camps r l2 l3 h = some z) : ∃ (M9 : MI) (q : vw_C) (d9 : Nat), vwCl[r.1]? = some q ∧ d9 ≤ 3 ∧ CU RX5 31 q.1 M9 3 ∧ Ct g d9 0 0 M9 [.ref (a k), .ref (a 1), .int l2, .int l3] (WD g a h P) (PoI g a P z) := by
  obtain ⟨c, nu, v⟩ := r
  have hc : SCX5 c := hc
  rcases hc with rfl | rfl | rfl | rfl | rfl | rfl | rfl
  · exact ⟨mX0_camps, _, 2, rfl, by decide, uX5_31_X0, ctX0_camps k he rfl hf⟩
  · exact ⟨mX1_camps, _, 3, rfl, by decide, uX5_31_X1, ctX1_camps k he rfl hf⟩
  · exact ⟨mX2_camps, _, 3, rfl, by decide, uX5_31_X2, ctX2_camps k he rfl hf⟩
  · exact ⟨mX4_camps, _, 2, rfl, by decide, uX5_31_X4, ctX4_camps k he scX4_4 hf⟩
  · exact ⟨mX5_camps, _, 2, rfl, by decide, uX5_31_X5, ctX5_camps k he scX5_5 hf⟩
  · exact ⟨mX7_camps, _, 3, rfl, by decide, uX5_31_X7, ctX7_camps k he rfl hf⟩
  · exact ⟨mX9_camps, _, 2, rfl, by decide, uX5_31_X9, ctX9_camps k he scX9_9 hf⟩
def fX5_gains_85 (r : SR) (s0 : Int32) (h : HT) : Option (Int32 × HT) :=
  Option.bind (cb s0) fun u12 =>
  some (s0, h)
set_option maxHeartbeats 4000000 in
theorem zX5_gains_85 {g : GP} {a : Nat → Nat} {P : PT} {J : JT} {z : Int32 × HT} {r : SR} (hJ : JX g 4 0 0 (PoI g a P z) J) (k : Nat) (he : At g a P k r) (hc : SCX5 r.1) (s0 : Int32) (h : HT) (hf : fX5_gains_85 r s0 h = some z) : Z g mX5_gains J 0 0 85 [none, none, none, none, none, none] [.int s0] (WD g a h P) := by
  unfold fX5_gains_85 at hf
  obtain ⟨u12, eu12, hf⟩ := Option.bind_eq_some_iff.mp hf
  have hz := Option.some.inj hf
  subst hz
  exact Z.zret hJ dX5_gains_85 rfl (cb_nar eu12) (Nat.le_refl _) (Nat.le_refl _) ⟨rfl, rfl⟩
def fX5_gains_84 (r : SR) (h : HT) : Option (Int32 × HT) :=
  fX5_gains_85 r 0 h
set_option maxHeartbeats 4000000 in
theorem zX5_gains_84 {g : GP} {a : Nat → Nat} {P : PT} {J : JT} {z : Int32 × HT} {r : SR} (hJ : JX g 4 0 0 (PoI g a P z) J) (k : Nat) (he : At g a P k r) (hc : SCX5 r.1) (h : HT) (hf : fX5_gains_84 r h = some z) : Z g mX5_gains J 0 0 84 [none, none, none, none, none, none] [] (WD g a h P) := by
  unfold fX5_gains_84 at hf
  refine Z.iconst (n := 85) (v := 0) dX5_gains_84 rfl (by decide +kernel) ?_
  exact zX5_gains_85 hJ k he hc _ _ hf
def fX5_gains (r : SR) (l2 : Int32) (l3 : Int32) (h : HT) : Option (Int32 × HT) :=
  Option.bind (ck 7 l3) fun j1 =>
  Option.bind (ck 7 l2) fun j2 =>
  if (h (6 + j1) j2) = 0 then (some (0, h))
  else (Option.bind (fv_camps r l2 l3 h) fun z4 =>
  Option.bind (fX5_attackers z4.1 z4.2) fun z5 =>
  Option.bind (ck 7 l3) fun j6 =>
  Option.bind (fX3_forcesAt z5.1 (z5.2 3 j6) z5.2) fun z7 =>
  Option.bind (fX5_defenders z4.1 z7.2) fun z8 =>
  Option.bind (ck 7 l3) fun j9 =>
  Option.bind (fX3_forcesAt z8.1 (z8.2 3 j9) z8.2) fun z10 =>
  if z7.1 ≤ z10.1 then (fX5_gains_84 r z10.2)
  else (Option.bind (ck 7 l3) fun j13 =>
  Option.bind (ck 7 l2) fun j14 =>
  Option.bind (fX10_costOf l2 l3 z10.2) fun z15 =>
  if (z10.2 (6 + j13) j14) ≤ z15.1 then (fX5_gains_84 r z15.2)
  else (fX5_gains_85 r 1 z15.2)))
set_option maxHeartbeats 4000000 in
theorem ctX5_gains {g : GP} {a : Nat → Nat} {P : PT} {h : HT} {z : Int32 × HT} {r : SR} {l2 : Int32} {l3 : Int32} (k : Nat) (he : At g a P k r) (hc : SCX5 r.1) (hf : fX5_gains r l2 l3 h = some z) : Ct g 4 0 0 mX5_gains [.ref (a k), .ref (a 1), .int l2, .int l3] (WD g a h P) (PoI g a P z) := by
  refine Ct.of (by decide +kernel) (Nat.le_of_ble_eq_true rfl) fun J hJ => ?_
  show Z g mX5_gains J 0 0 0 [some (.ref (a k)), some (.ref (a 1)), some (.int l2), some (.int l3), none, none] [] (WD g a h P)
  unfold fX5_gains at hf
  refine Z.aload_n (n := 1) dX5_gains_0 rfl rfl ?_
  refine Z.getf (n := 4) fX5_27 dX5_gains_1 rfl W1 rfl ?_
  refine Z.iload_n (n := 5) dX5_gains_4 rfl rfl ?_
  obtain ⟨j1, ej1, hf⟩ := Option.bind_eq_some_iff.mp hf
  obtain ⟨hij1, hlj1⟩ := ck_spec ej1
  refine Z.aald (j := j1) (ty := 3) (n := 6) dX5_gains_5 rfl W5 rfl rfl hij1 hlj1 (by decide) ?_
  rw [if_pos hlj1]
  show Z _ _ _ _ _ _ _ (.ref (a (6 + j1)) :: _) _
  refine Z.iload_n (n := 7) dX5_gains_6 rfl rfl ?_
  obtain ⟨j2, ej2, hf⟩ := Option.bind_eq_some_iff.mp hf
  obtain ⟨hij2, hlj2⟩ := ck_spec ej2
  refine Z.iald (j := j2) (n := 8) dX5_gains_7 rfl (Wwo (r := j1) hlj1) hij2 hlj2 (by decide) ?_
  refine Z.if_ne (tgt := 13) (n := 11) dX5_gains_8 rfl rfl (fun c3 => ?_) (fun c3 => ?_)
  · rw [if_neg c3] at hf
    refine Z.aload_n (n := 14) dX5_gains_13 rfl rfl ?_
    refine Z.aload_n (n := 15) dX5_gains_14 rfl rfl ?_
    refine Z.iload_n (n := 16) dX5_gains_15 rfl rfl ?_
    refine Z.iload_n (n := 17) dX5_gains_16 rfl rfl ?_
    obtain ⟨z4, ez4, hf⟩ := Option.bind_eq_some_iff.mp hf
    obtain ⟨M9, q9, d9, hq9, hd9, hu9, hC9⟩ := dv_X5_31_X5 (g := g) (a := a) (P := P) k he hc ez4
    refine Z.callU (n := 20) hu9 hC9 hJ.rm (by omega) rfl rfl (Nat.le_refl _) (Nat.le_refl _) rfl (he _) hq9 (Nat.le_of_ble_eq_true rfl) rfl dX5_gains_17 rfl (fun v w hw => ?_)
    obtain ⟨rfl, rfl⟩ := hw
    show Z _ _ _ _ _ _ _ [.int z4.1] _
    refine Z.istore (n := 22) dX5_gains_20 rfl (by decide) rfl ?_
    refine Z.aload_n (n := 23) dX5_gains_22 rfl rfl ?_
    refine Z.iload (n := 25) dX5_gains_23 rfl rfl ?_
    obtain ⟨z5, ez5, hf⟩ := Option.bind_eq_some_iff.mp hf
    refine Z.callS (n := 28) vX5_35 (ctX5_attackers ez5) hJ.rm (Nat.le_of_ble_eq_true rfl) rfl rfl (Nat.le_refl _) (Nat.le_refl _) rfl (Nat.le_of_ble_eq_true rfl) rfl dX5_gains_25 rfl (fun v w hw => ?_)
    obtain ⟨rfl, rfl⟩ := hw
    show Z _ _ _ _ _ _ _ [.int z5.1, .ref (a 1)] _
    refine Z.aload_n (n := 29) dX5_gains_28 rfl rfl ?_
    refine Z.getf (n := 32) fX5_39 dX5_gains_29 rfl W1 rfl ?_
    refine Z.iload_n (n := 33) dX5_gains_32 rfl rfl ?_
    obtain ⟨j6, ej6, hf⟩ := Option.bind_eq_some_iff.mp hf
    obtain ⟨hij6, hlj6⟩ := ck_spec ej6
    refine Z.iald (j := j6) (n := 34) dX5_gains_33 rfl W3 hij6 hlj6 (by decide) ?_
    obtain ⟨z7, ez7, hf⟩ := Option.bind_eq_some_iff.mp hf
    refine Z.callV (n := 37) vX5_43 (ctX3_forcesAt ez7) hJ.rm (Nat.le_of_ble_eq_true rfl) rfl rfl (Nat.le_refl _) (Nat.le_refl _) rfl W1 rfl rfl (Nat.le_of_ble_eq_true rfl) rfl dX5_gains_34 rfl (fun v w hw => ?_)
    obtain ⟨rfl, rfl⟩ := hw
    show Z _ _ _ _ _ _ _ [.int z7.1] _
    refine Z.istore (n := 39) dX5_gains_37 rfl (by decide) rfl ?_
    refine Z.iload (n := 41) dX5_gains_39 rfl rfl ?_
    refine Z.aload_n (n := 42) dX5_gains_41 rfl rfl ?_
    refine Z.iload (n := 44) dX5_gains_42 rfl rfl ?_
    obtain ⟨z8, ez8, hf⟩ := Option.bind_eq_some_iff.mp hf
    refine Z.callS (n := 47) vX5_47 (ctX5_defenders ez8) hJ.rm (Nat.le_of_ble_eq_true rfl) rfl rfl (Nat.le_refl _) (Nat.le_refl _) rfl (Nat.le_of_ble_eq_true rfl) rfl dX5_gains_44 rfl (fun v w hw => ?_)
    obtain ⟨rfl, rfl⟩ := hw
    show Z _ _ _ _ _ _ _ [.int z8.1, .ref (a 1), .int z7.1] _
    refine Z.aload_n (n := 48) dX5_gains_47 rfl rfl ?_
    refine Z.getf (n := 51) fX5_39 dX5_gains_48 rfl W1 rfl ?_
    refine Z.iload_n (n := 52) dX5_gains_51 rfl rfl ?_
    obtain ⟨j9, ej9, hf⟩ := Option.bind_eq_some_iff.mp hf
    obtain ⟨hij9, hlj9⟩ := ck_spec ej9
    refine Z.iald (j := j9) (n := 53) dX5_gains_52 rfl W3 hij9 hlj9 (by decide) ?_
    obtain ⟨z10, ez10, hf⟩ := Option.bind_eq_some_iff.mp hf
    refine Z.callV (n := 56) vX5_43 (ctX3_forcesAt ez10) hJ.rm (Nat.le_of_ble_eq_true rfl) rfl rfl (Nat.le_refl _) (Nat.le_refl _) rfl W1 rfl rfl (Nat.le_of_ble_eq_true rfl) rfl dX5_gains_53 rfl (fun v w hw => ?_)
    obtain ⟨rfl, rfl⟩ := hw
    show Z _ _ _ _ _ _ _ [.int z10.1, .int z7.1] _
    refine Z.icmp_le (tgt := 84) (n := 59) dX5_gains_56 rfl rfl (fun c11 => ?_) (fun c11 => ?_)
    · rw [if_pos c11] at hf
      refine Z.fg [0, 1, 2, 3, 4, 5] ?_
      exact zX5_gains_84 hJ k he hc _ hf
    · rw [if_neg c11] at hf
      refine Z.aload_n (n := 60) dX5_gains_59 rfl rfl ?_
      refine Z.getf (n := 63) fX5_27 dX5_gains_60 rfl W1 rfl ?_
      refine Z.iload_n (n := 64) dX5_gains_63 rfl rfl ?_
      obtain ⟨j13, ej13, hf⟩ := Option.bind_eq_some_iff.mp hf
      obtain ⟨hij13, hlj13⟩ := ck_spec ej13
      refine Z.aald (j := j13) (ty := 3) (n := 65) dX5_gains_64 rfl W5 rfl rfl hij13 hlj13 (by decide) ?_
      rw [if_pos hlj13]
      show Z _ _ _ _ _ _ _ (.ref (a (6 + j13)) :: _) _
      refine Z.iload_n (n := 66) dX5_gains_65 rfl rfl ?_
      obtain ⟨j14, ej14, hf⟩ := Option.bind_eq_some_iff.mp hf
      obtain ⟨hij14, hlj14⟩ := ck_spec ej14
      refine Z.iald (j := j14) (n := 67) dX5_gains_66 rfl (Wwo (r := j13) hlj13) hij14 hlj14 (by decide) ?_
      refine Z.aload_n (n := 68) dX5_gains_67 rfl rfl ?_
      refine Z.getf (n := 71) fX5_50 dX5_gains_68 rfl W1 rfl ?_
      refine Z.aload_n (n := 72) dX5_gains_71 rfl rfl ?_
      refine Z.iload_n (n := 73) dX5_gains_72 rfl rfl ?_
      refine Z.iload_n (n := 74) dX5_gains_73 rfl rfl ?_
      obtain ⟨z15, ez15, hf⟩ := Option.bind_eq_some_iff.mp hf
      refine Z.callV (n := 77) vX5_54 (ctX10_costOf ez15) hJ.rm (Nat.le_of_ble_eq_true rfl) rfl rfl (Nat.le_refl _) (Nat.le_refl _) rfl W23 rfl rfl (Nat.le_of_ble_eq_true rfl) rfl dX5_gains_74 rfl (fun v w hw => ?_)
      obtain ⟨rfl, rfl⟩ := hw
      show Z _ _ _ _ _ _ _ [.int z15.1, .int (z10.2 (6 + j13) j14)] _
      refine Z.icmp_le (tgt := 84) (n := 80) dX5_gains_77 rfl rfl (fun c16 => ?_) (fun c16 => ?_)
      · rw [if_pos c16] at hf
        refine Z.fg [0, 1, 2, 3, 4, 5] ?_
        exact zX5_gains_84 hJ k he hc _ hf
      · rw [if_neg c16] at hf
        refine Z.iconst (n := 81) (v := 1) dX5_gains_80 rfl (by decide +kernel) ?_
        refine Z.goto (tgt := 85) dX5_gains_81 rfl ?_
        refine Z.fg [0, 1, 2, 3, 4, 5] ?_
        exact zX5_gains_85 hJ k he hc _ _ hf
  · rw [if_pos c3] at hf
    refine Z.iconst (n := 12) (v := 0) dX5_gains_11 rfl (by decide +kernel) ?_
    have hz := Option.some.inj hf
    subst hz
    exact Z.zret hJ dX5_gains_12 rfl rfl (Nat.le_refl _) (Nat.le_refl _) ⟨rfl, rfl⟩
def fX5_prey_55 (r : SR) (k5_ : Int32 → Int32 → Int32 → HT → Option (Int32 × HT)) (l2 : Int32) (l3 : Int32) (l4 : Int32) (h : HT) : Option (Int32 × HT) :=
  k5_ l2 l3 (l4 + 1) h
set_option maxHeartbeats 4000000 in
theorem zX5_prey_55 {g : GP} {a : Nat → Nat} {P : PT} {J : JT} {z : Int32 × HT} {r : SR} {k5_ : Int32 → Int32 → Int32 → HT → Option (Int32 × HT)} (hJ : JX g 5 0 0 (PoI g a P z) J) (k : Nat) (he : At g a P k r) (hc : SCX5 r.1) (hk5 : ∀ (l2 : Int32) (l3 : Int32) (l4 : Int32) (h : HT), k5_ l2 l3 l4 h = some z → Z g mX5_prey J 0 0 5 [some (.ref (a k)), some (.ref (a 1)), some (.int l2), some (.int l3), some (.int l4)] [] (WD g a h P)) (l2 : Int32) (l3 : Int32) (l4 : Int32) (h : HT) (hf : fX5_prey_55 r k5_ l2 l3 l4 h = some z) : Z g mX5_prey J 0 0 55 [some (.ref (a k)), some (.ref (a 1)), some (.int l2), some (.int l3), some (.int l4)] [] (WD g a h P) := by
  unfold fX5_prey_55 at hf
  refine Z.iinc (n := 58) (v := l4 + 1) dX5_prey_55 rfl rfl rfl (by decide) rfl ?_
  refine Z.goto (tgt := 5) dX5_prey_58 rfl ?_
  exact hk5 _ _ _ _ hf
def fX5_prey_5 (r : SR) : Nat → Int32 → Int32 → Int32 → HT → Option (Int32 × HT)
  | 0, _, _, _, _ => none
  | n + 1, l2, l3, l4, h =>
  if (h 1 0) ≤ l4 then (some (l3, h))
  else (if l2 = l4 then (fX5_prey_55 r (fX5_prey_5 r  n) l2 l3 l4 h)
  else (Option.bind (fX3_lives l2 h) fun z3 =>
  if z3.1 = 0 then (fX5_prey_55 r (fX5_prey_5 r  n) l2 l3 l4 z3.2)
  else (Option.bind (fX3_lives l4 z3.2) fun z5 =>
  if z5.1 = 0 then (fX5_prey_55 r (fX5_prey_5 r  n) l2 l3 l4 z5.2)
  else (Option.bind (fX5_gains r l2 l4 z5.2) fun z7 =>
  if z7.1 = 0 then (fX5_prey_55 r (fX5_prey_5 r  n) l2 l3 l4 z7.2)
  else (fX5_prey_55 r (fX5_prey_5 r  n) l2 (l3 ||| ((1 : Int32) <<< (l4 &&& 31))) l4 z7.2)))))
set_option maxHeartbeats 4000000 in
theorem zX5_prey_5 {g : GP} {a : Nat → Nat} {P : PT} {J : JT} {z : Int32 × HT} {r : SR} (hJ : JX g 5 0 0 (PoI g a P z) J) (k : Nat) (he : At g a P k r) (hc : SCX5 r.1) : ∀ (n : Nat) (l2 : Int32) (l3 : Int32) (l4 : Int32) (h : HT), fX5_prey_5 r n l2 l3 l4 h = some z → Z g mX5_prey J 0 0 5 [some (.ref (a k)), some (.ref (a 1)), some (.int l2), some (.int l3), some (.int l4)] [] (WD g a h P) := by
  intro n
  induction n with
  | zero =>
    intro _ _ _ _ hf
    cases hf
  | succ n ih =>
    intro l2 l3 l4 h hf
    unfold fX5_prey_5 at hf
    refine Z.iload (n := 7) dX5_prey_5 rfl rfl ?_
    refine Z.aload_n (n := 8) dX5_prey_7 rfl rfl ?_
    refine Z.getf (n := 11) fX5_59 dX5_prey_8 rfl W1 rfl ?_
    refine Z.icmp_ge (tgt := 61) (n := 14) dX5_prey_11 rfl rfl (fun c1 => ?_) (fun c1 => ?_)
    · rw [if_pos c1] at hf
      refine Z.iload_n (n := 62) dX5_prey_61 rfl rfl ?_
      have hz := Option.some.inj hf
      subst hz
      exact Z.iret hJ dX5_prey_62 rfl (Nat.le_refl _) (Nat.le_refl _) ⟨rfl, rfl⟩
    · rw [if_neg c1] at hf
      refine Z.iload_n (n := 15) dX5_prey_14 rfl rfl ?_
      refine Z.iload (n := 17) dX5_prey_15 rfl rfl ?_
      refine Z.icmp_eq (tgt := 55) (n := 20) dX5_prey_17 rfl rfl (fun c2 => ?_) (fun c2 => ?_)
      · rw [if_pos c2] at hf
        exact zX5_prey_55 hJ k he hc ih _ _ _ _ hf
      · rw [if_neg c2] at hf
        refine Z.aload_n (n := 21) dX5_prey_20 rfl rfl ?_
        refine Z.iload_n (n := 22) dX5_prey_21 rfl rfl ?_
        obtain ⟨z3, ez3, hf⟩ := Option.bind_eq_some_iff.mp hf
        refine Z.callV (n := 25) vX5_62 (ctX3_lives ez3) hJ.rm (Nat.le_of_ble_eq_true rfl) rfl rfl (Nat.le_refl _) (Nat.le_refl _) rfl W1 rfl rfl (Nat.le_of_ble_eq_true rfl) rfl dX5_prey_22 rfl (fun v w hw => ?_)
        obtain ⟨rfl, rfl⟩ := hw
        show Z _ _ _ _ _ _ _ [.int z3.1] _
        refine Z.if_eq (tgt := 55) (n := 28) dX5_prey_25 rfl rfl (fun c4 => ?_) (fun c4 => ?_)
        · rw [if_pos c4] at hf
          exact zX5_prey_55 hJ k he hc ih _ _ _ _ hf
        · rw [if_neg c4] at hf
          refine Z.aload_n (n := 29) dX5_prey_28 rfl rfl ?_
          refine Z.iload (n := 31) dX5_prey_29 rfl rfl ?_
          obtain ⟨z5, ez5, hf⟩ := Option.bind_eq_some_iff.mp hf
          refine Z.callV (n := 34) vX5_62 (ctX3_lives ez5) hJ.rm (Nat.le_of_ble_eq_true rfl) rfl rfl (Nat.le_refl _) (Nat.le_refl _) rfl W1 rfl rfl (Nat.le_of_ble_eq_true rfl) rfl dX5_prey_31 rfl (fun v w hw => ?_)
          obtain ⟨rfl, rfl⟩ := hw
          show Z _ _ _ _ _ _ _ [.int z5.1] _
          refine Z.if_eq (tgt := 55) (n := 37) dX5_prey_34 rfl rfl (fun c6 => ?_) (fun c6 => ?_)
          · rw [if_pos c6] at hf
            exact zX5_prey_55 hJ k he hc ih _ _ _ _ hf
          · rw [if_neg c6] at hf
            refine Z.aload_n (n := 38) dX5_prey_37 rfl rfl ?_
            refine Z.aload_n (n := 39) dX5_prey_38 rfl rfl ?_
            refine Z.iload_n (n := 40) dX5_prey_39 rfl rfl ?_
            refine Z.iload (n := 42) dX5_prey_40 rfl rfl ?_
            obtain ⟨z7, ez7, hf⟩ := Option.bind_eq_some_iff.mp hf
            obtain ⟨q9, hq9⟩ := SC_cl hc
            refine Z.callX (n := 45) vX5_gains (ctX5_gains k he hc ez7) hJ.rm (Nat.le_of_ble_eq_true rfl) rfl rfl (Nat.le_refl _) (Nat.le_refl _) rfl (he _) hq9 (Nat.le_of_ble_eq_true rfl) rfl dX5_prey_42 rfl (fun v w hw => ?_)
            obtain ⟨rfl, rfl⟩ := hw
            show Z _ _ _ _ _ _ _ [.int z7.1] _
            refine Z.if_eq (tgt := 55) (n := 48) dX5_prey_45 rfl rfl (fun c8 => ?_) (fun c8 => ?_)
            · rw [if_pos c8] at hf
              exact zX5_prey_55 hJ k he hc ih _ _ _ _ hf
            · rw [if_neg c8] at hf
              refine Z.iload_n (n := 49) dX5_prey_48 rfl rfl ?_
              refine Z.iconst (n := 50) (v := 1) dX5_prey_49 rfl (by decide +kernel) ?_
              refine Z.iload (n := 52) dX5_prey_50 rfl rfl ?_
              refine Z.ishl (n := 53) dX5_prey_52 rfl ?_
              refine Z.ior (n := 54) dX5_prey_53 rfl ?_
              refine Z.istore_n (n := 55) dX5_prey_54 rfl (by decide) rfl ?_
              exact zX5_prey_55 hJ k he hc ih _ _ _ _ hf
def fX5_prey (r : SR) (l2 : Int32) (h : HT) : Option (Int32 × HT) :=
  fX5_prey_5 r 1000 l2 0 0 h
set_option maxHeartbeats 4000000 in
theorem ctX5_prey {g : GP} {a : Nat → Nat} {P : PT} {h : HT} {z : Int32 × HT} {r : SR} {l2 : Int32} (k : Nat) (he : At g a P k r) (hc : SCX5 r.1) (hf : fX5_prey r l2 h = some z) : Ct g 5 0 0 mX5_prey [.ref (a k), .ref (a 1), .int l2] (WD g a h P) (PoI g a P z) := by
  refine Ct.of (by decide +kernel) (Nat.le_of_ble_eq_true rfl) fun J hJ => ?_
  show Z g mX5_prey J 0 0 0 [some (.ref (a k)), some (.ref (a 1)), some (.int l2), none, none] [] (WD g a h P)
  unfold fX5_prey at hf
  refine Z.iconst (n := 1) (v := 0) dX5_prey_0 rfl (by decide +kernel) ?_
  refine Z.istore_n (n := 2) dX5_prey_1 rfl (by decide) rfl ?_
  refine Z.iconst (n := 3) (v := 0) dX5_prey_2 rfl (by decide +kernel) ?_
  refine Z.istore (n := 5) dX5_prey_3 rfl (by decide) rfl ?_
  exact zX5_prey_5 hJ k he hc _ _ _ _ _ hf
def fX5_hunters_55 (r : SR) (k5_ : Int32 → Int32 → Int32 → HT → Option (Int32 × HT)) (l2 : Int32) (l3 : Int32) (l4 : Int32) (h : HT) : Option (Int32 × HT) :=
  k5_ l2 l3 (l4 + 1) h
set_option maxHeartbeats 4000000 in
theorem zX5_hunters_55 {g : GP} {a : Nat → Nat} {P : PT} {J : JT} {z : Int32 × HT} {r : SR} {k5_ : Int32 → Int32 → Int32 → HT → Option (Int32 × HT)} (hJ : JX g 5 0 0 (PoI g a P z) J) (k : Nat) (he : At g a P k r) (hc : SCX5 r.1) (hk5 : ∀ (l2 : Int32) (l3 : Int32) (l4 : Int32) (h : HT), k5_ l2 l3 l4 h = some z → Z g mX5_hunters J 0 0 5 [some (.ref (a k)), some (.ref (a 1)), some (.int l2), some (.int l3), some (.int l4)] [] (WD g a h P)) (l2 : Int32) (l3 : Int32) (l4 : Int32) (h : HT) (hf : fX5_hunters_55 r k5_ l2 l3 l4 h = some z) : Z g mX5_hunters J 0 0 55 [some (.ref (a k)), some (.ref (a 1)), some (.int l2), some (.int l3), some (.int l4)] [] (WD g a h P) := by
  unfold fX5_hunters_55 at hf
  refine Z.iinc (n := 58) (v := l4 + 1) dX5_hunters_55 rfl rfl rfl (by decide) rfl ?_
  refine Z.goto (tgt := 5) dX5_hunters_58 rfl ?_
  exact hk5 _ _ _ _ hf
def fX5_hunters_5 (r : SR) : Nat → Int32 → Int32 → Int32 → HT → Option (Int32 × HT)
  | 0, _, _, _, _ => none
  | n + 1, l2, l3, l4, h =>
  if (h 1 0) ≤ l4 then (some (l3, h))
  else (if l4 = l2 then (fX5_hunters_55 r (fX5_hunters_5 r  n) l2 l3 l4 h)
  else (Option.bind (fX3_lives l4 h) fun z3 =>
  if z3.1 = 0 then (fX5_hunters_55 r (fX5_hunters_5 r  n) l2 l3 l4 z3.2)
  else (Option.bind (fX3_lives l2 z3.2) fun z5 =>
  if z5.1 = 0 then (fX5_hunters_55 r (fX5_hunters_5 r  n) l2 l3 l4 z5.2)
  else (Option.bind (fX5_gains r l4 l2 z5.2) fun z7 =>
  if z7.1 = 0 then (fX5_hunters_55 r (fX5_hunters_5 r  n) l2 l3 l4 z7.2)
  else (fX5_hunters_55 r (fX5_hunters_5 r  n) l2 (l3 ||| ((1 : Int32) <<< (l4 &&& 31))) l4 z7.2)))))
set_option maxHeartbeats 4000000 in
theorem zX5_hunters_5 {g : GP} {a : Nat → Nat} {P : PT} {J : JT} {z : Int32 × HT} {r : SR} (hJ : JX g 5 0 0 (PoI g a P z) J) (k : Nat) (he : At g a P k r) (hc : SCX5 r.1) : ∀ (n : Nat) (l2 : Int32) (l3 : Int32) (l4 : Int32) (h : HT), fX5_hunters_5 r n l2 l3 l4 h = some z → Z g mX5_hunters J 0 0 5 [some (.ref (a k)), some (.ref (a 1)), some (.int l2), some (.int l3), some (.int l4)] [] (WD g a h P) := by
  intro n
  induction n with
  | zero =>
    intro _ _ _ _ hf
    cases hf
  | succ n ih =>
    intro l2 l3 l4 h hf
    unfold fX5_hunters_5 at hf
    refine Z.iload (n := 7) dX5_hunters_5 rfl rfl ?_
    refine Z.aload_n (n := 8) dX5_hunters_7 rfl rfl ?_
    refine Z.getf (n := 11) fX5_59 dX5_hunters_8 rfl W1 rfl ?_
    refine Z.icmp_ge (tgt := 61) (n := 14) dX5_hunters_11 rfl rfl (fun c1 => ?_) (fun c1 => ?_)
    · rw [if_pos c1] at hf
      refine Z.iload_n (n := 62) dX5_hunters_61 rfl rfl ?_
      have hz := Option.some.inj hf
      subst hz
      exact Z.iret hJ dX5_hunters_62 rfl (Nat.le_refl _) (Nat.le_refl _) ⟨rfl, rfl⟩
    · rw [if_neg c1] at hf
      refine Z.iload (n := 16) dX5_hunters_14 rfl rfl ?_
      refine Z.iload_n (n := 17) dX5_hunters_16 rfl rfl ?_
      refine Z.icmp_eq (tgt := 55) (n := 20) dX5_hunters_17 rfl rfl (fun c2 => ?_) (fun c2 => ?_)
      · rw [if_pos c2] at hf
        exact zX5_hunters_55 hJ k he hc ih _ _ _ _ hf
      · rw [if_neg c2] at hf
        refine Z.aload_n (n := 21) dX5_hunters_20 rfl rfl ?_
        refine Z.iload (n := 23) dX5_hunters_21 rfl rfl ?_
        obtain ⟨z3, ez3, hf⟩ := Option.bind_eq_some_iff.mp hf
        refine Z.callV (n := 26) vX5_62 (ctX3_lives ez3) hJ.rm (Nat.le_of_ble_eq_true rfl) rfl rfl (Nat.le_refl _) (Nat.le_refl _) rfl W1 rfl rfl (Nat.le_of_ble_eq_true rfl) rfl dX5_hunters_23 rfl (fun v w hw => ?_)
        obtain ⟨rfl, rfl⟩ := hw
        show Z _ _ _ _ _ _ _ [.int z3.1] _
        refine Z.if_eq (tgt := 55) (n := 29) dX5_hunters_26 rfl rfl (fun c4 => ?_) (fun c4 => ?_)
        · rw [if_pos c4] at hf
          exact zX5_hunters_55 hJ k he hc ih _ _ _ _ hf
        · rw [if_neg c4] at hf
          refine Z.aload_n (n := 30) dX5_hunters_29 rfl rfl ?_
          refine Z.iload_n (n := 31) dX5_hunters_30 rfl rfl ?_
          obtain ⟨z5, ez5, hf⟩ := Option.bind_eq_some_iff.mp hf
          refine Z.callV (n := 34) vX5_62 (ctX3_lives ez5) hJ.rm (Nat.le_of_ble_eq_true rfl) rfl rfl (Nat.le_refl _) (Nat.le_refl _) rfl W1 rfl rfl (Nat.le_of_ble_eq_true rfl) rfl dX5_hunters_31 rfl (fun v w hw => ?_)
          obtain ⟨rfl, rfl⟩ := hw
          show Z _ _ _ _ _ _ _ [.int z5.1] _
          refine Z.if_eq (tgt := 55) (n := 37) dX5_hunters_34 rfl rfl (fun c6 => ?_) (fun c6 => ?_)
          · rw [if_pos c6] at hf
            exact zX5_hunters_55 hJ k he hc ih _ _ _ _ hf
          · rw [if_neg c6] at hf
            refine Z.aload_n (n := 38) dX5_hunters_37 rfl rfl ?_
            refine Z.aload_n (n := 39) dX5_hunters_38 rfl rfl ?_
            refine Z.iload (n := 41) dX5_hunters_39 rfl rfl ?_
            refine Z.iload_n (n := 42) dX5_hunters_41 rfl rfl ?_
            obtain ⟨z7, ez7, hf⟩ := Option.bind_eq_some_iff.mp hf
            obtain ⟨q9, hq9⟩ := SC_cl hc
            refine Z.callX (n := 45) vX5_gains (ctX5_gains k he hc ez7) hJ.rm (Nat.le_of_ble_eq_true rfl) rfl rfl (Nat.le_refl _) (Nat.le_refl _) rfl (he _) hq9 (Nat.le_of_ble_eq_true rfl) rfl dX5_hunters_42 rfl (fun v w hw => ?_)
            obtain ⟨rfl, rfl⟩ := hw
            show Z _ _ _ _ _ _ _ [.int z7.1] _
            refine Z.if_eq (tgt := 55) (n := 48) dX5_hunters_45 rfl rfl (fun c8 => ?_) (fun c8 => ?_)
            · rw [if_pos c8] at hf
              exact zX5_hunters_55 hJ k he hc ih _ _ _ _ hf
            · rw [if_neg c8] at hf
              refine Z.iload_n (n := 49) dX5_hunters_48 rfl rfl ?_
              refine Z.iconst (n := 50) (v := 1) dX5_hunters_49 rfl (by decide +kernel) ?_
              refine Z.iload (n := 52) dX5_hunters_50 rfl rfl ?_
              refine Z.ishl (n := 53) dX5_hunters_52 rfl ?_
              refine Z.ior (n := 54) dX5_hunters_53 rfl ?_
              refine Z.istore_n (n := 55) dX5_hunters_54 rfl (by decide) rfl ?_
              exact zX5_hunters_55 hJ k he hc ih _ _ _ _ hf
def fX5_hunters (r : SR) (l2 : Int32) (h : HT) : Option (Int32 × HT) :=
  fX5_hunters_5 r 1000 l2 0 0 h
set_option maxHeartbeats 4000000 in
theorem ctX5_hunters {g : GP} {a : Nat → Nat} {P : PT} {h : HT} {z : Int32 × HT} {r : SR} {l2 : Int32} (k : Nat) (he : At g a P k r) (hc : SCX5 r.1) (hf : fX5_hunters r l2 h = some z) : Ct g 5 0 0 mX5_hunters [.ref (a k), .ref (a 1), .int l2] (WD g a h P) (PoI g a P z) := by
  refine Ct.of (by decide +kernel) (Nat.le_of_ble_eq_true rfl) fun J hJ => ?_
  show Z g mX5_hunters J 0 0 0 [some (.ref (a k)), some (.ref (a 1)), some (.int l2), none, none] [] (WD g a h P)
  unfold fX5_hunters at hf
  refine Z.iconst (n := 1) (v := 0) dX5_hunters_0 rfl (by decide +kernel) ?_
  refine Z.istore_n (n := 2) dX5_hunters_1 rfl (by decide) rfl ?_
  refine Z.iconst (n := 3) (v := 0) dX5_hunters_2 rfl (by decide +kernel) ?_
  refine Z.istore (n := 5) dX5_hunters_3 rfl (by decide) rfl ?_
  exact zX5_hunters_5 hJ k he hc _ _ _ _ _ hf
def fX5_firstWar_58 (r : SR) (k2_ : Int32 → HT → Option (Int32 × HT)) (k12_ : Int32 → Int32 → HT → Option (Int32 × HT)) (l2 : Int32) (l3 : Int32) (h : HT) : Option (Int32 × HT) :=
  k12_ l2 (l3 + 1) h
set_option maxHeartbeats 4000000 in
theorem zX5_firstWar_58 {g : GP} {a : Nat → Nat} {P : PT} {J : JT} {z : Int32 × HT} {r : SR} {k2_ : Int32 → HT → Option (Int32 × HT)} {k12_ : Int32 → Int32 → HT → Option (Int32 × HT)} (hJ : JX g 5 0 0 (PoI g a P z) J) (k : Nat) (he : At g a P k r) (hc : SCX5 r.1) (hk2 : ∀ (l2 : Int32) (h : HT), k2_ l2 h = some z → Z g mX5_firstWar J 0 0 2 [some (.ref (a k)), some (.ref (a 1)), some (.int l2), none] [] (WD g a h P)) (hk12 : ∀ (l2 : Int32) (l3 : Int32) (h : HT), k12_ l2 l3 h = some z → Z g mX5_firstWar J 0 0 12 [some (.ref (a k)), some (.ref (a 1)), some (.int l2), some (.int l3)] [] (WD g a h P)) (l2 : Int32) (l3 : Int32) (h : HT) (hf : fX5_firstWar_58 r k2_ k12_ l2 l3 h = some z) : Z g mX5_firstWar J 0 0 58 [some (.ref (a k)), some (.ref (a 1)), some (.int l2), some (.int l3)] [] (WD g a h P) := by
  unfold fX5_firstWar_58 at hf
  refine Z.iinc (n := 61) (v := l3 + 1) dX5_firstWar_58 rfl rfl rfl (by decide) rfl ?_
  refine Z.goto (tgt := 12) dX5_firstWar_61 rfl ?_
  exact hk12 _ _ _ hf
def fX5_firstWar_12 (r : SR) (k2_ : Int32 → HT → Option (Int32 × HT)) : Nat → Int32 → Int32 → HT → Option (Int32 × HT)
  | 0, _, _, _ => none
  | n + 1, l2, l3, h =>
  if (h 1 0) ≤ l3 then (k2_ (l2 + 1) h)
  else (if l2 = l3 then (fX5_firstWar_58 r k2_ (fX5_firstWar_12 r k2_ n) l2 l3 h)
  else (Option.bind (fX3_lives l2 h) fun z4 =>
  if z4.1 = 0 then (fX5_firstWar_58 r k2_ (fX5_firstWar_12 r k2_ n) l2 l3 z4.2)
  else (Option.bind (fX3_lives l3 z4.2) fun z6 =>
  if z6.1 = 0 then (fX5_firstWar_58 r k2_ (fX5_firstWar_12 r k2_ n) l2 l3 z6.2)
  else (Option.bind (fX5_gains r l2 l3 z6.2) fun z8 =>
  if z8.1 = 0 then (fX5_firstWar_58 r k2_ (fX5_firstWar_12 r k2_ n) l2 l3 z8.2)
  else (some (((10 : Int32) * l2) + l3, z8.2))))))
set_option maxHeartbeats 4000000 in
theorem zX5_firstWar_12 {g : GP} {a : Nat → Nat} {P : PT} {J : JT} {z : Int32 × HT} {r : SR} {k2_ : Int32 → HT → Option (Int32 × HT)} (hJ : JX g 5 0 0 (PoI g a P z) J) (k : Nat) (he : At g a P k r) (hc : SCX5 r.1) (hk2 : ∀ (l2 : Int32) (h : HT), k2_ l2 h = some z → Z g mX5_firstWar J 0 0 2 [some (.ref (a k)), some (.ref (a 1)), some (.int l2), none] [] (WD g a h P)) : ∀ (n : Nat) (l2 : Int32) (l3 : Int32) (h : HT), fX5_firstWar_12 r k2_ n l2 l3 h = some z → Z g mX5_firstWar J 0 0 12 [some (.ref (a k)), some (.ref (a 1)), some (.int l2), some (.int l3)] [] (WD g a h P) := by
  intro n
  induction n with
  | zero =>
    intro _ _ _ hf
    cases hf
  | succ n ih =>
    intro l2 l3 h hf
    unfold fX5_firstWar_12 at hf
    refine Z.iload_n (n := 13) dX5_firstWar_12 rfl rfl ?_
    refine Z.aload_n (n := 14) dX5_firstWar_13 rfl rfl ?_
    refine Z.getf (n := 17) fX5_59 dX5_firstWar_14 rfl W1 rfl ?_
    refine Z.icmp_ge (tgt := 64) (n := 20) dX5_firstWar_17 rfl rfl (fun c2 => ?_) (fun c2 => ?_)
    · rw [if_pos c2] at hf
      refine Z.iinc (n := 67) (v := l2 + 1) dX5_firstWar_64 rfl rfl rfl (by decide) rfl ?_
      refine Z.goto (tgt := 2) dX5_firstWar_67 rfl ?_
      refine Z.fg [3] ?_
      exact hk2 _ _ hf
    · rw [if_neg c2] at hf
      refine Z.iload_n (n := 21) dX5_firstWar_20 rfl rfl ?_
      refine Z.iload_n (n := 22) dX5_firstWar_21 rfl rfl ?_
      refine Z.icmp_eq (tgt := 58) (n := 25) dX5_firstWar_22 rfl rfl (fun c3 => ?_) (fun c3 => ?_)
      · rw [if_pos c3] at hf
        exact zX5_firstWar_58 hJ k he hc hk2 ih _ _ _ hf
      · rw [if_neg c3] at hf
        refine Z.aload_n (n := 26) dX5_firstWar_25 rfl rfl ?_
        refine Z.iload_n (n := 27) dX5_firstWar_26 rfl rfl ?_
        obtain ⟨z4, ez4, hf⟩ := Option.bind_eq_some_iff.mp hf
        refine Z.callV (n := 30) vX5_62 (ctX3_lives ez4) hJ.rm (Nat.le_of_ble_eq_true rfl) rfl rfl (Nat.le_refl _) (Nat.le_refl _) rfl W1 rfl rfl (Nat.le_of_ble_eq_true rfl) rfl dX5_firstWar_27 rfl (fun v w hw => ?_)
        obtain ⟨rfl, rfl⟩ := hw
        show Z _ _ _ _ _ _ _ [.int z4.1] _
        refine Z.if_eq (tgt := 58) (n := 33) dX5_firstWar_30 rfl rfl (fun c5 => ?_) (fun c5 => ?_)
        · rw [if_pos c5] at hf
          exact zX5_firstWar_58 hJ k he hc hk2 ih _ _ _ hf
        · rw [if_neg c5] at hf
          refine Z.aload_n (n := 34) dX5_firstWar_33 rfl rfl ?_
          refine Z.iload_n (n := 35) dX5_firstWar_34 rfl rfl ?_
          obtain ⟨z6, ez6, hf⟩ := Option.bind_eq_some_iff.mp hf
          refine Z.callV (n := 38) vX5_62 (ctX3_lives ez6) hJ.rm (Nat.le_of_ble_eq_true rfl) rfl rfl (Nat.le_refl _) (Nat.le_refl _) rfl W1 rfl rfl (Nat.le_of_ble_eq_true rfl) rfl dX5_firstWar_35 rfl (fun v w hw => ?_)
          obtain ⟨rfl, rfl⟩ := hw
          show Z _ _ _ _ _ _ _ [.int z6.1] _
          refine Z.if_eq (tgt := 58) (n := 41) dX5_firstWar_38 rfl rfl (fun c7 => ?_) (fun c7 => ?_)
          · rw [if_pos c7] at hf
            exact zX5_firstWar_58 hJ k he hc hk2 ih _ _ _ hf
          · rw [if_neg c7] at hf
            refine Z.aload_n (n := 42) dX5_firstWar_41 rfl rfl ?_
            refine Z.aload_n (n := 43) dX5_firstWar_42 rfl rfl ?_
            refine Z.iload_n (n := 44) dX5_firstWar_43 rfl rfl ?_
            refine Z.iload_n (n := 45) dX5_firstWar_44 rfl rfl ?_
            obtain ⟨z8, ez8, hf⟩ := Option.bind_eq_some_iff.mp hf
            obtain ⟨q9, hq9⟩ := SC_cl hc
            refine Z.callX (n := 48) vX5_gains (ctX5_gains k he hc ez8) hJ.rm (Nat.le_of_ble_eq_true rfl) rfl rfl (Nat.le_refl _) (Nat.le_refl _) rfl (he _) hq9 (Nat.le_of_ble_eq_true rfl) rfl dX5_firstWar_45 rfl (fun v w hw => ?_)
            obtain ⟨rfl, rfl⟩ := hw
            show Z _ _ _ _ _ _ _ [.int z8.1] _
            refine Z.if_eq (tgt := 58) (n := 51) dX5_firstWar_48 rfl rfl (fun c9 => ?_) (fun c9 => ?_)
            · rw [if_pos c9] at hf
              exact zX5_firstWar_58 hJ k he hc hk2 ih _ _ _ hf
            · rw [if_neg c9] at hf
              refine Z.bipush (n := 53) (v := 10) dX5_firstWar_51 rfl (by decide +kernel) ?_
              refine Z.iload_n (n := 54) dX5_firstWar_53 rfl rfl ?_
              refine Z.imul (n := 55) dX5_firstWar_54 rfl ?_
              refine Z.iload_n (n := 56) dX5_firstWar_55 rfl rfl ?_
              refine Z.iadd (n := 57) dX5_firstWar_56 rfl ?_
              have hz := Option.some.inj hf
              subst hz
              exact Z.iret hJ dX5_firstWar_57 rfl (Nat.le_refl _) (Nat.le_refl _) ⟨rfl, rfl⟩
def fX5_firstWar_2 (r : SR) : Nat → Int32 → HT → Option (Int32 × HT)
  | 0, _, _ => none
  | n + 1, l2, h =>
  if (h 1 0) ≤ l2 then (some ((-5), h))
  else (fX5_firstWar_12 r (fX5_firstWar_2 r  n) 1000 l2 0 h)
set_option maxHeartbeats 4000000 in
theorem zX5_firstWar_2 {g : GP} {a : Nat → Nat} {P : PT} {J : JT} {z : Int32 × HT} {r : SR} (hJ : JX g 5 0 0 (PoI g a P z) J) (k : Nat) (he : At g a P k r) (hc : SCX5 r.1) : ∀ (n : Nat) (l2 : Int32) (h : HT), fX5_firstWar_2 r n l2 h = some z → Z g mX5_firstWar J 0 0 2 [some (.ref (a k)), some (.ref (a 1)), some (.int l2), none] [] (WD g a h P) := by
  intro n
  induction n with
  | zero =>
    intro _ _ hf
    cases hf
  | succ n ih =>
    intro l2 h hf
    unfold fX5_firstWar_2 at hf
    refine Z.iload_n (n := 3) dX5_firstWar_2 rfl rfl ?_
    refine Z.aload_n (n := 4) dX5_firstWar_3 rfl rfl ?_
    refine Z.getf (n := 7) fX5_59 dX5_firstWar_4 rfl W1 rfl ?_
    refine Z.icmp_ge (tgt := 70) (n := 10) dX5_firstWar_7 rfl rfl (fun c1 => ?_) (fun c1 => ?_)
    · rw [if_pos c1] at hf
      refine Z.bipush (n := 72) (v := -5) dX5_firstWar_70 rfl (by decide +kernel) ?_
      have hz := Option.some.inj hf
      subst hz
      exact Z.iret hJ dX5_firstWar_72 rfl (Nat.le_refl _) (Nat.le_refl _) ⟨rfl, rfl⟩
    · rw [if_neg c1] at hf
      refine Z.iconst (n := 11) (v := 0) dX5_firstWar_10 rfl (by decide +kernel) ?_
      refine Z.istore_n (n := 12) dX5_firstWar_11 rfl (by decide) rfl ?_
      exact zX5_firstWar_12 hJ k he hc ih _ _ _ _ hf
def fX5_firstWar (r : SR) (h : HT) : Option (Int32 × HT) :=
  fX5_firstWar_2 r 1000 0 h
set_option maxHeartbeats 4000000 in
theorem ctX5_firstWar {g : GP} {a : Nat → Nat} {P : PT} {h : HT} {z : Int32 × HT} {r : SR} (k : Nat) (he : At g a P k r) (hc : SCX5 r.1) (hf : fX5_firstWar r h = some z) : Ct g 5 0 0 mX5_firstWar [.ref (a k), .ref (a 1)] (WD g a h P) (PoI g a P z) := by
  refine Ct.of (by decide +kernel) (Nat.le_of_ble_eq_true rfl) fun J hJ => ?_
  show Z g mX5_firstWar J 0 0 0 [some (.ref (a k)), some (.ref (a 1)), none, none] [] (WD g a h P)
  unfold fX5_firstWar at hf
  refine Z.iconst (n := 1) (v := 0) dX5_firstWar_0 rfl (by decide +kernel) ?_
  refine Z.istore_n (n := 2) dX5_firstWar_1 rfl (by decide) rfl ?_
  exact zX5_firstWar_2 hJ k he hc _ _ _ hf
def fX5_fight_125 (r : SR) (l8 : Int32) (h : HT) : Option (Int32 × HT) :=
  Option.bind (cb l8) fun u15 =>
  some (l8, hu h 1 4 ((h 1 4) + (1 : Int32)))
set_option maxHeartbeats 4000000 in
theorem zX5_fight_125 {g : GP} {a : Nat → Nat} {P : PT} {J : JT} {z : Int32 × HT} {r : SR} (hJ : JX g 4 0 0 (PoI g a P z) J) (k : Nat) (he : At g a P k r) (hc : SCX5 r.1) (l8 : Int32) (h : HT) (hf : fX5_fight_125 r l8 h = some z) : Z g mX5_fight J 0 0 125 [none, some (.ref (a 1)), none, none, none, none, none, none, some (.int l8)] [] (WD g a h P) := by
  unfold fX5_fight_125 at hf
  refine Z.aload_n (n := 126) dX5_fight_125 rfl rfl ?_
  refine Z.dup (n := 127) dX5_fight_126 rfl rfl ?_
  refine Z.getf (n := 130) fX5_84 dX5_fight_127 rfl W1 rfl ?_
  refine Z.iconst (n := 131) (v := 1) dX5_fight_130 rfl (by decide +kernel) ?_
  refine Z.iadd (n := 132) dX5_fight_131 rfl ?_
  refine Z.putf (n := 135) pX5_84 dX5_fight_132 rfl W1 (Nat.le_of_ble_eq_true rfl) rfl rfl W1s_4 ?_
  refine Z.iload (n := 137) dX5_fight_135 rfl rfl ?_
  obtain ⟨u15, eu15, hf⟩ := Option.bind_eq_some_iff.mp hf
  have hz := Option.some.inj hf
  subst hz
  exact Z.zret hJ dX5_fight_137 rfl (cb_nar eu15) (Nat.le_refl _) (Nat.le_refl _) ⟨rfl, rfl⟩
def fX5_fight_63 (r : SR) (l2 : Int32) (l3 : Int32) (l4 : Int32) (l5 : Int32) (l6 : Int32) (l7 : Int32) (s0 : Int32) (h : HT) : Option (Int32 × HT) :=
  if s0 = 0 then (Option.bind (fX5_attackers l4 h) fun z11 =>
  Option.bind (fX3_halve z11.1 z11.2) fun z12 =>
  Option.bind (fX5_defenders l4 z12.2) fun z13 =>
  Option.bind (fX3_wear z13.1 l6 l7 z13.2) fun z14 =>
  fX5_fight_125 r s0 z14.2)
  else (Option.bind (fX5_defenders l4 h) fun z16 =>
  Option.bind (fX3_halve z16.1 z16.2) fun z17 =>
  Option.bind (fX5_attackers l4 z17.2) fun z18 =>
  Option.bind (fX3_wear z18.1 l7 l6 z18.2) fun z19 =>
  Option.bind (fX3_fall l3 l2 l5 z19.2) fun z20 =>
  fX5_fight_125 r s0 z20.2)
set_option maxHeartbeats 4000000 in
theorem zX5_fight_63 {g : GP} {a : Nat → Nat} {P : PT} {J : JT} {z : Int32 × HT} {r : SR} (hJ : JX g 4 0 0 (PoI g a P z) J) (k : Nat) (he : At g a P k r) (hc : SCX5 r.1) (l2 : Int32) (l3 : Int32) (l4 : Int32) (l5 : Int32) (l6 : Int32) (l7 : Int32) (s0 : Int32) (h : HT) (hf : fX5_fight_63 r l2 l3 l4 l5 l6 l7 s0 h = some z) : Z g mX5_fight J 0 0 63 [none, some (.ref (a 1)), some (.int l2), some (.int l3), some (.int l4), some (.int l5), some (.int l6), some (.int l7), none] [.int s0] (WD g a h P) := by
  unfold fX5_fight_63 at hf
  refine Z.istore (n := 65) dX5_fight_63 rfl (by decide) rfl ?_
  refine Z.iload (n := 67) dX5_fight_65 rfl rfl ?_
  refine Z.if_eq (tgt := 103) (n := 70) dX5_fight_67 rfl rfl (fun c10 => ?_) (fun c10 => ?_)
  · rw [if_pos c10] at hf
    refine Z.aload_n (n := 104) dX5_fight_103 rfl rfl ?_
    refine Z.iload (n := 106) dX5_fight_104 rfl rfl ?_
    obtain ⟨z11, ez11, hf⟩ := Option.bind_eq_some_iff.mp hf
    refine Z.callS (n := 109) vX5_35 (ctX5_attackers ez11) hJ.rm (Nat.le_of_ble_eq_true rfl) rfl rfl (Nat.le_refl _) (Nat.le_refl _) rfl (Nat.le_of_ble_eq_true rfl) rfl dX5_fight_106 rfl (fun v w hw => ?_)
    obtain ⟨rfl, rfl⟩ := hw
    show Z _ _ _ _ _ _ _ [.int z11.1, .ref (a 1)] _
    obtain ⟨z12, ez12, hf⟩ := Option.bind_eq_some_iff.mp hf
    refine Z.callV (n := 112) vX5_73 (ctX3_halve ez12) hJ.rm (Nat.le_of_ble_eq_true rfl) rfl rfl (Nat.le_refl _) (Nat.le_refl _) rfl W1 rfl rfl (Nat.le_of_ble_eq_true rfl) rfl dX5_fight_109 rfl (fun v w hw => ?_)
    obtain ⟨rfl, rfl⟩ := hw
    show Z _ _ _ _ _ _ _ [] _
    refine Z.aload_n (n := 113) dX5_fight_112 rfl rfl ?_
    refine Z.iload (n := 115) dX5_fight_113 rfl rfl ?_
    obtain ⟨z13, ez13, hf⟩ := Option.bind_eq_some_iff.mp hf
    refine Z.callS (n := 118) vX5_47 (ctX5_defenders ez13) hJ.rm (Nat.le_of_ble_eq_true rfl) rfl rfl (Nat.le_refl _) (Nat.le_refl _) rfl (Nat.le_of_ble_eq_true rfl) rfl dX5_fight_115 rfl (fun v w hw => ?_)
    obtain ⟨rfl, rfl⟩ := hw
    show Z _ _ _ _ _ _ _ [.int z13.1, .ref (a 1)] _
    refine Z.iload (n := 120) dX5_fight_118 rfl rfl ?_
    refine Z.iload (n := 122) dX5_fight_120 rfl rfl ?_
    obtain ⟨z14, ez14, hf⟩ := Option.bind_eq_some_iff.mp hf
    refine Z.callV (n := 125) vX5_77 (ctX3_wear ez14) hJ.rm (Nat.le_of_ble_eq_true rfl) rfl rfl (Nat.le_refl _) (Nat.le_refl _) rfl W1 rfl rfl (Nat.le_of_ble_eq_true rfl) rfl dX5_fight_122 rfl (fun v w hw => ?_)
    obtain ⟨rfl, rfl⟩ := hw
    show Z _ _ _ _ _ _ _ [] _
    refine Z.fg [2, 3, 4, 5, 6, 7] ?_
    exact zX5_fight_125 hJ k he hc _ _ hf
  · rw [if_neg c10] at hf
    refine Z.aload_n (n := 71) dX5_fight_70 rfl rfl ?_
    refine Z.iload (n := 73) dX5_fight_71 rfl rfl ?_
    obtain ⟨z16, ez16, hf⟩ := Option.bind_eq_some_iff.mp hf
    refine Z.callS (n := 76) vX5_47 (ctX5_defenders ez16) hJ.rm (Nat.le_of_ble_eq_true rfl) rfl rfl (Nat.le_refl _) (Nat.le_refl _) rfl (Nat.le_of_ble_eq_true rfl) rfl dX5_fight_73 rfl (fun v w hw => ?_)
    obtain ⟨rfl, rfl⟩ := hw
    show Z _ _ _ _ _ _ _ [.int z16.1, .ref (a 1)] _
    obtain ⟨z17, ez17, hf⟩ := Option.bind_eq_some_iff.mp hf
    refine Z.callV (n := 79) vX5_73 (ctX3_halve ez17) hJ.rm (Nat.le_of_ble_eq_true rfl) rfl rfl (Nat.le_refl _) (Nat.le_refl _) rfl W1 rfl rfl (Nat.le_of_ble_eq_true rfl) rfl dX5_fight_76 rfl (fun v w hw => ?_)
    obtain ⟨rfl, rfl⟩ := hw
    show Z _ _ _ _ _ _ _ [] _
    refine Z.aload_n (n := 80) dX5_fight_79 rfl rfl ?_
    refine Z.iload (n := 82) dX5_fight_80 rfl rfl ?_
    obtain ⟨z18, ez18, hf⟩ := Option.bind_eq_some_iff.mp hf
    refine Z.callS (n := 85) vX5_35 (ctX5_attackers ez18) hJ.rm (Nat.le_of_ble_eq_true rfl) rfl rfl (Nat.le_refl _) (Nat.le_refl _) rfl (Nat.le_of_ble_eq_true rfl) rfl dX5_fight_82 rfl (fun v w hw => ?_)
    obtain ⟨rfl, rfl⟩ := hw
    show Z _ _ _ _ _ _ _ [.int z18.1, .ref (a 1)] _
    refine Z.iload (n := 87) dX5_fight_85 rfl rfl ?_
    refine Z.iload (n := 89) dX5_fight_87 rfl rfl ?_
    obtain ⟨z19, ez19, hf⟩ := Option.bind_eq_some_iff.mp hf
    refine Z.callV (n := 92) vX5_77 (ctX3_wear ez19) hJ.rm (Nat.le_of_ble_eq_true rfl) rfl rfl (Nat.le_refl _) (Nat.le_refl _) rfl W1 rfl rfl (Nat.le_of_ble_eq_true rfl) rfl dX5_fight_89 rfl (fun v w hw => ?_)
    obtain ⟨rfl, rfl⟩ := hw
    show Z _ _ _ _ _ _ _ [] _
    refine Z.aload_n (n := 93) dX5_fight_92 rfl rfl ?_
    refine Z.iload_n (n := 94) dX5_fight_93 rfl rfl ?_
    refine Z.iload_n (n := 95) dX5_fight_94 rfl rfl ?_
    refine Z.iload (n := 97) dX5_fight_95 rfl rfl ?_
    obtain ⟨z20, ez20, hf⟩ := Option.bind_eq_some_iff.mp hf
    refine Z.callV (n := 100) vX5_81 (ctX3_fall ez20) hJ.rm (Nat.le_of_ble_eq_true rfl) rfl rfl (Nat.le_refl _) (Nat.le_refl _) rfl W1 rfl rfl (Nat.le_of_ble_eq_true rfl) rfl dX5_fight_97 rfl (fun v w hw => ?_)
    obtain ⟨rfl, rfl⟩ := hw
    show Z _ _ _ _ _ _ _ [] _
    refine Z.goto (tgt := 125) dX5_fight_100 rfl ?_
    refine Z.fg [2, 3, 4, 5, 6, 7] ?_
    exact zX5_fight_125 hJ k he hc _ _ hf
def fX5_fight (r : SR) (l2 : Int32) (l3 : Int32) (h : HT) : Option (Int32 × HT) :=
  Option.bind (fv_camps r l2 l3 h) fun z1 =>
  Option.bind (ck 7 l3) fun j2 =>
  Option.bind (fX5_attackers z1.1 z1.2) fun z3 =>
  Option.bind (ck 7 l3) fun j4 =>
  Option.bind (fX3_forcesAt z3.1 (z3.2 3 j4) z3.2) fun z5 =>
  Option.bind (fX5_defenders z1.1 z5.2) fun z6 =>
  Option.bind (ck 7 l3) fun j7 =>
  Option.bind (fX3_forcesAt z6.1 (z6.2 3 j7) z6.2) fun z8 =>
  if z5.1 ≤ z8.1 then (fX5_fight_63 r l2 l3 z1.1 (z1.2 2 j2) z5.1 z8.1 0 z8.2)
  else (fX5_fight_63 r l2 l3 z1.1 (z1.2 2 j2) z5.1 z8.1 1 z8.2)
set_option maxHeartbeats 4000000 in
theorem ctX5_fight {g : GP} {a : Nat → Nat} {P : PT} {h : HT} {z : Int32 × HT} {r : SR} {l2 : Int32} {l3 : Int32} (k : Nat) (he : At g a P k r) (hc : SCX5 r.1) (hf : fX5_fight r l2 l3 h = some z) : Ct g 4 0 0 mX5_fight [.ref (a k), .ref (a 1), .int l2, .int l3] (WD g a h P) (PoI g a P z) := by
  refine Ct.of (by decide +kernel) (Nat.le_of_ble_eq_true rfl) fun J hJ => ?_
  show Z g mX5_fight J 0 0 0 [some (.ref (a k)), some (.ref (a 1)), some (.int l2), some (.int l3), none, none, none, none, none] [] (WD g a h P)
  unfold fX5_fight at hf
  refine Z.aload_n (n := 1) dX5_fight_0 rfl rfl ?_
  refine Z.aload_n (n := 2) dX5_fight_1 rfl rfl ?_
  refine Z.iload_n (n := 3) dX5_fight_2 rfl rfl ?_
  refine Z.iload_n (n := 4) dX5_fight_3 rfl rfl ?_
  obtain ⟨z1, ez1, hf⟩ := Option.bind_eq_some_iff.mp hf
  obtain ⟨M9, q9, d9, hq9, hd9, hu9, hC9⟩ := dv_X5_31_X5 (g := g) (a := a) (P := P) k he hc ez1
  refine Z.callU (n := 7) hu9 hC9 hJ.rm (by omega) rfl rfl (Nat.le_refl _) (Nat.le_refl _) rfl (he _) hq9 (Nat.le_of_ble_eq_true rfl) rfl dX5_fight_4 rfl (fun v w hw => ?_)
  obtain ⟨rfl, rfl⟩ := hw
  show Z _ _ _ _ _ _ _ [.int z1.1] _
  refine Z.istore (n := 9) dX5_fight_7 rfl (by decide) rfl ?_
  refine Z.aload_n (n := 10) dX5_fight_9 rfl rfl ?_
  refine Z.getf (n := 13) fX5_70 dX5_fight_10 rfl W1 rfl ?_
  refine Z.iload_n (n := 14) dX5_fight_13 rfl rfl ?_
  obtain ⟨j2, ej2, hf⟩ := Option.bind_eq_some_iff.mp hf
  obtain ⟨hij2, hlj2⟩ := ck_spec ej2
  refine Z.iald (j := j2) (n := 15) dX5_fight_14 rfl W2 hij2 hlj2 (by decide) ?_
  refine Z.istore (n := 17) dX5_fight_15 rfl (by decide) rfl ?_
  refine Z.aload_n (n := 18) dX5_fight_17 rfl rfl ?_
  refine Z.iload (n := 20) dX5_fight_18 rfl rfl ?_
  obtain ⟨z3, ez3, hf⟩ := Option.bind_eq_some_iff.mp hf
  refine Z.callS (n := 23) vX5_35 (ctX5_attackers ez3) hJ.rm (Nat.le_of_ble_eq_true rfl) rfl rfl (Nat.le_refl _) (Nat.le_refl _) rfl (Nat.le_of_ble_eq_true rfl) rfl dX5_fight_20 rfl (fun v w hw => ?_)
  obtain ⟨rfl, rfl⟩ := hw
  show Z _ _ _ _ _ _ _ [.int z3.1, .ref (a 1)] _
  refine Z.aload_n (n := 24) dX5_fight_23 rfl rfl ?_
  refine Z.getf (n := 27) fX5_39 dX5_fight_24 rfl W1 rfl ?_
  refine Z.iload_n (n := 28) dX5_fight_27 rfl rfl ?_
  obtain ⟨j4, ej4, hf⟩ := Option.bind_eq_some_iff.mp hf
  obtain ⟨hij4, hlj4⟩ := ck_spec ej4
  refine Z.iald (j := j4) (n := 29) dX5_fight_28 rfl W3 hij4 hlj4 (by decide) ?_
  obtain ⟨z5, ez5, hf⟩ := Option.bind_eq_some_iff.mp hf
  refine Z.callV (n := 32) vX5_43 (ctX3_forcesAt ez5) hJ.rm (Nat.le_of_ble_eq_true rfl) rfl rfl (Nat.le_refl _) (Nat.le_refl _) rfl W1 rfl rfl (Nat.le_of_ble_eq_true rfl) rfl dX5_fight_29 rfl (fun v w hw => ?_)
  obtain ⟨rfl, rfl⟩ := hw
  show Z _ _ _ _ _ _ _ [.int z5.1] _
  refine Z.istore (n := 34) dX5_fight_32 rfl (by decide) rfl ?_
  refine Z.aload_n (n := 35) dX5_fight_34 rfl rfl ?_
  refine Z.iload (n := 37) dX5_fight_35 rfl rfl ?_
  obtain ⟨z6, ez6, hf⟩ := Option.bind_eq_some_iff.mp hf
  refine Z.callS (n := 40) vX5_47 (ctX5_defenders ez6) hJ.rm (Nat.le_of_ble_eq_true rfl) rfl rfl (Nat.le_refl _) (Nat.le_refl _) rfl (Nat.le_of_ble_eq_true rfl) rfl dX5_fight_37 rfl (fun v w hw => ?_)
  obtain ⟨rfl, rfl⟩ := hw
  show Z _ _ _ _ _ _ _ [.int z6.1, .ref (a 1)] _
  refine Z.aload_n (n := 41) dX5_fight_40 rfl rfl ?_
  refine Z.getf (n := 44) fX5_39 dX5_fight_41 rfl W1 rfl ?_
  refine Z.iload_n (n := 45) dX5_fight_44 rfl rfl ?_
  obtain ⟨j7, ej7, hf⟩ := Option.bind_eq_some_iff.mp hf
  obtain ⟨hij7, hlj7⟩ := ck_spec ej7
  refine Z.iald (j := j7) (n := 46) dX5_fight_45 rfl W3 hij7 hlj7 (by decide) ?_
  obtain ⟨z8, ez8, hf⟩ := Option.bind_eq_some_iff.mp hf
  refine Z.callV (n := 49) vX5_43 (ctX3_forcesAt ez8) hJ.rm (Nat.le_of_ble_eq_true rfl) rfl rfl (Nat.le_refl _) (Nat.le_refl _) rfl W1 rfl rfl (Nat.le_of_ble_eq_true rfl) rfl dX5_fight_46 rfl (fun v w hw => ?_)
  obtain ⟨rfl, rfl⟩ := hw
  show Z _ _ _ _ _ _ _ [.int z8.1] _
  refine Z.istore (n := 51) dX5_fight_49 rfl (by decide) rfl ?_
  refine Z.iload (n := 53) dX5_fight_51 rfl rfl ?_
  refine Z.iload (n := 55) dX5_fight_53 rfl rfl ?_
  refine Z.icmp_le (tgt := 62) (n := 58) dX5_fight_55 rfl rfl (fun c9 => ?_) (fun c9 => ?_)
  · rw [if_pos c9] at hf
    refine Z.iconst (n := 63) (v := 0) dX5_fight_62 rfl (by decide +kernel) ?_
    refine Z.fg [0] ?_
    exact zX5_fight_63 hJ k he hc _ _ _ _ _ _ _ _ hf
  · rw [if_neg c9] at hf
    refine Z.iconst (n := 59) (v := 1) dX5_fight_58 rfl (by decide +kernel) ?_
    refine Z.goto (tgt := 63) dX5_fight_59 rfl ?_
    refine Z.fg [0] ?_
    exact zX5_fight_63 hJ k he hc _ _ _ _ _ _ _ _ hf
def fX3_become_h41_h1_130 (P : PT) : Nat → Int32 → HT → Option (Int32 × HT)
  | 0, _, _ => none
  | n + 1, l2, h =>
  if 8 ≤ l2 then (Option.bind (fX6_become_h61_h21  h) fun z3 =>
  Option.bind (fX10_become_h63_h23  z3.2) fun z4 =>
  some (0, z4.2))
  else (Option.bind (ck 8 l2) fun j5 =>
  Option.bind (okq P (h 30 j5)) fun u6 =>
  Option.bind (ck 8 l2) fun j7 =>
  Option.bind (ck 9 l2) fun j8 =>
  Option.bind (ck 9 l2) fun j9 =>
  fX3_become_h41_h1_130 P  n (l2 + 1) (hcp (hu h 70 j7 (h 30 j5)) (72 + j9) (32 + j8) 7))
set_option maxHeartbeats 4000000 in
theorem zX3_become_h41_h1_130 {g : GP} {a : Nat → Nat} {P : PT} {J : JT} {z : Int32 × HT} (hJ : JX g 2 0 0 (PoV g a P z) J) (hPo : PoolOK P) : ∀ (n : Nat) (l2 : Int32) (h : HT), fX3_become_h41_h1_130 P n l2 h = some z → Z g mX3_become J 0 0 130 [some (.ref (a 41)), some (.ref (a 1)), some (.int l2)] [] (WD g a h P) := by
  intro n
  induction n with
  | zero =>
    intro _ _ hf
    cases hf
  | succ n ih =>
    intro l2 h hf
    unfold fX3_become_h41_h1_130 at hf
    refine Z.iload_n (n := 131) dX3_become_130 rfl rfl ?_
    refine Z.bipush (n := 133) (v := 8) dX3_become_131 rfl (by decide +kernel) ?_
    refine Z.icmp_ge (tgt := 173) (n := 136) dX3_become_133 rfl rfl (fun c2 => ?_) (fun c2 => ?_)
    · rw [if_pos c2] at hf
      refine Z.aload_n (n := 174) dX3_become_173 rfl rfl ?_
      refine Z.getf (n := 177) fX3_48 dX3_become_174 rfl W41 rfl ?_
      refine Z.aload_n (n := 178) dX3_become_177 rfl rfl ?_
      refine Z.getf (n := 181) fX3_48 dX3_become_178 rfl W1 rfl ?_
      obtain ⟨z3, ez3, hf⟩ := Option.bind_eq_some_iff.mp hf
      refine Z.callV (n := 184) vX3_74 (ctX6_become_h61_h21 ez3) hJ.rm (Nat.le_of_ble_eq_true rfl) rfl rfl (Nat.le_refl _) (Nat.le_refl _) rfl W61 rfl rfl (Nat.le_of_ble_eq_true rfl) rfl dX3_become_181 rfl (fun v w hw => ?_)
      obtain ⟨rfl, rfl⟩ := hw
      show Z _ _ _ _ _ _ _ [] _
      refine Z.aload_n (n := 185) dX3_become_184 rfl rfl ?_
      refine Z.getf (n := 188) fX3_55 dX3_become_185 rfl W41 rfl ?_
      refine Z.aload_n (n := 189) dX3_become_188 rfl rfl ?_
      refine Z.getf (n := 192) fX3_55 dX3_become_189 rfl W1 rfl ?_
      obtain ⟨z4, ez4, hf⟩ := Option.bind_eq_some_iff.mp hf
      refine Z.callV (n := 195) vX3_78 (ctX10_become_h63_h23 ez4) hJ.rm (Nat.le_of_ble_eq_true rfl) rfl rfl (Nat.le_refl _) (Nat.le_refl _) rfl W63 rfl rfl (Nat.le_of_ble_eq_true rfl) rfl dX3_become_192 rfl (fun v w hw => ?_)
      obtain ⟨rfl, rfl⟩ := hw
      show Z _ _ _ _ _ _ _ [] _
      have hz := Option.some.inj hf
      subst hz
      exact Z.vret hJ dX3_become_195 rfl (Nat.le_refl _) (Nat.le_refl _) ⟨rfl, rfl⟩
    · rw [if_neg c2] at hf
      refine Z.aload_n (n := 137) dX3_become_136 rfl rfl ?_
      refine Z.getf (n := 140) fX3_61 dX3_become_137 rfl W41 rfl ?_
      refine Z.iload_n (n := 141) dX3_become_140 rfl rfl ?_
      refine Z.aload_n (n := 142) dX3_become_141 rfl rfl ?_
      refine Z.getf (n := 145) fX3_61 dX3_become_142 rfl W1 rfl ?_
      refine Z.iload_n (n := 146) dX3_become_145 rfl rfl ?_
      obtain ⟨j5, ej5, hf⟩ := Option.bind_eq_some_iff.mp hf
      obtain ⟨hij5, hlj5⟩ := ck_spec ej5
      refine Z.aald (j := j5) (ty := 2) (n := 147) dX3_become_146 rfl W30 rfl rfl hij5 hlj5 (by decide) ?_
      obtain ⟨u6, eu6, hf⟩ := Option.bind_eq_some_iff.mp hf
      obtain ⟨j7, ej7, hf⟩ := Option.bind_eq_some_iff.mp hf
      obtain ⟨hij7, hlj7⟩ := ck_spec ej7
      refine Z.aastP (j := j7) (n := 148) hPo eu6 dX3_become_147 rfl W70 hij7 hlj7 W70s ?_
      refine Z.aload_n (n := 149) dX3_become_148 rfl rfl ?_
      refine Z.getf (n := 152) fX3_65 dX3_become_149 rfl W1 rfl ?_
      refine Z.iload_n (n := 153) dX3_become_152 rfl rfl ?_
      obtain ⟨j8, ej8, hf⟩ := Option.bind_eq_some_iff.mp hf
      obtain ⟨hij8, hlj8⟩ := ck_spec ej8
      refine Z.aald (j := j8) (ty := 3) (n := 154) dX3_become_153 rfl W31 rfl rfl hij8 hlj8 (by decide) ?_
      rw [if_pos hlj8]
      show Z _ _ _ _ _ _ _ (.ref (a (32 + j8)) :: _) _
      refine Z.iconst (n := 155) (v := 0) dX3_become_154 rfl (by decide +kernel) ?_
      refine Z.aload_n (n := 156) dX3_become_155 rfl rfl ?_
      refine Z.getf (n := 159) fX3_65 dX3_become_156 rfl W41 rfl ?_
      refine Z.iload_n (n := 160) dX3_become_159 rfl rfl ?_
      obtain ⟨j9, ej9, hf⟩ := Option.bind_eq_some_iff.mp hf
      obtain ⟨hij9, hlj9⟩ := ck_spec ej9
      refine Z.aald (j := j9) (ty := 3) (n := 161) dX3_become_160 rfl W71 rfl rfl hij9 hlj9 (by decide) ?_
      rw [if_pos hlj9]
      show Z _ _ _ _ _ _ _ (.ref (a (72 + j9)) :: _) _
      refine Z.iconst (n := 162) (v := 0) dX3_become_161 rfl (by decide +kernel) ?_
      refine Z.bipush (n := 164) (v := 7) dX3_become_162 rfl (by decide +kernel) ?_
      refine Z.copy (N := 7) (n := 167) wX3_68 w_ac2 w_ac3 w_ac4 hJ.rm (Nat.le_of_ble_eq_true rfl) (Nat.le_of_ble_eq_true rfl) (Wbl (r := j8) hlj8) (Wbk (r := j9) hlj9) (by decide +kernel) (by decide) (by decide) (by decide) dX3_become_164 rfl (hcp_w (WbkR (r := j9) hlj9)) ?_
      refine Z.iinc (n := 170) (v := l2 + 1) dX3_become_167 rfl rfl rfl (by decide) rfl ?_
      refine Z.goto (tgt := 130) dX3_become_170 rfl ?_
      exact ih _ _ hf
def fX3_become_h41_h1_42 (P : PT) : Nat → Int32 → HT → Option (Int32 × HT)
  | 0, _, _ => none
  | n + 1, l2, h =>
  if 7 ≤ l2 then (fX3_become_h41_h1_130 P 1000 0 h)
  else (Option.bind (ck 7 l2) fun j10 =>
  Option.bind (ck 7 l2) fun j11 =>
  Option.bind (ck 7 l2) fun j12 =>
  Option.bind (ck 7 l2) fun j13 =>
  Option.bind (ck 7 l2) fun j14 =>
  Option.bind (ck 7 l2) fun j15 =>
  Option.bind (ck 7 l2) fun j16 =>
  Option.bind (ck 7 l2) fun j17 =>
  Option.bind (ck 7 l2) fun j18 =>
  Option.bind (ck 7 l2) fun j19 =>
  fX3_become_h41_h1_42 P  n (l2 + 1) (hcp (hcp (hu (hu (hu h 42 j11 (h 2 j10)) 43 j13 ((hu h 42 j11 (h 2 j10)) 3 j12)) 44 j15 ((hu (hu h 42 j11 (h 2 j10)) 43 j13 ((hu h 42 j11 (h 2 j10)) 3 j12)) 4 j14)) (46 + j17) (6 + j16) 7) (54 + j19) (14 + j18) 7))
set_option maxHeartbeats 4000000 in
theorem zX3_become_h41_h1_42 {g : GP} {a : Nat → Nat} {P : PT} {J : JT} {z : Int32 × HT} (hJ : JX g 2 0 0 (PoV g a P z) J) (hPo : PoolOK P) : ∀ (n : Nat) (l2 : Int32) (h : HT), fX3_become_h41_h1_42 P n l2 h = some z → Z g mX3_become J 0 0 42 [some (.ref (a 41)), some (.ref (a 1)), some (.int l2)] [] (WD g a h P) := by
  intro n
  induction n with
  | zero =>
    intro _ _ hf
    cases hf
  | succ n ih =>
    intro l2 h hf
    unfold fX3_become_h41_h1_42 at hf
    refine Z.iload_n (n := 43) dX3_become_42 rfl rfl ?_
    refine Z.bipush (n := 45) (v := 7) dX3_become_43 rfl (by decide +kernel) ?_
    refine Z.icmp_ge (tgt := 128) (n := 48) dX3_become_45 rfl rfl (fun c1 => ?_) (fun c1 => ?_)
    · rw [if_pos c1] at hf
      refine Z.iconst (n := 129) (v := 0) dX3_become_128 rfl (by decide +kernel) ?_
      refine Z.istore_n (n := 130) dX3_become_129 rfl (by decide) rfl ?_
      exact zX3_become_h41_h1_130 hJ hPo _ _ _ hf
    · rw [if_neg c1] at hf
      refine Z.aload_n (n := 49) dX3_become_48 rfl rfl ?_
      refine Z.getf (n := 52) fX3_27 dX3_become_49 rfl W41 rfl ?_
      refine Z.iload_n (n := 53) dX3_become_52 rfl rfl ?_
      refine Z.aload_n (n := 54) dX3_become_53 rfl rfl ?_
      refine Z.getf (n := 57) fX3_27 dX3_become_54 rfl W1 rfl ?_
      refine Z.iload_n (n := 58) dX3_become_57 rfl rfl ?_
      obtain ⟨j10, ej10, hf⟩ := Option.bind_eq_some_iff.mp hf
      obtain ⟨hij10, hlj10⟩ := ck_spec ej10
      refine Z.iald (j := j10) (n := 59) dX3_become_58 rfl W2 hij10 hlj10 (by decide) ?_
      obtain ⟨j11, ej11, hf⟩ := Option.bind_eq_some_iff.mp hf
      obtain ⟨hij11, hlj11⟩ := ck_spec ej11
      refine Z.iast (j := j11) (n := 60) dX3_become_59 rfl W42 hij11 hlj11 (by decide) W42s ?_
      refine Z.aload_n (n := 61) dX3_become_60 rfl rfl ?_
      refine Z.getf (n := 64) fX3_31 dX3_become_61 rfl W41 rfl ?_
      refine Z.iload_n (n := 65) dX3_become_64 rfl rfl ?_
      refine Z.aload_n (n := 66) dX3_become_65 rfl rfl ?_
      refine Z.getf (n := 69) fX3_31 dX3_become_66 rfl W1 rfl ?_
      refine Z.iload_n (n := 70) dX3_become_69 rfl rfl ?_
      obtain ⟨j12, ej12, hf⟩ := Option.bind_eq_some_iff.mp hf
      obtain ⟨hij12, hlj12⟩ := ck_spec ej12
      refine Z.iald (j := j12) (n := 71) dX3_become_70 rfl W3 hij12 hlj12 (by decide) ?_
      obtain ⟨j13, ej13, hf⟩ := Option.bind_eq_some_iff.mp hf
      obtain ⟨hij13, hlj13⟩ := ck_spec ej13
      refine Z.iast (j := j13) (n := 72) dX3_become_71 rfl W43 hij13 hlj13 (by decide) W43s ?_
      refine Z.aload_n (n := 73) dX3_become_72 rfl rfl ?_
      refine Z.getf (n := 76) fX3_34 dX3_become_73 rfl W41 rfl ?_
      refine Z.iload_n (n := 77) dX3_become_76 rfl rfl ?_
      refine Z.aload_n (n := 78) dX3_become_77 rfl rfl ?_
      refine Z.getf (n := 81) fX3_34 dX3_become_78 rfl W1 rfl ?_
      refine Z.iload_n (n := 82) dX3_become_81 rfl rfl ?_
      obtain ⟨j14, ej14, hf⟩ := Option.bind_eq_some_iff.mp hf
      obtain ⟨hij14, hlj14⟩ := ck_spec ej14
      refine Z.iald (j := j14) (n := 83) dX3_become_82 rfl W4 hij14 hlj14 (by decide) ?_
      obtain ⟨j15, ej15, hf⟩ := Option.bind_eq_some_iff.mp hf
      obtain ⟨hij15, hlj15⟩ := ck_spec ej15
      refine Z.iast (j := j15) (n := 84) dX3_become_83 rfl W44 hij15 hlj15 (by decide) W44s ?_
      refine Z.aload_n (n := 85) dX3_become_84 rfl rfl ?_
      refine Z.getf (n := 88) fX3_39 dX3_become_85 rfl W1 rfl ?_
      refine Z.iload_n (n := 89) dX3_become_88 rfl rfl ?_
      obtain ⟨j16, ej16, hf⟩ := Option.bind_eq_some_iff.mp hf
      obtain ⟨hij16, hlj16⟩ := ck_spec ej16
      refine Z.aald (j := j16) (ty := 3) (n := 90) dX3_become_89 rfl W5 rfl rfl hij16 hlj16 (by decide) ?_
      rw [if_pos hlj16]
      show Z _ _ _ _ _ _ _ (.ref (a (6 + j16)) :: _) _
      refine Z.iconst (n := 91) (v := 0) dX3_become_90 rfl (by decide +kernel) ?_
      refine Z.aload_n (n := 92) dX3_become_91 rfl rfl ?_
      refine Z.getf (n := 95) fX3_39 dX3_become_92 rfl W41 rfl ?_
      refine Z.iload_n (n := 96) dX3_become_95 rfl rfl ?_
      obtain ⟨j17, ej17, hf⟩ := Option.bind_eq_some_iff.mp hf
      obtain ⟨hij17, hlj17⟩ := ck_spec ej17
      refine Z.aald (j := j17) (ty := 3) (n := 97) dX3_become_96 rfl W45 rfl rfl hij17 hlj17 (by decide) ?_
      rw [if_pos hlj17]
      show Z _ _ _ _ _ _ _ (.ref (a (46 + j17)) :: _) _
      refine Z.iconst (n := 98) (v := 0) dX3_become_97 rfl (by decide +kernel) ?_
      refine Z.bipush (n := 100) (v := 7) dX3_become_98 rfl (by decide +kernel) ?_
      refine Z.copy (N := 7) (n := 103) wX3_68 w_ac2 w_ac3 w_ac4 hJ.rm (Nat.le_of_ble_eq_true rfl) (Nat.le_of_ble_eq_true rfl) (Wwo (r := j16) hlj16) (Wwk (r := j17) hlj17) (by decide +kernel) (by decide) (by decide) (by decide) dX3_become_100 rfl (hcp_w (WwkR (r := j17) hlj17)) ?_
      refine Z.aload_n (n := 104) dX3_become_103 rfl rfl ?_
      refine Z.getf (n := 107) fX3_42 dX3_become_104 rfl W1 rfl ?_
      refine Z.iload_n (n := 108) dX3_become_107 rfl rfl ?_
      obtain ⟨j18, ej18, hf⟩ := Option.bind_eq_some_iff.mp hf
      obtain ⟨hij18, hlj18⟩ := ck_spec ej18
      refine Z.aald (j := j18) (ty := 3) (n := 109) dX3_become_108 rfl W13 rfl rfl hij18 hlj18 (by decide) ?_
      rw [if_pos hlj18]
      show Z _ _ _ _ _ _ _ (.ref (a (14 + j18)) :: _) _
      refine Z.iconst (n := 110) (v := 0) dX3_become_109 rfl (by decide +kernel) ?_
      refine Z.aload_n (n := 111) dX3_become_110 rfl rfl ?_
      refine Z.getf (n := 114) fX3_42 dX3_become_111 rfl W41 rfl ?_
      refine Z.iload_n (n := 115) dX3_become_114 rfl rfl ?_
      obtain ⟨j19, ej19, hf⟩ := Option.bind_eq_some_iff.mp hf
      obtain ⟨hij19, hlj19⟩ := ck_spec ej19
      refine Z.aald (j := j19) (ty := 3) (n := 116) dX3_become_115 rfl W53 rfl rfl hij19 hlj19 (by decide) ?_
      rw [if_pos hlj19]
      show Z _ _ _ _ _ _ _ (.ref (a (54 + j19)) :: _) _
      refine Z.iconst (n := 117) (v := 0) dX3_become_116 rfl (by decide +kernel) ?_
      refine Z.bipush (n := 119) (v := 7) dX3_become_117 rfl (by decide +kernel) ?_
      refine Z.copy (N := 7) (n := 122) wX3_68 w_ac2 w_ac3 w_ac4 hJ.rm (Nat.le_of_ble_eq_true rfl) (Nat.le_of_ble_eq_true rfl) (Wpa (r := j18) hlj18) (Wpk (r := j19) hlj19) (by decide +kernel) (by decide) (by decide) (by decide) dX3_become_119 rfl (hcp_w (WpkR (r := j19) hlj19)) ?_
      refine Z.iinc (n := 125) (v := l2 + 1) dX3_become_122 rfl rfl rfl (by decide) rfl ?_
      refine Z.goto (tgt := 42) dX3_become_125 rfl ?_
      exact ih _ _ hf
def fX3_become_h41_h1 (P : PT) (h : HT) : Option (Int32 × HT) :=
  fX3_become_h41_h1_42 P 1000 0 (hu (hu (hu (hu (hu h 41 0 (h 1 0)) 41 1 ((hu h 41 0 (h 1 0)) 1 1)) 41 2 ((hu (hu h 41 0 (h 1 0)) 41 1 ((hu h 41 0 (h 1 0)) 1 1)) 1 2)) 41 3 ((hu (hu (hu h 41 0 (h 1 0)) 41 1 ((hu h 41 0 (h 1 0)) 1 1)) 41 2 ((hu (hu h 41 0 (h 1 0)) 41 1 ((hu h 41 0 (h 1 0)) 1 1)) 1 2)) 1 3)) 41 4 ((hu (hu (hu (hu h 41 0 (h 1 0)) 41 1 ((hu h 41 0 (h 1 0)) 1 1)) 41 2 ((hu (hu h 41 0 (h 1 0)) 41 1 ((hu h 41 0 (h 1 0)) 1 1)) 1 2)) 41 3 ((hu (hu (hu h 41 0 (h 1 0)) 41 1 ((hu h 41 0 (h 1 0)) 1 1)) 41 2 ((hu (hu h 41 0 (h 1 0)) 41 1 ((hu h 41 0 (h 1 0)) 1 1)) 1 2)) 1 3)) 1 4))
set_option maxHeartbeats 4000000 in
theorem ctX3_become_h41_h1 {g : GP} {a : Nat → Nat} {P : PT} {h : HT} {z : Int32 × HT} (hPo : PoolOK P) (hf : fX3_become_h41_h1 P h = some z) : Ct g 2 0 0 mX3_become [.ref (a 41), .ref (a 1)] (WD g a h P) (PoV g a P z) := by
  refine Ct.of (by decide +kernel) (Nat.le_of_ble_eq_true rfl) fun J hJ => ?_
  show Z g mX3_become J 0 0 0 [some (.ref (a 41)), some (.ref (a 1)), none] [] (WD g a h P)
  unfold fX3_become_h41_h1 at hf
  refine Z.aload_n (n := 1) dX3_become_0 rfl rfl ?_
  refine Z.aload_n (n := 2) dX3_become_1 rfl rfl ?_
  refine Z.getf (n := 5) fX3_9 dX3_become_2 rfl W1 rfl ?_
  refine Z.putf (n := 8) pX3_9 dX3_become_5 rfl W41 (Nat.le_of_ble_eq_true rfl) rfl rfl W41s_0 ?_
  refine Z.aload_n (n := 9) dX3_become_8 rfl rfl ?_
  refine Z.aload_n (n := 10) dX3_become_9 rfl rfl ?_
  refine Z.getf (n := 13) fX3_15 dX3_become_10 rfl W1 rfl ?_
  refine Z.putf (n := 16) pX3_15 dX3_become_13 rfl W41 (Nat.le_of_ble_eq_true rfl) rfl rfl W41s_1 ?_
  refine Z.aload_n (n := 17) dX3_become_16 rfl rfl ?_
  refine Z.aload_n (n := 18) dX3_become_17 rfl rfl ?_
  refine Z.getf (n := 21) fX3_18 dX3_become_18 rfl W1 rfl ?_
  refine Z.putf (n := 24) pX3_18 dX3_become_21 rfl W41 (Nat.le_of_ble_eq_true rfl) rfl rfl W41s_2 ?_
  refine Z.aload_n (n := 25) dX3_become_24 rfl rfl ?_
  refine Z.aload_n (n := 26) dX3_become_25 rfl rfl ?_
  refine Z.getf (n := 29) fX3_21 dX3_become_26 rfl W1 rfl ?_
  refine Z.putf (n := 32) pX3_21 dX3_become_29 rfl W41 (Nat.le_of_ble_eq_true rfl) rfl rfl W41s_3 ?_
  refine Z.aload_n (n := 33) dX3_become_32 rfl rfl ?_
  refine Z.aload_n (n := 34) dX3_become_33 rfl rfl ?_
  refine Z.getf (n := 37) fX3_24 dX3_become_34 rfl W1 rfl ?_
  refine Z.putf (n := 40) pX3_24 dX3_become_37 rfl W41 (Nat.le_of_ble_eq_true rfl) rfl rfl W41s_4 ?_
  refine Z.iconst (n := 41) (v := 0) dX3_become_40 rfl (by decide +kernel) ?_
  refine Z.istore_n (n := 42) dX3_become_41 rfl (by decide) rfl ?_
  exact zX3_become_h41_h1_42 hJ hPo _ _ _ hf
def fX3_become_h1_h41_130 (P : PT) : Nat → Int32 → HT → Option (Int32 × HT)
  | 0, _, _ => none
  | n + 1, l2, h =>
  if 8 ≤ l2 then (Option.bind (fX6_become_h21_h61  h) fun z3 =>
  Option.bind (fX10_become_h23_h63  z3.2) fun z4 =>
  some (0, z4.2))
  else (Option.bind (ck 8 l2) fun j5 =>
  Option.bind (okq P (h 70 j5)) fun u6 =>
  Option.bind (ck 8 l2) fun j7 =>
  Option.bind (ck 9 l2) fun j8 =>
  Option.bind (ck 9 l2) fun j9 =>
  fX3_become_h1_h41_130 P  n (l2 + 1) (hcp (hu h 30 j7 (h 70 j5)) (32 + j9) (72 + j8) 7))
set_option maxHeartbeats 4000000 in
theorem zX3_become_h1_h41_130 {g : GP} {a : Nat → Nat} {P : PT} {J : JT} {z : Int32 × HT} (hJ : JX g 2 0 0 (PoV g a P z) J) (hPo : PoolOK P) : ∀ (n : Nat) (l2 : Int32) (h : HT), fX3_become_h1_h41_130 P n l2 h = some z → Z g mX3_become J 0 0 130 [some (.ref (a 1)), some (.ref (a 41)), some (.int l2)] [] (WD g a h P) := by
  intro n
  induction n with
  | zero =>
    intro _ _ hf
    cases hf
  | succ n ih =>
    intro l2 h hf
    unfold fX3_become_h1_h41_130 at hf
    refine Z.iload_n (n := 131) dX3_become_130 rfl rfl ?_
    refine Z.bipush (n := 133) (v := 8) dX3_become_131 rfl (by decide +kernel) ?_
    refine Z.icmp_ge (tgt := 173) (n := 136) dX3_become_133 rfl rfl (fun c2 => ?_) (fun c2 => ?_)
    · rw [if_pos c2] at hf
      refine Z.aload_n (n := 174) dX3_become_173 rfl rfl ?_
      refine Z.getf (n := 177) fX3_48 dX3_become_174 rfl W1 rfl ?_
      refine Z.aload_n (n := 178) dX3_become_177 rfl rfl ?_
      refine Z.getf (n := 181) fX3_48 dX3_become_178 rfl W41 rfl ?_
      obtain ⟨z3, ez3, hf⟩ := Option.bind_eq_some_iff.mp hf
      refine Z.callV (n := 184) vX3_74 (ctX6_become_h21_h61 ez3) hJ.rm (Nat.le_of_ble_eq_true rfl) rfl rfl (Nat.le_refl _) (Nat.le_refl _) rfl W21 rfl rfl (Nat.le_of_ble_eq_true rfl) rfl dX3_become_181 rfl (fun v w hw => ?_)
      obtain ⟨rfl, rfl⟩ := hw
      show Z _ _ _ _ _ _ _ [] _
      refine Z.aload_n (n := 185) dX3_become_184 rfl rfl ?_
      refine Z.getf (n := 188) fX3_55 dX3_become_185 rfl W1 rfl ?_
      refine Z.aload_n (n := 189) dX3_become_188 rfl rfl ?_
      refine Z.getf (n := 192) fX3_55 dX3_become_189 rfl W41 rfl ?_
      obtain ⟨z4, ez4, hf⟩ := Option.bind_eq_some_iff.mp hf
      refine Z.callV (n := 195) vX3_78 (ctX10_become_h23_h63 ez4) hJ.rm (Nat.le_of_ble_eq_true rfl) rfl rfl (Nat.le_refl _) (Nat.le_refl _) rfl W23 rfl rfl (Nat.le_of_ble_eq_true rfl) rfl dX3_become_192 rfl (fun v w hw => ?_)
      obtain ⟨rfl, rfl⟩ := hw
      show Z _ _ _ _ _ _ _ [] _
      have hz := Option.some.inj hf
      subst hz
      exact Z.vret hJ dX3_become_195 rfl (Nat.le_refl _) (Nat.le_refl _) ⟨rfl, rfl⟩
    · rw [if_neg c2] at hf
      refine Z.aload_n (n := 137) dX3_become_136 rfl rfl ?_
      refine Z.getf (n := 140) fX3_61 dX3_become_137 rfl W1 rfl ?_
      refine Z.iload_n (n := 141) dX3_become_140 rfl rfl ?_
      refine Z.aload_n (n := 142) dX3_become_141 rfl rfl ?_
      refine Z.getf (n := 145) fX3_61 dX3_become_142 rfl W41 rfl ?_
      refine Z.iload_n (n := 146) dX3_become_145 rfl rfl ?_
      obtain ⟨j5, ej5, hf⟩ := Option.bind_eq_some_iff.mp hf
      obtain ⟨hij5, hlj5⟩ := ck_spec ej5
      refine Z.aald (j := j5) (ty := 2) (n := 147) dX3_become_146 rfl W70 rfl rfl hij5 hlj5 (by decide) ?_
      obtain ⟨u6, eu6, hf⟩ := Option.bind_eq_some_iff.mp hf
      obtain ⟨j7, ej7, hf⟩ := Option.bind_eq_some_iff.mp hf
      obtain ⟨hij7, hlj7⟩ := ck_spec ej7
      refine Z.aastP (j := j7) (n := 148) hPo eu6 dX3_become_147 rfl W30 hij7 hlj7 W30s ?_
      refine Z.aload_n (n := 149) dX3_become_148 rfl rfl ?_
      refine Z.getf (n := 152) fX3_65 dX3_become_149 rfl W41 rfl ?_
      refine Z.iload_n (n := 153) dX3_become_152 rfl rfl ?_
      obtain ⟨j8, ej8, hf⟩ := Option.bind_eq_some_iff.mp hf
      obtain ⟨hij8, hlj8⟩ := ck_spec ej8
      refine Z.aald (j := j8) (ty := 3) (n := 154) dX3_become_153 rfl W71 rfl rfl hij8 hlj8 (by decide) ?_
      rw [if_pos hlj8]
      show Z _ _ _ _ _ _ _ (.ref (a (72 + j8)) :: _) _
      refine Z.iconst (n := 155) (v := 0) dX3_become_154 rfl (by decide +kernel) ?_
      refine Z.aload_n (n := 156) dX3_become_155 rfl rfl ?_
      refine Z.getf (n := 159) fX3_65 dX3_become_156 rfl W1 rfl ?_
      refine Z.iload_n (n := 160) dX3_become_159 rfl rfl ?_
      obtain ⟨j9, ej9, hf⟩ := Option.bind_eq_some_iff.mp hf
      obtain ⟨hij9, hlj9⟩ := ck_spec ej9
      refine Z.aald (j := j9) (ty := 3) (n := 161) dX3_become_160 rfl W31 rfl rfl hij9 hlj9 (by decide) ?_
      rw [if_pos hlj9]
      show Z _ _ _ _ _ _ _ (.ref (a (32 + j9)) :: _) _
      refine Z.iconst (n := 162) (v := 0) dX3_become_161 rfl (by decide +kernel) ?_
      refine Z.bipush (n := 164) (v := 7) dX3_become_162 rfl (by decide +kernel) ?_
      refine Z.copy (N := 7) (n := 167) wX3_68 w_ac2 w_ac3 w_ac4 hJ.rm (Nat.le_of_ble_eq_true rfl) (Nat.le_of_ble_eq_true rfl) (Wbk (r := j8) hlj8) (Wbl (r := j9) hlj9) (by decide +kernel) (by decide) (by decide) (by decide) dX3_become_164 rfl (hcp_w (WblR (r := j9) hlj9)) ?_
      refine Z.iinc (n := 170) (v := l2 + 1) dX3_become_167 rfl rfl rfl (by decide) rfl ?_
      refine Z.goto (tgt := 130) dX3_become_170 rfl ?_
      exact ih _ _ hf
def fX3_become_h1_h41_42 (P : PT) : Nat → Int32 → HT → Option (Int32 × HT)
  | 0, _, _ => none
  | n + 1, l2, h =>
  if 7 ≤ l2 then (fX3_become_h1_h41_130 P 1000 0 h)
  else (Option.bind (ck 7 l2) fun j10 =>
  Option.bind (ck 7 l2) fun j11 =>
  Option.bind (ck 7 l2) fun j12 =>
  Option.bind (ck 7 l2) fun j13 =>
  Option.bind (ck 7 l2) fun j14 =>
  Option.bind (ck 7 l2) fun j15 =>
  Option.bind (ck 7 l2) fun j16 =>
  Option.bind (ck 7 l2) fun j17 =>
  Option.bind (ck 7 l2) fun j18 =>
  Option.bind (ck 7 l2) fun j19 =>
  fX3_become_h1_h41_42 P  n (l2 + 1) (hcp (hcp (hu (hu (hu h 2 j11 (h 42 j10)) 3 j13 ((hu h 2 j11 (h 42 j10)) 43 j12)) 4 j15 ((hu (hu h 2 j11 (h 42 j10)) 3 j13 ((hu h 2 j11 (h 42 j10)) 43 j12)) 44 j14)) (6 + j17) (46 + j16) 7) (14 + j19) (54 + j18) 7))
set_option maxHeartbeats 4000000 in
theorem zX3_become_h1_h41_42 {g : GP} {a : Nat → Nat} {P : PT} {J : JT} {z : Int32 × HT} (hJ : JX g 2 0 0 (PoV g a P z) J) (hPo : PoolOK P) : ∀ (n : Nat) (l2 : Int32) (h : HT), fX3_become_h1_h41_42 P n l2 h = some z → Z g mX3_become J 0 0 42 [some (.ref (a 1)), some (.ref (a 41)), some (.int l2)] [] (WD g a h P) := by
  intro n
  induction n with
  | zero =>
    intro _ _ hf
    cases hf
  | succ n ih =>
    intro l2 h hf
    unfold fX3_become_h1_h41_42 at hf
    refine Z.iload_n (n := 43) dX3_become_42 rfl rfl ?_
    refine Z.bipush (n := 45) (v := 7) dX3_become_43 rfl (by decide +kernel) ?_
    refine Z.icmp_ge (tgt := 128) (n := 48) dX3_become_45 rfl rfl (fun c1 => ?_) (fun c1 => ?_)
    · rw [if_pos c1] at hf
      refine Z.iconst (n := 129) (v := 0) dX3_become_128 rfl (by decide +kernel) ?_
      refine Z.istore_n (n := 130) dX3_become_129 rfl (by decide) rfl ?_
      exact zX3_become_h1_h41_130 hJ hPo _ _ _ hf
    · rw [if_neg c1] at hf
      refine Z.aload_n (n := 49) dX3_become_48 rfl rfl ?_
      refine Z.getf (n := 52) fX3_27 dX3_become_49 rfl W1 rfl ?_
      refine Z.iload_n (n := 53) dX3_become_52 rfl rfl ?_
      refine Z.aload_n (n := 54) dX3_become_53 rfl rfl ?_
      refine Z.getf (n := 57) fX3_27 dX3_become_54 rfl W41 rfl ?_
      refine Z.iload_n (n := 58) dX3_become_57 rfl rfl ?_
      obtain ⟨j10, ej10, hf⟩ := Option.bind_eq_some_iff.mp hf
      obtain ⟨hij10, hlj10⟩ := ck_spec ej10
      refine Z.iald (j := j10) (n := 59) dX3_become_58 rfl W42 hij10 hlj10 (by decide) ?_
      obtain ⟨j11, ej11, hf⟩ := Option.bind_eq_some_iff.mp hf
      obtain ⟨hij11, hlj11⟩ := ck_spec ej11
      refine Z.iast (j := j11) (n := 60) dX3_become_59 rfl W2 hij11 hlj11 (by decide) W2s ?_
      refine Z.aload_n (n := 61) dX3_become_60 rfl rfl ?_
      refine Z.getf (n := 64) fX3_31 dX3_become_61 rfl W1 rfl ?_
      refine Z.iload_n (n := 65) dX3_become_64 rfl rfl ?_
      refine Z.aload_n (n := 66) dX3_become_65 rfl rfl ?_
      refine Z.getf (n := 69) fX3_31 dX3_become_66 rfl W41 rfl ?_
      refine Z.iload_n (n := 70) dX3_become_69 rfl rfl ?_
      obtain ⟨j12, ej12, hf⟩ := Option.bind_eq_some_iff.mp hf
      obtain ⟨hij12, hlj12⟩ := ck_spec ej12
      refine Z.iald (j := j12) (n := 71) dX3_become_70 rfl W43 hij12 hlj12 (by decide) ?_
      obtain ⟨j13, ej13, hf⟩ := Option.bind_eq_some_iff.mp hf
      obtain ⟨hij13, hlj13⟩ := ck_spec ej13
      refine Z.iast (j := j13) (n := 72) dX3_become_71 rfl W3 hij13 hlj13 (by decide) W3s ?_
      refine Z.aload_n (n := 73) dX3_become_72 rfl rfl ?_
      refine Z.getf (n := 76) fX3_34 dX3_become_73 rfl W1 rfl ?_
      refine Z.iload_n (n := 77) dX3_become_76 rfl rfl ?_
      refine Z.aload_n (n := 78) dX3_become_77 rfl rfl ?_
      refine Z.getf (n := 81) fX3_34 dX3_become_78 rfl W41 rfl ?_
      refine Z.iload_n (n := 82) dX3_become_81 rfl rfl ?_
      obtain ⟨j14, ej14, hf⟩ := Option.bind_eq_some_iff.mp hf
      obtain ⟨hij14, hlj14⟩ := ck_spec ej14
      refine Z.iald (j := j14) (n := 83) dX3_become_82 rfl W44 hij14 hlj14 (by decide) ?_
      obtain ⟨j15, ej15, hf⟩ := Option.bind_eq_some_iff.mp hf
      obtain ⟨hij15, hlj15⟩ := ck_spec ej15
      refine Z.iast (j := j15) (n := 84) dX3_become_83 rfl W4 hij15 hlj15 (by decide) W4s ?_
      refine Z.aload_n (n := 85) dX3_become_84 rfl rfl ?_
      refine Z.getf (n := 88) fX3_39 dX3_become_85 rfl W41 rfl ?_
      refine Z.iload_n (n := 89) dX3_become_88 rfl rfl ?_
      obtain ⟨j16, ej16, hf⟩ := Option.bind_eq_some_iff.mp hf
      obtain ⟨hij16, hlj16⟩ := ck_spec ej16
      refine Z.aald (j := j16) (ty := 3) (n := 90) dX3_become_89 rfl W45 rfl rfl hij16 hlj16 (by decide) ?_
      rw [if_pos hlj16]
      show Z _ _ _ _ _ _ _ (.ref (a (46 + j16)) :: _) _
      refine Z.iconst (n := 91) (v := 0) dX3_become_90 rfl (by decide +kernel) ?_
      refine Z.aload_n (n := 92) dX3_become_91 rfl rfl ?_
      refine Z.getf (n := 95) fX3_39 dX3_become_92 rfl W1 rfl ?_
      refine Z.iload_n (n := 96) dX3_become_95 rfl rfl ?_
      obtain ⟨j17, ej17, hf⟩ := Option.bind_eq_some_iff.mp hf
      obtain ⟨hij17, hlj17⟩ := ck_spec ej17
      refine Z.aald (j := j17) (ty := 3) (n := 97) dX3_become_96 rfl W5 rfl rfl hij17 hlj17 (by decide) ?_
      rw [if_pos hlj17]
      show Z _ _ _ _ _ _ _ (.ref (a (6 + j17)) :: _) _
      refine Z.iconst (n := 98) (v := 0) dX3_become_97 rfl (by decide +kernel) ?_
      refine Z.bipush (n := 100) (v := 7) dX3_become_98 rfl (by decide +kernel) ?_
      refine Z.copy (N := 7) (n := 103) wX3_68 w_ac2 w_ac3 w_ac4 hJ.rm (Nat.le_of_ble_eq_true rfl) (Nat.le_of_ble_eq_true rfl) (Wwk (r := j16) hlj16) (Wwo (r := j17) hlj17) (by decide +kernel) (by decide) (by decide) (by decide) dX3_become_100 rfl (hcp_w (WwoR (r := j17) hlj17)) ?_
      refine Z.aload_n (n := 104) dX3_become_103 rfl rfl ?_
      refine Z.getf (n := 107) fX3_42 dX3_become_104 rfl W41 rfl ?_
      refine Z.iload_n (n := 108) dX3_become_107 rfl rfl ?_
      obtain ⟨j18, ej18, hf⟩ := Option.bind_eq_some_iff.mp hf
      obtain ⟨hij18, hlj18⟩ := ck_spec ej18
      refine Z.aald (j := j18) (ty := 3) (n := 109) dX3_become_108 rfl W53 rfl rfl hij18 hlj18 (by decide) ?_
      rw [if_pos hlj18]
      show Z _ _ _ _ _ _ _ (.ref (a (54 + j18)) :: _) _
      refine Z.iconst (n := 110) (v := 0) dX3_become_109 rfl (by decide +kernel) ?_
      refine Z.aload_n (n := 111) dX3_become_110 rfl rfl ?_
      refine Z.getf (n := 114) fX3_42 dX3_become_111 rfl W1 rfl ?_
      refine Z.iload_n (n := 115) dX3_become_114 rfl rfl ?_
      obtain ⟨j19, ej19, hf⟩ := Option.bind_eq_some_iff.mp hf
      obtain ⟨hij19, hlj19⟩ := ck_spec ej19
      refine Z.aald (j := j19) (ty := 3) (n := 116) dX3_become_115 rfl W13 rfl rfl hij19 hlj19 (by decide) ?_
      rw [if_pos hlj19]
      show Z _ _ _ _ _ _ _ (.ref (a (14 + j19)) :: _) _
      refine Z.iconst (n := 117) (v := 0) dX3_become_116 rfl (by decide +kernel) ?_
      refine Z.bipush (n := 119) (v := 7) dX3_become_117 rfl (by decide +kernel) ?_
      refine Z.copy (N := 7) (n := 122) wX3_68 w_ac2 w_ac3 w_ac4 hJ.rm (Nat.le_of_ble_eq_true rfl) (Nat.le_of_ble_eq_true rfl) (Wpk (r := j18) hlj18) (Wpa (r := j19) hlj19) (by decide +kernel) (by decide) (by decide) (by decide) dX3_become_119 rfl (hcp_w (WpaR (r := j19) hlj19)) ?_
      refine Z.iinc (n := 125) (v := l2 + 1) dX3_become_122 rfl rfl rfl (by decide) rfl ?_
      refine Z.goto (tgt := 42) dX3_become_125 rfl ?_
      exact ih _ _ hf
def fX3_become_h1_h41 (P : PT) (h : HT) : Option (Int32 × HT) :=
  fX3_become_h1_h41_42 P 1000 0 (hu (hu (hu (hu (hu h 1 0 (h 41 0)) 1 1 ((hu h 1 0 (h 41 0)) 41 1)) 1 2 ((hu (hu h 1 0 (h 41 0)) 1 1 ((hu h 1 0 (h 41 0)) 41 1)) 41 2)) 1 3 ((hu (hu (hu h 1 0 (h 41 0)) 1 1 ((hu h 1 0 (h 41 0)) 41 1)) 1 2 ((hu (hu h 1 0 (h 41 0)) 1 1 ((hu h 1 0 (h 41 0)) 41 1)) 41 2)) 41 3)) 1 4 ((hu (hu (hu (hu h 1 0 (h 41 0)) 1 1 ((hu h 1 0 (h 41 0)) 41 1)) 1 2 ((hu (hu h 1 0 (h 41 0)) 1 1 ((hu h 1 0 (h 41 0)) 41 1)) 41 2)) 1 3 ((hu (hu (hu h 1 0 (h 41 0)) 1 1 ((hu h 1 0 (h 41 0)) 41 1)) 1 2 ((hu (hu h 1 0 (h 41 0)) 1 1 ((hu h 1 0 (h 41 0)) 41 1)) 41 2)) 41 3)) 41 4))
set_option maxHeartbeats 4000000 in
theorem ctX3_become_h1_h41 {g : GP} {a : Nat → Nat} {P : PT} {h : HT} {z : Int32 × HT} (hPo : PoolOK P) (hf : fX3_become_h1_h41 P h = some z) : Ct g 2 0 0 mX3_become [.ref (a 1), .ref (a 41)] (WD g a h P) (PoV g a P z) := by
  refine Ct.of (by decide +kernel) (Nat.le_of_ble_eq_true rfl) fun J hJ => ?_
  show Z g mX3_become J 0 0 0 [some (.ref (a 1)), some (.ref (a 41)), none] [] (WD g a h P)
  unfold fX3_become_h1_h41 at hf
  refine Z.aload_n (n := 1) dX3_become_0 rfl rfl ?_
  refine Z.aload_n (n := 2) dX3_become_1 rfl rfl ?_
  refine Z.getf (n := 5) fX3_9 dX3_become_2 rfl W41 rfl ?_
  refine Z.putf (n := 8) pX3_9 dX3_become_5 rfl W1 (Nat.le_of_ble_eq_true rfl) rfl rfl W1s_0 ?_
  refine Z.aload_n (n := 9) dX3_become_8 rfl rfl ?_
  refine Z.aload_n (n := 10) dX3_become_9 rfl rfl ?_
  refine Z.getf (n := 13) fX3_15 dX3_become_10 rfl W41 rfl ?_
  refine Z.putf (n := 16) pX3_15 dX3_become_13 rfl W1 (Nat.le_of_ble_eq_true rfl) rfl rfl W1s_1 ?_
  refine Z.aload_n (n := 17) dX3_become_16 rfl rfl ?_
  refine Z.aload_n (n := 18) dX3_become_17 rfl rfl ?_
  refine Z.getf (n := 21) fX3_18 dX3_become_18 rfl W41 rfl ?_
  refine Z.putf (n := 24) pX3_18 dX3_become_21 rfl W1 (Nat.le_of_ble_eq_true rfl) rfl rfl W1s_2 ?_
  refine Z.aload_n (n := 25) dX3_become_24 rfl rfl ?_
  refine Z.aload_n (n := 26) dX3_become_25 rfl rfl ?_
  refine Z.getf (n := 29) fX3_21 dX3_become_26 rfl W41 rfl ?_
  refine Z.putf (n := 32) pX3_21 dX3_become_29 rfl W1 (Nat.le_of_ble_eq_true rfl) rfl rfl W1s_3 ?_
  refine Z.aload_n (n := 33) dX3_become_32 rfl rfl ?_
  refine Z.aload_n (n := 34) dX3_become_33 rfl rfl ?_
  refine Z.getf (n := 37) fX3_24 dX3_become_34 rfl W41 rfl ?_
  refine Z.putf (n := 40) pX3_24 dX3_become_37 rfl W1 (Nat.le_of_ble_eq_true rfl) rfl rfl W1s_4 ?_
  refine Z.iconst (n := 41) (v := 0) dX3_become_40 rfl (by decide +kernel) ?_
  refine Z.istore_n (n := 42) dX3_become_41 rfl (by decide) rfl ?_
  exact zX3_become_h1_h41_42 hJ hPo _ _ _ hf
