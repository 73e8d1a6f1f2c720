/-! walks, by program: 13.tape.lean.txt -/
def fX6_put (l1 : Int32) (h : HT) : Option (Int32 × HT) :=
  if (h 21 1) < 120 then (Option.bind (ck 120 (h 21 1)) fun j2 =>
  some (0, hu (hu h 22 j2 l1) 21 1 (((hu h 22 j2 l1) 21 1) + (1 : Int32))))
  else (some (0, h))
set_option maxHeartbeats 4000000 in
theorem ctX6_put {g : GP} {a : Nat → Nat} {P : PT} {h : HT} {z : Int32 × HT} {l1 : Int32} (hf : fX6_put l1 h = some z) : Ct g 1 0 0 mX6_put [.ref (a 21), .int l1] (WD g a h P) (PoV g a P z) := by
  refine Ct.of (by decide +kernel) (Nat.le_of_ble_eq_true rfl) fun J hJ => ?_
  show Z g mX6_put J 0 0 0 [some (.ref (a 21)), some (.int l1)] [] (WD g a h P)
  unfold fX6_put at hf
  refine Z.aload_n (n := 1) dX6_put_0 rfl rfl ?_
  refine Z.getf (n := 4) fX6_15 dX6_put_1 rfl W21 rfl ?_
  refine Z.bipush (n := 6) (v := 120) dX6_put_4 rfl (by decide +kernel) ?_
  refine Z.icmp_lt (tgt := 10) (n := 9) dX6_put_6 rfl rfl (fun c1 => ?_) (fun c1 => ?_)
  · rw [if_pos c1] at hf
    refine Z.aload_n (n := 11) dX6_put_10 rfl rfl ?_
    refine Z.getf (n := 14) fX6_9 dX6_put_11 rfl W21 rfl ?_
    refine Z.aload_n (n := 15) dX6_put_14 rfl rfl ?_
    refine Z.getf (n := 18) fX6_15 dX6_put_15 rfl W21 rfl ?_
    refine Z.iload_n (n := 19) dX6_put_18 rfl rfl ?_
    obtain ⟨j2, ej2, hf⟩ := Option.bind_eq_some_iff.mp hf
    obtain ⟨hij2, hlj2⟩ := ck_spec ej2
    refine Z.iast (j := j2) (n := 20) dX6_put_19 rfl W22 hij2 hlj2 (by decide) W22s ?_
    refine Z.aload_n (n := 21) dX6_put_20 rfl rfl ?_
    refine Z.dup (n := 22) dX6_put_21 rfl rfl ?_
    refine Z.getf (n := 25) fX6_15 dX6_put_22 rfl W21 rfl ?_
    refine Z.iconst (n := 26) (v := 1) dX6_put_25 rfl (by decide +kernel) ?_
    refine Z.iadd (n := 27) dX6_put_26 rfl ?_
    refine Z.putf (n := 30) pX6_15 dX6_put_27 rfl W21 (Nat.le_of_ble_eq_true rfl) rfl rfl W21s_1 ?_
    have hz := Option.some.inj hf
    subst hz
    exact Z.vret hJ dX6_put_30 rfl (Nat.le_refl _) (Nat.le_refl _) ⟨rfl, rfl⟩
  · rw [if_neg c1] at hf
    have hz := Option.some.inj hf
    subst hz
    exact Z.vret hJ dX6_put_9 rfl (Nat.le_refl _) (Nat.le_refl _) ⟨rfl, rfl⟩
def fX6_pick_20 (si : Nat) (h : HT) : Option (Int32 × HT) :=
  some ((-1), h)
set_option maxHeartbeats 4000000 in
theorem zX6_pick_20 {g : GP} {a : Nat → Nat} {P : PT} {J : JT} {z : Int32 × HT} {si : Nat} (hJ : JX g 5 0 0 (PoI g a P z) J) (hsi : si < 18) (h : HT) (hf : fX6_pick_20 si h = some z) : Z g mX6_pick J 0 0 20 [none, none, none] [] (WD g a h P) := by
  unfold fX6_pick_20 at hf
  refine Z.iconst (n := 21) (v := -1) dX6_pick_20 rfl (by decide +kernel) ?_
  have hz := Option.some.inj hf
  subst hz
  exact Z.iret hJ dX6_pick_21 rfl (Nat.le_refl _) (Nat.le_refl _) ⟨rfl, rfl⟩
def fX6_pick_24 (si : Nat) : Nat → Int32 → HT → Option (Int32 × HT)
  | 0, _, _ => none
  | n + 1, l2, h =>
  Option.bind (fJ0_length_8abf5 si h) fun z3 =>
  if z3.1 ≤ l2 then (some ((-1), z3.2))
  else (Option.bind (fJ0_charAt_5068e si l2 z3.2) fun z5 =>
  Option.bind (ck 120 (z5.2 21 2)) fun j6 =>
  if z5.1 = (z5.2 22 j6) then (some (l2, hu z5.2 21 2 ((z5.2 21 2) + (1 : Int32))))
  else (fX6_pick_24 si  n (l2 + 1) z5.2))
set_option maxHeartbeats 4000000 in
theorem zX6_pick_24 {g : GP} {a : Nat → Nat} {P : PT} {J : JT} {z : Int32 × HT} {si : Nat} (hJ : JX g 5 0 0 (PoI g a P z) J) (hsi : si < 18) : ∀ (n : Nat) (l2 : Int32) (h : HT), fX6_pick_24 si n l2 h = some z → Z g mX6_pick J 0 0 24 [some (.ref (a 21)), some (.ref (gK g si)), some (.int l2)] [] (WD g a h P) := by
  intro n
  induction n with
  | zero =>
    intro _ _ hf
    cases hf
  | succ n ih =>
    intro l2 h hf
    unfold fX6_pick_24 at hf
    refine Z.iload_n (n := 25) dX6_pick_24 rfl rfl ?_
    refine Z.aload_n (n := 26) dX6_pick_25 rfl rfl ?_
    obtain ⟨z3, ez3, hf⟩ := Option.bind_eq_some_iff.mp hf
    refine Z.callK (n := 29) vX6_28 (ctJ0_length_8abf5 hsi ez3) hJ.rm (Nat.le_of_ble_eq_true rfl) rfl rfl (Nat.le_refl _) (Nat.le_refl _) rfl hsi rfl rfl (Nat.le_of_ble_eq_true rfl) rfl dX6_pick_26 rfl (fun v w hw => ?_)
    obtain ⟨rfl, rfl⟩ := hw
    show Z _ _ _ _ _ _ _ [.int z3.1, .int l2] _
    refine Z.icmp_ge (tgt := 67) (n := 32) dX6_pick_29 rfl rfl (fun c4 => ?_) (fun c4 => ?_)
    · rw [if_pos c4] at hf
      refine Z.iconst (n := 68) (v := -1) dX6_pick_67 rfl (by decide +kernel) ?_
      have hz := Option.some.inj hf
      subst hz
      exact Z.iret hJ dX6_pick_68 rfl (Nat.le_refl _) (Nat.le_refl _) ⟨rfl, rfl⟩
    · rw [if_neg c4] at hf
      refine Z.aload_n (n := 33) dX6_pick_32 rfl rfl ?_
      refine Z.iload_n (n := 34) dX6_pick_33 rfl rfl ?_
      obtain ⟨z5, ez5, hf⟩ := Option.bind_eq_some_iff.mp hf
      refine Z.callK (n := 37) vX6_34 (ctJ0_charAt_5068e hsi ez5) hJ.rm (Nat.le_of_ble_eq_true rfl) rfl rfl (Nat.le_refl _) (Nat.le_refl _) rfl hsi rfl rfl (Nat.le_of_ble_eq_true rfl) rfl dX6_pick_34 rfl (fun v w hw => ?_)
      obtain ⟨rfl, rfl⟩ := hw
      show Z _ _ _ _ _ _ _ [.int z5.1] _
      refine Z.aload_n (n := 38) dX6_pick_37 rfl rfl ?_
      refine Z.getf (n := 41) fX6_9 dX6_pick_38 rfl W21 rfl ?_
      refine Z.aload_n (n := 42) dX6_pick_41 rfl rfl ?_
      refine Z.getf (n := 45) fX6_19 dX6_pick_42 rfl W21 rfl ?_
      obtain ⟨j6, ej6, hf⟩ := Option.bind_eq_some_iff.mp hf
      obtain ⟨hij6, hlj6⟩ := ck_spec ej6
      refine Z.iald (j := j6) (n := 46) dX6_pick_45 rfl W22 hij6 hlj6 (by decide) ?_
      refine Z.icmp_ne (tgt := 61) (n := 49) dX6_pick_46 rfl rfl (fun c7 => ?_) (fun c7 => ?_)
      · rw [if_neg c7] at hf
        refine Z.iinc (n := 64) (v := l2 + 1) dX6_pick_61 rfl rfl rfl (by decide) rfl ?_
        refine Z.goto (tgt := 24) dX6_pick_64 rfl ?_
        exact ih _ _ hf
      · rw [if_pos c7] at hf
        refine Z.aload_n (n := 50) dX6_pick_49 rfl rfl ?_
        refine Z.dup (n := 51) dX6_pick_50 rfl rfl ?_
        refine Z.getf (n := 54) fX6_19 dX6_pick_51 rfl W21 rfl ?_
        refine Z.iconst (n := 55) (v := 1) dX6_pick_54 rfl (by decide +kernel) ?_
        refine Z.iadd (n := 56) dX6_pick_55 rfl ?_
        refine Z.putf (n := 59) pX6_19 dX6_pick_56 rfl W21 (Nat.le_of_ble_eq_true rfl) rfl rfl W21s_2 ?_
        refine Z.iload_n (n := 60) dX6_pick_59 rfl rfl ?_
        have hz := Option.some.inj hf
        subst hz
        exact Z.iret hJ dX6_pick_60 rfl (Nat.le_refl _) (Nat.le_refl _) ⟨rfl, rfl⟩
def fX6_pick (si : Nat) (h : HT) : Option (Int32 × HT) :=
  if (h 21 1) ≤ (h 21 2) then (fX6_pick_20 si h)
  else (if (h 21 2) < 120 then (fX6_pick_24 si 1000 0 h)
  else (fX6_pick_20 si h))
set_option maxHeartbeats 4000000 in
theorem ctX6_pick {g : GP} {a : Nat → Nat} {P : PT} {h : HT} {z : Int32 × HT} {si : Nat} (hsi : si < 18) (hf : fX6_pick si h = some z) : Ct g 5 0 0 mX6_pick [.ref (a 21), .ref (gK g si)] (WD g a h P) (PoI g a P z) := by
  refine Ct.of (by decide +kernel) (Nat.le_of_ble_eq_true rfl) fun J hJ => ?_
  show Z g mX6_pick J 0 0 0 [some (.ref (a 21)), some (.ref (gK g si)), none] [] (WD g a h P)
  unfold fX6_pick at hf
  refine Z.aload_n (n := 1) dX6_pick_0 rfl rfl ?_
  refine Z.getf (n := 4) fX6_19 dX6_pick_1 rfl W21 rfl ?_
  refine Z.aload_n (n := 5) dX6_pick_4 rfl rfl ?_
  refine Z.getf (n := 8) fX6_15 dX6_pick_5 rfl W21 rfl ?_
  refine Z.icmp_ge (tgt := 20) (n := 11) dX6_pick_8 rfl rfl (fun c1 => ?_) (fun c1 => ?_)
  · rw [if_pos c1] at hf
    refine Z.fg [0, 1] ?_
    exact zX6_pick_20 hJ hsi _ hf
  · rw [if_neg c1] at hf
    refine Z.aload_n (n := 12) dX6_pick_11 rfl rfl ?_
    refine Z.getf (n := 15) fX6_19 dX6_pick_12 rfl W21 rfl ?_
    refine Z.bipush (n := 17) (v := 120) dX6_pick_15 rfl (by decide +kernel) ?_
    refine Z.icmp_lt (tgt := 22) (n := 20) dX6_pick_17 rfl rfl (fun c2 => ?_) (fun c2 => ?_)
    · rw [if_pos c2] at hf
      refine Z.iconst (n := 23) (v := 0) dX6_pick_22 rfl (by decide +kernel) ?_
      refine Z.istore_n (n := 24) dX6_pick_23 rfl (by decide) rfl ?_
      exact zX6_pick_24 hJ hsi _ _ _ hf
    · rw [if_neg c2] at hf
      refine Z.fg [0, 1] ?_
      exact zX6_pick_20 hJ hsi _ hf
def fX6_goesOn_47 (si : Nat) (k2_ : Int32 → HT → Option (Int32 × HT)) (h : HT) : Option (Int32 × HT) :=
  some (0, h)
set_option maxHeartbeats 4000000 in
theorem zX6_goesOn_47 {g : GP} {a : Nat → Nat} {P : PT} {J : JT} {z : Int32 × HT} {si : Nat} {k2_ : Int32 → HT → Option (Int32 × HT)} (hJ : JX g 5 0 0 (PoI g a P z) J) (hsi : si < 18) (hk2 : ∀ (l2 : Int32) (h : HT), k2_ l2 h = some z → Z g mX6_goesOn J 0 0 2 [some (.ref (a 21)), some (.ref (gK g si)), some (.int l2)] [] (WD g a h P)) (h : HT) (hf : fX6_goesOn_47 si k2_ h = some z) : Z g mX6_goesOn J 0 0 47 [none, none, none] [] (WD g a h P) := by
  unfold fX6_goesOn_47 at hf
  refine Z.iconst (n := 48) (v := 0) dX6_goesOn_47 rfl (by decide +kernel) ?_
  have hz := Option.some.inj hf
  subst hz
  exact Z.zret hJ dX6_goesOn_48 rfl rfl (Nat.le_refl _) (Nat.le_refl _) ⟨rfl, rfl⟩
def fX6_goesOn_2 (si : Nat) : Nat → Int32 → HT → Option (Int32 × HT)
  | 0, _, _ => none
  | n + 1, l2, h =>
  Option.bind (fJ0_length_8abf5 si h) fun z1 =>
  if z1.1 ≤ l2 then (some (1, z1.2))
  else (if (z1.2 21 1) ≤ (z1.2 21 2) then (fX6_goesOn_47 si (fX6_goesOn_2 si  n) z1.2)
  else (if 120 ≤ (z1.2 21 2) then (fX6_goesOn_47 si (fX6_goesOn_2 si  n) z1.2)
  else (Option.bind (ck 120 (z1.2 21 2)) fun j5 =>
  Option.bind (fJ0_charAt_5068e si l2 z1.2) fun z6 =>
  if (z1.2 22 j5) = z6.1 then (fX6_goesOn_2 si  n (l2 + 1) (hu z6.2 21 2 ((z6.2 21 2) + (1 : Int32))))
  else (fX6_goesOn_47 si (fX6_goesOn_2 si  n) z6.2))))
set_option maxHeartbeats 4000000 in
theorem zX6_goesOn_2 {g : GP} {a : Nat → Nat} {P : PT} {J : JT} {z : Int32 × HT} {si : Nat} (hJ : JX g 5 0 0 (PoI g a P z) J) (hsi : si < 18) : ∀ (n : Nat) (l2 : Int32) (h : HT), fX6_goesOn_2 si n l2 h = some z → Z g mX6_goesOn J 0 0 2 [some (.ref (a 21)), some (.ref (gK g si)), some (.int l2)] [] (WD g a h P) := by
  intro n
  induction n with
  | zero =>
    intro _ _ hf
    cases hf
  | succ n ih =>
    intro l2 h hf
    unfold fX6_goesOn_2 at hf
    refine Z.iload_n (n := 3) dX6_goesOn_2 rfl rfl ?_
    refine Z.aload_n (n := 4) dX6_goesOn_3 rfl rfl ?_
    obtain ⟨z1, ez1, hf⟩ := Option.bind_eq_some_iff.mp hf
    refine Z.callK (n := 7) vX6_28 (ctJ0_length_8abf5 hsi ez1) hJ.rm (Nat.le_of_ble_eq_true rfl) rfl rfl (Nat.le_refl _) (Nat.le_refl _) rfl hsi rfl rfl (Nat.le_of_ble_eq_true rfl) rfl dX6_goesOn_4 rfl (fun v w hw => ?_)
    obtain ⟨rfl, rfl⟩ := hw
    show Z _ _ _ _ _ _ _ [.int z1.1, .int l2] _
    refine Z.icmp_ge (tgt := 65) (n := 10) dX6_goesOn_7 rfl rfl (fun c2 => ?_) (fun c2 => ?_)
    · rw [if_pos c2] at hf
      refine Z.iconst (n := 66) (v := 1) dX6_goesOn_65 rfl (by decide +kernel) ?_
      have hz := Option.some.inj hf
      subst hz
      exact Z.zret hJ dX6_goesOn_66 rfl rfl (Nat.le_refl _) (Nat.le_refl _) ⟨rfl, rfl⟩
    · rw [if_neg c2] at hf
      refine Z.aload_n (n := 11) dX6_goesOn_10 rfl rfl ?_
      refine Z.getf (n := 14) fX6_19 dX6_goesOn_11 rfl W21 rfl ?_
      refine Z.aload_n (n := 15) dX6_goesOn_14 rfl rfl ?_
      refine Z.getf (n := 18) fX6_15 dX6_goesOn_15 rfl W21 rfl ?_
      refine Z.icmp_ge (tgt := 47) (n := 21) dX6_goesOn_18 rfl rfl (fun c3 => ?_) (fun c3 => ?_)
      · rw [if_pos c3] at hf
        refine Z.fg [0, 1, 2] ?_
        exact zX6_goesOn_47 hJ hsi ih _ hf
      · rw [if_neg c3] at hf
        refine Z.aload_n (n := 22) dX6_goesOn_21 rfl rfl ?_
        refine Z.getf (n := 25) fX6_19 dX6_goesOn_22 rfl W21 rfl ?_
        refine Z.bipush (n := 27) (v := 120) dX6_goesOn_25 rfl (by decide +kernel) ?_
        refine Z.icmp_ge (tgt := 47) (n := 30) dX6_goesOn_27 rfl rfl (fun c4 => ?_) (fun c4 => ?_)
        · rw [if_pos c4] at hf
          refine Z.fg [0, 1, 2] ?_
          exact zX6_goesOn_47 hJ hsi ih _ hf
        · rw [if_neg c4] at hf
          refine Z.aload_n (n := 31) dX6_goesOn_30 rfl rfl ?_
          refine Z.getf (n := 34) fX6_9 dX6_goesOn_31 rfl W21 rfl ?_
          refine Z.aload_n (n := 35) dX6_goesOn_34 rfl rfl ?_
          refine Z.getf (n := 38) fX6_19 dX6_goesOn_35 rfl W21 rfl ?_
          obtain ⟨j5, ej5, hf⟩ := Option.bind_eq_some_iff.mp hf
          obtain ⟨hij5, hlj5⟩ := ck_spec ej5
          refine Z.iald (j := j5) (n := 39) dX6_goesOn_38 rfl W22 hij5 hlj5 (by decide) ?_
          refine Z.aload_n (n := 40) dX6_goesOn_39 rfl rfl ?_
          refine Z.iload_n (n := 41) dX6_goesOn_40 rfl rfl ?_
          obtain ⟨z6, ez6, hf⟩ := Option.bind_eq_some_iff.mp hf
          refine Z.callK (n := 44) vX6_34 (ctJ0_charAt_5068e hsi ez6) hJ.rm (Nat.le_of_ble_eq_true rfl) rfl rfl (Nat.le_refl _) (Nat.le_refl _) rfl hsi rfl rfl (Nat.le_of_ble_eq_true rfl) rfl dX6_goesOn_41 rfl (fun v w hw => ?_)
          obtain ⟨rfl, rfl⟩ := hw
          show Z _ _ _ _ _ _ _ [.int z6.1, .int (z1.2 22 j5)] _
          refine Z.icmp_eq (tgt := 49) (n := 47) dX6_goesOn_44 rfl rfl (fun c7 => ?_) (fun c7 => ?_)
          · rw [if_pos c7] at hf
            refine Z.aload_n (n := 50) dX6_goesOn_49 rfl rfl ?_
            refine Z.dup (n := 51) dX6_goesOn_50 rfl rfl ?_
            refine Z.getf (n := 54) fX6_19 dX6_goesOn_51 rfl W21 rfl ?_
            refine Z.iconst (n := 55) (v := 1) dX6_goesOn_54 rfl (by decide +kernel) ?_
            refine Z.iadd (n := 56) dX6_goesOn_55 rfl ?_
            refine Z.putf (n := 59) pX6_19 dX6_goesOn_56 rfl W21 (Nat.le_of_ble_eq_true rfl) rfl rfl W21s_2 ?_
            refine Z.iinc (n := 62) (v := l2 + 1) dX6_goesOn_59 rfl rfl rfl (by decide) rfl ?_
            refine Z.goto (tgt := 2) dX6_goesOn_62 rfl ?_
            exact ih _ _ hf
          · rw [if_neg c7] at hf
            refine Z.fg [0, 1, 2] ?_
            exact zX6_goesOn_47 hJ hsi ih _ hf
def fX6_goesOn (si : Nat) (h : HT) : Option (Int32 × HT) :=
  fX6_goesOn_2 si 1000 0 h
set_option maxHeartbeats 4000000 in
theorem ctX6_goesOn {g : GP} {a : Nat → Nat} {P : PT} {h : HT} {z : Int32 × HT} {si : Nat} (hsi : si < 18) (hf : fX6_goesOn si h = some z) : Ct g 5 0 0 mX6_goesOn [.ref (a 21), .ref (gK g si)] (WD g a h P) (PoI g a P z) := by
  refine Ct.of (by decide +kernel) (Nat.le_of_ble_eq_true rfl) fun J hJ => ?_
  show Z g mX6_goesOn J 0 0 0 [some (.ref (a 21)), some (.ref (gK g si)), none] [] (WD g a h P)
  unfold fX6_goesOn at hf
  refine Z.iconst (n := 1) (v := 0) dX6_goesOn_0 rfl (by decide +kernel) ?_
  refine Z.istore_n (n := 2) dX6_goesOn_1 rfl (by decide) rfl ?_
  exact zX6_goesOn_2 hJ hsi _ _ _ hf
def fX6_numeral_15 : Nat → Int32 → Int32 → HT → Option (Int32 × HT)
  | 0, _, _, _ => none
  | n + 1, l1, l2, h =>
  if 3 ≤ l2 then (some (l1, h))
  else (Option.bind (fX6_pick 2 h) fun z4 =>
  if 0 ≤ z4.1 then (fX6_numeral_15  n ((l1 * (10 : Int32)) + z4.1) (l2 + 1) z4.2)
  else (some (l1, z4.2)))
set_option maxHeartbeats 4000000 in
theorem zX6_numeral_15 {g : GP} {a : Nat → Nat} {P : PT} {J : JT} {z : Int32 × HT} (hJ : JX g 6 0 0 (PoI g a P z) J) : ∀ (n : Nat) (l1 : Int32) (l2 : Int32) (h : HT), fX6_numeral_15 n l1 l2 h = some z → Z g mX6_numeral J 0 0 15 [some (.ref (a 21)), some (.int l1), some (.int l2), none] [] (WD g a h P) := by
  intro n
  induction n with
  | zero =>
    intro _ _ _ hf
    cases hf
  | succ n ih =>
    intro l1 l2 h hf
    unfold fX6_numeral_15 at hf
    refine Z.iload_n (n := 16) dX6_numeral_15 rfl rfl ?_
    refine Z.iconst (n := 17) (v := 3) dX6_numeral_16 rfl (by decide +kernel) ?_
    refine Z.icmp_ge (tgt := 46) (n := 20) dX6_numeral_17 rfl rfl (fun c3 => ?_) (fun c3 => ?_)
    · rw [if_pos c3] at hf
      refine Z.iload_n (n := 47) dX6_numeral_46 rfl rfl ?_
      have hz := Option.some.inj hf
      subst hz
      exact Z.iret hJ dX6_numeral_47 rfl (Nat.le_refl _) (Nat.le_refl _) ⟨rfl, rfl⟩
    · rw [if_neg c3] at hf
      refine Z.aload_n (n := 21) dX6_numeral_20 rfl rfl ?_
      refine Z.ldcS (n := 23) (i := 2) dX6_numeral_21 rfl rfl ?_
      obtain ⟨z4, ez4, hf⟩ := Option.bind_eq_some_iff.mp hf
      refine Z.callV (n := 26) vX6_40 (ctX6_pick (by decide) ez4) hJ.rm (Nat.le_of_ble_eq_true rfl) rfl rfl (Nat.le_refl _) (Nat.le_refl _) rfl W21 rfl rfl (Nat.le_of_ble_eq_true rfl) rfl dX6_numeral_23 rfl (fun v w hw => ?_)
      obtain ⟨rfl, rfl⟩ := hw
      show Z _ _ _ _ _ _ _ [.int z4.1] _
      refine Z.istore_n (n := 27) dX6_numeral_26 rfl (by decide) rfl ?_
      refine Z.iload_n (n := 28) dX6_numeral_27 rfl rfl ?_
      refine Z.if_ge (tgt := 33) (n := 31) dX6_numeral_28 rfl rfl (fun c5 => ?_) (fun c5 => ?_)
      · rw [if_pos c5] at hf
        refine Z.iload_n (n := 34) dX6_numeral_33 rfl rfl ?_
        refine Z.bipush (n := 36) (v := 10) dX6_numeral_34 rfl (by decide +kernel) ?_
        refine Z.imul (n := 37) dX6_numeral_36 rfl ?_
        refine Z.iload_n (n := 38) dX6_numeral_37 rfl rfl ?_
        refine Z.iadd (n := 39) dX6_numeral_38 rfl ?_
        refine Z.istore_n (n := 40) dX6_numeral_39 rfl (by decide) rfl ?_
        refine Z.iinc (n := 43) (v := l2 + 1) dX6_numeral_40 rfl rfl rfl (by decide) rfl ?_
        refine Z.goto (tgt := 15) dX6_numeral_43 rfl ?_
        refine Z.fg [3] ?_
        exact ih _ _ _ hf
      · rw [if_neg c5] at hf
        refine Z.iload_n (n := 32) dX6_numeral_31 rfl rfl ?_
        have hz := Option.some.inj hf
        subst hz
        exact Z.iret hJ dX6_numeral_32 rfl (Nat.le_refl _) (Nat.le_refl _) ⟨rfl, rfl⟩
def fX6_numeral (h : HT) : Option (Int32 × HT) :=
  Option.bind (fX6_pick 2 h) fun z1 =>
  if 0 < z1.1 then (fX6_numeral_15 1000 z1.1 1 z1.2)
  else (some (z1.1, z1.2))
set_option maxHeartbeats 4000000 in
theorem ctX6_numeral {g : GP} {a : Nat → Nat} {P : PT} {h : HT} {z : Int32 × HT} (hf : fX6_numeral h = some z) : Ct g 6 0 0 mX6_numeral [.ref (a 21)] (WD g a h P) (PoI g a P z) := by
  refine Ct.of (by decide +kernel) (Nat.le_of_ble_eq_true rfl) fun J hJ => ?_
  show Z g mX6_numeral J 0 0 0 [some (.ref (a 21)), none, none, none] [] (WD g a h P)
  unfold fX6_numeral at hf
  refine Z.aload_n (n := 1) dX6_numeral_0 rfl rfl ?_
  refine Z.ldcS (n := 3) (i := 2) dX6_numeral_1 rfl rfl ?_
  obtain ⟨z1, ez1, hf⟩ := Option.bind_eq_some_iff.mp hf
  refine Z.callV (n := 6) vX6_40 (ctX6_pick (by decide) ez1) hJ.rm (Nat.le_of_ble_eq_true rfl) rfl rfl (Nat.le_refl _) (Nat.le_refl _) rfl W21 rfl rfl (Nat.le_of_ble_eq_true rfl) rfl dX6_numeral_3 rfl (fun v w hw => ?_)
  obtain ⟨rfl, rfl⟩ := hw
  show Z _ _ _ _ _ _ _ [.int z1.1] _
  refine Z.istore_n (n := 7) dX6_numeral_6 rfl (by decide) rfl ?_
  refine Z.iload_n (n := 8) dX6_numeral_7 rfl rfl ?_
  refine Z.if_gt (tgt := 13) (n := 11) dX6_numeral_8 rfl rfl (fun c2 => ?_) (fun c2 => ?_)
  · rw [if_pos c2] at hf
    refine Z.iconst (n := 14) (v := 1) dX6_numeral_13 rfl (by decide +kernel) ?_
    refine Z.istore_n (n := 15) dX6_numeral_14 rfl (by decide) rfl ?_
    exact zX6_numeral_15 hJ _ _ _ _ hf
  · rw [if_neg c2] at hf
    refine Z.iload_n (n := 12) dX6_numeral_11 rfl rfl ?_
    have hz := Option.some.inj hf
    subst hz
    exact Z.iret hJ dX6_numeral_12 rfl (Nat.le_refl _) (Nat.le_refl _) ⟨rfl, rfl⟩
def fX6_become_h21_h61 (h : HT) : Option (Int32 × HT) :=
  some (0, hu (hcp h 22 62 120) 21 1 ((hcp h 22 62 120) 61 1))
set_option maxHeartbeats 4000000 in
theorem ctX6_become_h21_h61 {g : GP} {a : Nat → Nat} {P : PT} {h : HT} {z : Int32 × HT} (hf : fX6_become_h21_h61 h = some z) : Ct g 1 0 0 mX6_become [.ref (a 21), .ref (a 61)] (WD g a h P) (PoV g a P z) := by
  refine Ct.of (by decide +kernel) (Nat.le_of_ble_eq_true rfl) fun J hJ => ?_
  show Z g mX6_become J 0 0 0 [some (.ref (a 21)), some (.ref (a 61))] [] (WD g a h P)
  unfold fX6_become_h21_h61 at hf
  refine Z.aload_n (n := 1) dX6_become_0 rfl rfl ?_
  refine Z.getf (n := 4) fX6_9 dX6_become_1 rfl W61 rfl ?_
  refine Z.iconst (n := 5) (v := 0) dX6_become_4 rfl (by decide +kernel) ?_
  refine Z.aload_n (n := 6) dX6_become_5 rfl rfl ?_
  refine Z.getf (n := 9) fX6_9 dX6_become_6 rfl W21 rfl ?_
  refine Z.iconst (n := 10) (v := 0) dX6_become_9 rfl (by decide +kernel) ?_
  refine Z.bipush (n := 12) (v := 120) dX6_become_10 rfl (by decide +kernel) ?_
  refine Z.copy (N := 120) (n := 15) wX6_22 w_ac2 w_ac3 w_ac4 hJ.rm (Nat.le_of_ble_eq_true rfl) (Nat.le_of_ble_eq_true rfl) W62 W22 (by decide +kernel) (by decide) (by decide) (by decide) dX6_become_12 rfl (WD_setC (by decide) rfl) ?_
  refine Z.aload_n (n := 16) dX6_become_15 rfl rfl ?_
  refine Z.aload_n (n := 17) dX6_become_16 rfl rfl ?_
  refine Z.getf (n := 20) fX6_15 dX6_become_17 rfl W61 rfl ?_
  refine Z.putf (n := 23) pX6_15 dX6_become_20 rfl W21 (Nat.le_of_ble_eq_true rfl) rfl rfl W21s_1 ?_
  have hz := Option.some.inj hf
  subst hz
  exact Z.vret hJ dX6_become_23 rfl (Nat.le_refl _) (Nat.le_refl _) ⟨rfl, rfl⟩
def fX6_become_h61_h21 (h : HT) : Option (Int32 × HT) :=
  some (0, hu (hcp h 62 22 120) 61 1 ((hcp h 62 22 120) 21 1))
set_option maxHeartbeats 4000000 in
theorem ctX6_become_h61_h21 {g : GP} {a : Nat → Nat} {P : PT} {h : HT} {z : Int32 × HT} (hf : fX6_become_h61_h21 h = some z) : Ct g 1 0 0 mX6_become [.ref (a 61), .ref (a 21)] (WD g a h P) (PoV g a P z) := by
  refine Ct.of (by decide +kernel) (Nat.le_of_ble_eq_true rfl) fun J hJ => ?_
  show Z g mX6_become J 0 0 0 [some (.ref (a 61)), some (.ref (a 21))] [] (WD g a h P)
  unfold fX6_become_h61_h21 at hf
  refine Z.aload_n (n := 1) dX6_become_0 rfl rfl ?_
  refine Z.getf (n := 4) fX6_9 dX6_become_1 rfl W21 rfl ?_
  refine Z.iconst (n := 5) (v := 0) dX6_become_4 rfl (by decide +kernel) ?_
  refine Z.aload_n (n := 6) dX6_become_5 rfl rfl ?_
  refine Z.getf (n := 9) fX6_9 dX6_become_6 rfl W61 rfl ?_
  refine Z.iconst (n := 10) (v := 0) dX6_become_9 rfl (by decide +kernel) ?_
  refine Z.bipush (n := 12) (v := 120) dX6_become_10 rfl (by decide +kernel) ?_
  refine Z.copy (N := 120) (n := 15) wX6_22 w_ac2 w_ac3 w_ac4 hJ.rm (Nat.le_of_ble_eq_true rfl) (Nat.le_of_ble_eq_true rfl) W22 W62 (by decide +kernel) (by decide) (by decide) (by decide) dX6_become_12 rfl (WD_setC (by decide) rfl) ?_
  refine Z.aload_n (n := 16) dX6_become_15 rfl rfl ?_
  refine Z.aload_n (n := 17) dX6_become_16 rfl rfl ?_
  refine Z.getf (n := 20) fX6_15 dX6_become_17 rfl W21 rfl ?_
  refine Z.putf (n := 23) pX6_15 dX6_become_20 rfl W61 (Nat.le_of_ble_eq_true rfl) rfl rfl W61s_1 ?_
  have hz := Option.some.inj hf
  subst hz
  exact Z.vret hJ dX6_become_23 rfl (Nat.le_refl _) (Nat.le_refl _) ⟨rfl, rfl⟩
def fX10_step (l1 : Int32) (l2 : Int32) (l3 : Int32) (h : HT) : Option (Int32 × HT) :=
  if (h 81 4) < 120 then (Option.bind (ck 120 (h 81 4)) fun j2 =>
  Option.bind (ck 120 ((hu h 84 j2 l1) 81 4)) fun j3 =>
  Option.bind (ck 120 ((hu (hu h 84 j2 l1) 85 j3 l2) 81 4)) fun j4 =>
  some (0, hu (hu (hu (hu h 84 j2 l1) 85 j3 l2) 86 j4 l3) 81 4 (((hu (hu (hu h 84 j2 l1) 85 j3 l2) 86 j4 l3) 81 4) + (1 : Int32))))
  else (some (0, h))
set_option maxHeartbeats 4000000 in
theorem ctX10_step {g : GP} {a : Nat → Nat} {P : PT} {h : HT} {z : Int32 × HT} {l1 : Int32} {l2 : Int32} {l3 : Int32} (hf : fX10_step l1 l2 l3 h = some z) : Ct g 1 0 0 mX10_step [.ref (a 81), .int l1, .int l2, .int l3] (WD g a h P) (PoV g a P z) := by
  refine Ct.of (by decide +kernel) (Nat.le_of_ble_eq_true rfl) fun J hJ => ?_
  show Z g mX10_step J 0 0 0 [some (.ref (a 81)), some (.int l1), some (.int l2), some (.int l3)] [] (WD g a h P)
  unfold fX10_step at hf
  refine Z.aload_n (n := 1) dX10_step_0 rfl rfl ?_
  refine Z.getf (n := 4) fX10_24 dX10_step_1 rfl W81 rfl ?_
  refine Z.bipush (n := 6) (v := 120) dX10_step_4 rfl (by decide +kernel) ?_
  refine Z.icmp_lt (tgt := 10) (n := 9) dX10_step_6 rfl rfl (fun c1 => ?_) (fun c1 => ?_)
  · rw [if_pos c1] at hf
    refine Z.aload_n (n := 11) dX10_step_10 rfl rfl ?_
    refine Z.getf (n := 14) fX10_34 dX10_step_11 rfl W81 rfl ?_
    refine Z.aload_n (n := 15) dX10_step_14 rfl rfl ?_
    refine Z.getf (n := 18) fX10_24 dX10_step_15 rfl W81 rfl ?_
    refine Z.iload_n (n := 19) dX10_step_18 rfl rfl ?_
    obtain ⟨j2, ej2, hf⟩ := Option.bind_eq_some_iff.mp hf
    obtain ⟨hij2, hlj2⟩ := ck_spec ej2
    refine Z.iast (j := j2) (n := 20) dX10_step_19 rfl W84 hij2 hlj2 (by decide) W84s ?_
    refine Z.aload_n (n := 21) dX10_step_20 rfl rfl ?_
    refine Z.getf (n := 24) fX10_37 dX10_step_21 rfl W81 rfl ?_
    refine Z.aload_n (n := 25) dX10_step_24 rfl rfl ?_
    refine Z.getf (n := 28) fX10_24 dX10_step_25 rfl W81 rfl ?_
    refine Z.iload_n (n := 29) dX10_step_28 rfl rfl ?_
    obtain ⟨j3, ej3, hf⟩ := Option.bind_eq_some_iff.mp hf
    obtain ⟨hij3, hlj3⟩ := ck_spec ej3
    refine Z.iast (j := j3) (n := 30) dX10_step_29 rfl W85 hij3 hlj3 (by decide) W85s ?_
    refine Z.aload_n (n := 31) dX10_step_30 rfl rfl ?_
    refine Z.getf (n := 34) fX10_40 dX10_step_31 rfl W81 rfl ?_
    refine Z.aload_n (n := 35) dX10_step_34 rfl rfl ?_
    refine Z.getf (n := 38) fX10_24 dX10_step_35 rfl W81 rfl ?_
    refine Z.iload_n (n := 39) dX10_step_38 rfl rfl ?_
    obtain ⟨j4, ej4, hf⟩ := Option.bind_eq_some_iff.mp hf
    obtain ⟨hij4, hlj4⟩ := ck_spec ej4
    refine Z.iast (j := j4) (n := 40) dX10_step_39 rfl W86 hij4 hlj4 (by decide) W86s ?_
    refine Z.aload_n (n := 41) dX10_step_40 rfl rfl ?_
    refine Z.dup (n := 42) dX10_step_41 rfl rfl ?_
    refine Z.getf (n := 45) fX10_24 dX10_step_42 rfl W81 rfl ?_
    refine Z.iconst (n := 46) (v := 1) dX10_step_45 rfl (by decide +kernel) ?_
    refine Z.iadd (n := 47) dX10_step_46 rfl ?_
    refine Z.putf (n := 50) pX10_24 dX10_step_47 rfl W81 (Nat.le_of_ble_eq_true rfl) rfl rfl W81s_4 ?_
    have hz := Option.some.inj hf
    subst hz
    exact Z.vret hJ dX10_step_50 rfl (Nat.le_refl _) (Nat.le_refl _) ⟨rfl, rfl⟩
  · rw [if_neg c1] at hf
    have hz := Option.some.inj hf
    subst hz
    exact Z.vret hJ dX10_step_9 rfl (Nat.le_refl _) (Nat.le_refl _) ⟨rfl, rfl⟩
def fX10_amount_16 (si : Nat) (s0 : Int32) (h : HT) : Option (Int32 × HT) :=
  some (s0, h)
set_option maxHeartbeats 4000000 in
theorem zX10_amount_16 {g : GP} {a : Nat → Nat} {P : PT} {J : JT} {z : Int32 × HT} {si : Nat} (hJ : JX g 7 0 0 (PoI g a P z) J) (hsi : si < 18) (s0 : Int32) (h : HT) (hf : fX10_amount_16 si s0 h = some z) : Z g mX10_amount J 0 0 16 [none, none, none] [.int s0] (WD g a h P) := by
  unfold fX10_amount_16 at hf
  have hz := Option.some.inj hf
  subst hz
  exact Z.iret hJ dX10_amount_16 rfl (Nat.le_refl _) (Nat.le_refl _) ⟨rfl, rfl⟩
def fX10_amount (si : Nat) (h : HT) : Option (Int32 × HT) :=
  Option.bind (fX6_goesOn si h) fun z1 =>
  if z1.1 = 0 then (fX10_amount_16 si (-1) z1.2)
  else (Option.bind (fX6_numeral  z1.2) fun z3 =>
  fX10_amount_16 si z3.1 z3.2)
set_option maxHeartbeats 4000000 in
theorem ctX10_amount {g : GP} {a : Nat → Nat} {P : PT} {h : HT} {z : Int32 × HT} {si : Nat} (hsi : si < 18) (hf : fX10_amount si h = some z) : Ct g 7 0 0 mX10_amount [.ref (a 81), .ref (a 21), .ref (gK g si)] (WD g a h P) (PoI g a P z) := by
  refine Ct.of (by decide +kernel) (Nat.le_of_ble_eq_true rfl) fun J hJ => ?_
  show Z g mX10_amount J 0 0 0 [some (.ref (a 81)), some (.ref (a 21)), some (.ref (gK g si))] [] (WD g a h P)
  unfold fX10_amount at hf
  refine Z.aload_n (n := 1) dX10_amount_0 rfl rfl ?_
  refine Z.aload_n (n := 2) dX10_amount_1 rfl rfl ?_
  obtain ⟨z1, ez1, hf⟩ := Option.bind_eq_some_iff.mp hf
  refine Z.callV (n := 5) vX10_99 (ctX6_goesOn hsi ez1) hJ.rm (Nat.le_of_ble_eq_true rfl) rfl rfl (Nat.le_refl _) (Nat.le_refl _) rfl W21 rfl rfl (Nat.le_of_ble_eq_true rfl) rfl dX10_amount_2 rfl (fun v w hw => ?_)
  obtain ⟨rfl, rfl⟩ := hw
  show Z _ _ _ _ _ _ _ [.int z1.1] _
  refine Z.if_eq (tgt := 15) (n := 8) dX10_amount_5 rfl rfl (fun c2 => ?_) (fun c2 => ?_)
  · rw [if_pos c2] at hf
    refine Z.iconst (n := 16) (v := -1) dX10_amount_15 rfl (by decide +kernel) ?_
    refine Z.fg [0, 1, 2] ?_
    exact zX10_amount_16 hJ hsi _ _ hf
  · rw [if_neg c2] at hf
    refine Z.aload_n (n := 9) dX10_amount_8 rfl rfl ?_
    obtain ⟨z3, ez3, hf⟩ := Option.bind_eq_some_iff.mp hf
    refine Z.callV (n := 12) vX10_103 (ctX6_numeral ez3) hJ.rm (Nat.le_of_ble_eq_true rfl) rfl rfl (Nat.le_refl _) (Nat.le_refl _) rfl W21 rfl rfl (Nat.le_of_ble_eq_true rfl) rfl dX10_amount_9 rfl (fun v w hw => ?_)
    obtain ⟨rfl, rfl⟩ := hw
    show Z _ _ _ _ _ _ _ [.int z3.1] _
    refine Z.goto (tgt := 16) dX10_amount_12 rfl ?_
    refine Z.fg [0, 1, 2] ?_
    exact zX10_amount_16 hJ hsi _ _ hf
def fX10_both_52 (rec_X10_single : Int32 → HT → Option (Int32 × HT)) (h : HT) : Option (Int32 × HT) :=
  some (1, h)
set_option maxHeartbeats 4000000 in
theorem zX10_both_52 {g : GP} {a : Nat → Nat} {P : PT} {J : JT} {z : Int32 × HT} {rec_X10_single : Int32 → HT → Option (Int32 × HT)} {dr : Nat} (hJ : JX g (dr + 6) 0 0 (PoI g a P z) J) (hrec_X10_single : ∀ (l2 : Int32) (h : HT) (z : Int32 × HT), rec_X10_single l2 h = some z → Ct g dr 0 0 mX10_single [.ref (a 81), .ref (a 21), .int l2] (WD g a h P) (PoI g a P z)) (h : HT) (hf : fX10_both_52 rec_X10_single h = some z) : Z g mX10_both J 0 0 52 [none, none, none, none] [] (WD g a h P) := by
  unfold fX10_both_52 at hf
  refine Z.iconst (n := 53) (v := 1) dX10_both_52 rfl (by decide +kernel) ?_
  have hz := Option.some.inj hf
  subst hz
  exact Z.zret hJ dX10_both_53 rfl rfl (Nat.le_refl _) (Nat.le_refl _) ⟨rfl, rfl⟩
def fX10_both_13 (rec_X10_single : Int32 → HT → Option (Int32 × HT)) : Nat → Int32 → Int32 → HT → Option (Int32 × HT)
  | 0, _, _, _ => none
  | n + 1, l2, l3, h =>
  if 120 ≤ l3 then (fX10_both_52 rec_X10_single h)
  else (Option.bind (fX6_pick 8 h) fun z4 =>
  if z4.1 = 0 then (Option.bind (rec_X10_single l2 z4.2) fun z6 =>
  if z6.1 = 0 then (some (0, z6.2))
  else (Option.bind (fX10_step 5 0 0 z6.2) fun z8 =>
  fX10_both_13 rec_X10_single  n l2 (l3 + 1) z8.2))
  else (fX10_both_52 rec_X10_single z4.2))
set_option maxHeartbeats 4000000 in
theorem zX10_both_13 {g : GP} {a : Nat → Nat} {P : PT} {J : JT} {z : Int32 × HT} {rec_X10_single : Int32 → HT → Option (Int32 × HT)} {dr : Nat} (hJ : JX g (dr + 6) 0 0 (PoI g a P z) J) (hrec_X10_single : ∀ (l2 : Int32) (h : HT) (z : Int32 × HT), rec_X10_single l2 h = some z → Ct g dr 0 0 mX10_single [.ref (a 81), .ref (a 21), .int l2] (WD g a h P) (PoI g a P z)) : ∀ (n : Nat) (l2 : Int32) (l3 : Int32) (h : HT), fX10_both_13 rec_X10_single n l2 l3 h = some z → Z g mX10_both J 0 0 13 [some (.ref (a 81)), some (.ref (a 21)), some (.int l2), some (.int l3)] [] (WD g a h P) := by
  intro n
  induction n with
  | zero =>
    intro _ _ _ hf
    cases hf
  | succ n ih =>
    intro l2 l3 h hf
    unfold fX10_both_13 at hf
    refine Z.iload_n (n := 14) dX10_both_13 rfl rfl ?_
    refine Z.bipush (n := 16) (v := 120) dX10_both_14 rfl (by decide +kernel) ?_
    refine Z.icmp_ge (tgt := 52) (n := 19) dX10_both_16 rfl rfl (fun c3 => ?_) (fun c3 => ?_)
    · rw [if_pos c3] at hf
      refine Z.fg [0, 1, 2, 3] ?_
      exact zX10_both_52 hJ hrec_X10_single _ hf
    · rw [if_neg c3] at hf
      refine Z.aload_n (n := 20) dX10_both_19 rfl rfl ?_
      refine Z.ldcS (n := 22) (i := 8) dX10_both_20 rfl rfl ?_
      obtain ⟨z4, ez4, hf⟩ := Option.bind_eq_some_iff.mp hf
      refine Z.callV (n := 25) vX10_80 (ctX6_pick (by decide) ez4) hJ.rm (Nat.le_of_ble_eq_true rfl) rfl rfl (Nat.le_refl _) (Nat.le_refl _) rfl W21 rfl rfl (Nat.le_of_ble_eq_true rfl) rfl dX10_both_22 rfl (fun v w hw => ?_)
      obtain ⟨rfl, rfl⟩ := hw
      show Z _ _ _ _ _ _ _ [.int z4.1] _
      refine Z.if_ne (tgt := 52) (n := 28) dX10_both_25 rfl rfl (fun c5 => ?_) (fun c5 => ?_)
      · rw [if_neg c5] at hf
        refine Z.fg [0, 1, 2, 3] ?_
        exact zX10_both_52 hJ hrec_X10_single _ hf
      · rw [if_pos c5] at hf
        refine Z.aload_n (n := 29) dX10_both_28 rfl rfl ?_
        refine Z.aload_n (n := 30) dX10_both_29 rfl rfl ?_
        refine Z.iload_n (n := 31) dX10_both_30 rfl rfl ?_
        obtain ⟨z6, ez6, hf⟩ := Option.bind_eq_some_iff.mp hf
        refine Z.callV (n := 34) vX10_124 (hrec_X10_single _ _ _ ez6) hJ.rm (by omega) rfl rfl (Nat.le_refl _) (Nat.le_refl _) rfl W81 rfl rfl (Nat.le_of_ble_eq_true rfl) rfl dX10_both_31 rfl (fun v w hw => ?_)
        obtain ⟨rfl, rfl⟩ := hw
        show Z _ _ _ _ _ _ _ [.int z6.1] _
        refine Z.if_ne (tgt := 39) (n := 37) dX10_both_34 rfl rfl (fun c7 => ?_) (fun c7 => ?_)
        · rw [if_neg c7] at hf
          refine Z.aload_n (n := 40) dX10_both_39 rfl rfl ?_
          refine Z.iconst (n := 41) (v := 5) dX10_both_40 rfl (by decide +kernel) ?_
          refine Z.iconst (n := 42) (v := 0) dX10_both_41 rfl (by decide +kernel) ?_
          refine Z.iconst (n := 43) (v := 0) dX10_both_42 rfl (by decide +kernel) ?_
          obtain ⟨z8, ez8, hf⟩ := Option.bind_eq_some_iff.mp hf
          refine Z.callV (n := 46) vX10_120 (ctX10_step ez8) hJ.rm (Nat.le_of_ble_eq_true rfl) rfl rfl (Nat.le_refl _) (Nat.le_refl _) rfl W81 rfl rfl (Nat.le_of_ble_eq_true rfl) rfl dX10_both_43 rfl (fun v w hw => ?_)
          obtain ⟨rfl, rfl⟩ := hw
          show Z _ _ _ _ _ _ _ [] _
          refine Z.iinc (n := 49) (v := l3 + 1) dX10_both_46 rfl rfl rfl (by decide) rfl ?_
          refine Z.goto (tgt := 13) dX10_both_49 rfl ?_
          exact ih _ _ _ hf
        · rw [if_pos c7] at hf
          refine Z.iconst (n := 38) (v := 0) dX10_both_37 rfl (by decide +kernel) ?_
          have hz := Option.some.inj hf
          subst hz
          exact Z.zret hJ dX10_both_38 rfl rfl (Nat.le_refl _) (Nat.le_refl _) ⟨rfl, rfl⟩
def fX10_both (rec_X10_single : Int32 → HT → Option (Int32 × HT)) (l2 : Int32) (h : HT) : Option (Int32 × HT) :=
  Option.bind (rec_X10_single l2 h) fun z1 =>
  if z1.1 = 0 then (some (0, z1.2))
  else (fX10_both_13 rec_X10_single 1000 l2 0 z1.2)
set_option maxHeartbeats 4000000 in
theorem ctX10_both {g : GP} {a : Nat → Nat} {P : PT} {h : HT} {z : Int32 × HT} {rec_X10_single : Int32 → HT → Option (Int32 × HT)} {dr : Nat} {l2 : Int32} (hrec_X10_single : ∀ (l2 : Int32) (h : HT) (z : Int32 × HT), rec_X10_single l2 h = some z → Ct g dr 0 0 mX10_single [.ref (a 81), .ref (a 21), .int l2] (WD g a h P) (PoI g a P z)) (hf : fX10_both rec_X10_single l2 h = some z) : Ct g (dr + 6) 0 0 mX10_both [.ref (a 81), .ref (a 21), .int l2] (WD g a h P) (PoI g a P z) := by
  refine Ct.of (by decide +kernel) (Nat.le_of_ble_eq_true rfl) fun J hJ => ?_
  show Z g mX10_both J 0 0 0 [some (.ref (a 81)), some (.ref (a 21)), some (.int l2), none] [] (WD g a h P)
  unfold fX10_both at hf
  refine Z.aload_n (n := 1) dX10_both_0 rfl rfl ?_
  refine Z.aload_n (n := 2) dX10_both_1 rfl rfl ?_
  refine Z.iload_n (n := 3) dX10_both_2 rfl rfl ?_
  obtain ⟨z1, ez1, hf⟩ := Option.bind_eq_some_iff.mp hf
  refine Z.callV (n := 6) vX10_124 (hrec_X10_single _ _ _ ez1) hJ.rm (by omega) rfl rfl (Nat.le_refl _) (Nat.le_refl _) rfl W81 rfl rfl (Nat.le_of_ble_eq_true rfl) rfl dX10_both_3 rfl (fun v w hw => ?_)
  obtain ⟨rfl, rfl⟩ := hw
  show Z _ _ _ _ _ _ _ [.int z1.1] _
  refine Z.if_ne (tgt := 11) (n := 9) dX10_both_6 rfl rfl (fun c2 => ?_) (fun c2 => ?_)
  · rw [if_neg c2] at hf
    refine Z.iconst (n := 12) (v := 0) dX10_both_11 rfl (by decide +kernel) ?_
    refine Z.istore_n (n := 13) dX10_both_12 rfl (by decide) rfl ?_
    exact zX10_both_13 hJ hrec_X10_single _ _ _ _ hf
  · rw [if_pos c2] at hf
    refine Z.iconst (n := 10) (v := 0) dX10_both_9 rfl (by decide +kernel) ?_
    have hz := Option.some.inj hf
    subst hz
    exact Z.zret hJ dX10_both_10 rfl rfl (Nat.le_refl _) (Nat.le_refl _) ⟨rfl, rfl⟩
def fX10_either_53 (rec_X10_single : Int32 → HT → Option (Int32 × HT)) (h : HT) : Option (Int32 × HT) :=
  some (1, h)
set_option maxHeartbeats 4000000 in
theorem zX10_either_53 {g : GP} {a : Nat → Nat} {P : PT} {J : JT} {z : Int32 × HT} {rec_X10_single : Int32 → HT → Option (Int32 × HT)} {dr : Nat} (hJ : JX g (dr + 7) 0 0 (PoI g a P z) J) (hrec_X10_single : ∀ (l2 : Int32) (h : HT) (z : Int32 × HT), rec_X10_single l2 h = some z → Ct g dr 0 0 mX10_single [.ref (a 81), .ref (a 21), .int l2] (WD g a h P) (PoI g a P z)) (h : HT) (hf : fX10_either_53 rec_X10_single h = some z) : Z g mX10_either J 0 0 53 [none, none, none, none] [] (WD g a h P) := by
  unfold fX10_either_53 at hf
  refine Z.iconst (n := 54) (v := 1) dX10_either_53 rfl (by decide +kernel) ?_
  have hz := Option.some.inj hf
  subst hz
  exact Z.zret hJ dX10_either_54 rfl rfl (Nat.le_refl _) (Nat.le_refl _) ⟨rfl, rfl⟩
def fX10_either_13 (rec_X10_single : Int32 → HT → Option (Int32 × HT)) : Nat → Int32 → Int32 → HT → Option (Int32 × HT)
  | 0, _, _, _ => none
  | n + 1, l2, l3, h =>
  if 120 ≤ l3 then (fX10_either_53 rec_X10_single h)
  else (Option.bind (fX6_pick 9 h) fun z4 =>
  if z4.1 = 0 then (Option.bind (fX10_both rec_X10_single l2 z4.2) fun z6 =>
  if z6.1 = 0 then (some (0, z6.2))
  else (Option.bind (fX10_step 6 0 0 z6.2) fun z8 =>
  fX10_either_13 rec_X10_single  n l2 (l3 + 1) z8.2))
  else (fX10_either_53 rec_X10_single z4.2))
set_option maxHeartbeats 4000000 in
theorem zX10_either_13 {g : GP} {a : Nat → Nat} {P : PT} {J : JT} {z : Int32 × HT} {rec_X10_single : Int32 → HT → Option (Int32 × HT)} {dr : Nat} (hJ : JX g (dr + 7) 0 0 (PoI g a P z) J) (hrec_X10_single : ∀ (l2 : Int32) (h : HT) (z : Int32 × HT), rec_X10_single l2 h = some z → Ct g dr 0 0 mX10_single [.ref (a 81), .ref (a 21), .int l2] (WD g a h P) (PoI g a P z)) : ∀ (n : Nat) (l2 : Int32) (l3 : Int32) (h : HT), fX10_either_13 rec_X10_single n l2 l3 h = some z → Z g mX10_either J 0 0 13 [some (.ref (a 81)), some (.ref (a 21)), some (.int l2), some (.int l3)] [] (WD g a h P) := by
  intro n
  induction n with
  | zero =>
    intro _ _ _ hf
    cases hf
  | succ n ih =>
    intro l2 l3 h hf
    unfold fX10_either_13 at hf
    refine Z.iload_n (n := 14) dX10_either_13 rfl rfl ?_
    refine Z.bipush (n := 16) (v := 120) dX10_either_14 rfl (by decide +kernel) ?_
    refine Z.icmp_ge (tgt := 53) (n := 19) dX10_either_16 rfl rfl (fun c3 => ?_) (fun c3 => ?_)
    · rw [if_pos c3] at hf
      refine Z.fg [0, 1, 2, 3] ?_
      exact zX10_either_53 hJ hrec_X10_single _ hf
    · rw [if_neg c3] at hf
      refine Z.aload_n (n := 20) dX10_either_19 rfl rfl ?_
      refine Z.ldcS (n := 22) (i := 9) dX10_either_20 rfl rfl ?_
      obtain ⟨z4, ez4, hf⟩ := Option.bind_eq_some_iff.mp hf
      refine Z.callV (n := 25) vX10_80 (ctX6_pick (by decide) ez4) hJ.rm (Nat.le_of_ble_eq_true rfl) rfl rfl (Nat.le_refl _) (Nat.le_refl _) rfl W21 rfl rfl (Nat.le_of_ble_eq_true rfl) rfl dX10_either_22 rfl (fun v w hw => ?_)
      obtain ⟨rfl, rfl⟩ := hw
      show Z _ _ _ _ _ _ _ [.int z4.1] _
      refine Z.if_ne (tgt := 53) (n := 28) dX10_either_25 rfl rfl (fun c5 => ?_) (fun c5 => ?_)
      · rw [if_neg c5] at hf
        refine Z.fg [0, 1, 2, 3] ?_
        exact zX10_either_53 hJ hrec_X10_single _ hf
      · rw [if_pos c5] at hf
        refine Z.aload_n (n := 29) dX10_either_28 rfl rfl ?_
        refine Z.aload_n (n := 30) dX10_either_29 rfl rfl ?_
        refine Z.iload_n (n := 31) dX10_either_30 rfl rfl ?_
        obtain ⟨z6, ez6, hf⟩ := Option.bind_eq_some_iff.mp hf
        refine Z.callV (n := 34) vX10_115 (ctX10_both hrec_X10_single ez6) hJ.rm (by omega) rfl rfl (Nat.le_refl _) (Nat.le_refl _) rfl W81 rfl rfl (Nat.le_of_ble_eq_true rfl) rfl dX10_either_31 rfl (fun v w hw => ?_)
        obtain ⟨rfl, rfl⟩ := hw
        show Z _ _ _ _ _ _ _ [.int z6.1] _
        refine Z.if_ne (tgt := 39) (n := 37) dX10_either_34 rfl rfl (fun c7 => ?_) (fun c7 => ?_)
        · rw [if_neg c7] at hf
          refine Z.aload_n (n := 40) dX10_either_39 rfl rfl ?_
          refine Z.bipush (n := 42) (v := 6) dX10_either_40 rfl (by decide +kernel) ?_
          refine Z.iconst (n := 43) (v := 0) dX10_either_42 rfl (by decide +kernel) ?_
          refine Z.iconst (n := 44) (v := 0) dX10_either_43 rfl (by decide +kernel) ?_
          obtain ⟨z8, ez8, hf⟩ := Option.bind_eq_some_iff.mp hf
          refine Z.callV (n := 47) vX10_120 (ctX10_step ez8) hJ.rm (Nat.le_of_ble_eq_true rfl) rfl rfl (Nat.le_refl _) (Nat.le_refl _) rfl W81 rfl rfl (Nat.le_of_ble_eq_true rfl) rfl dX10_either_44 rfl (fun v w hw => ?_)
          obtain ⟨rfl, rfl⟩ := hw
          show Z _ _ _ _ _ _ _ [] _
          refine Z.iinc (n := 50) (v := l3 + 1) dX10_either_47 rfl rfl rfl (by decide) rfl ?_
          refine Z.goto (tgt := 13) dX10_either_50 rfl ?_
          exact ih _ _ _ hf
        · rw [if_pos c7] at hf
          refine Z.iconst (n := 38) (v := 0) dX10_either_37 rfl (by decide +kernel) ?_
          have hz := Option.some.inj hf
          subst hz
          exact Z.zret hJ dX10_either_38 rfl rfl (Nat.le_refl _) (Nat.le_refl _) ⟨rfl, rfl⟩
def fX10_either (rec_X10_single : Int32 → HT → Option (Int32 × HT)) (l2 : Int32) (h : HT) : Option (Int32 × HT) :=
  Option.bind (fX10_both rec_X10_single l2 h) fun z1 =>
  if z1.1 = 0 then (some (0, z1.2))
  else (fX10_either_13 rec_X10_single 1000 l2 0 z1.2)
set_option maxHeartbeats 4000000 in
theorem ctX10_either {g : GP} {a : Nat → Nat} {P : PT} {h : HT} {z : Int32 × HT} {rec_X10_single : Int32 → HT → Option (Int32 × HT)} {dr : Nat} {l2 : Int32} (hrec_X10_single : ∀ (l2 : Int32) (h : HT) (z : Int32 × HT), rec_X10_single l2 h = some z → Ct g dr 0 0 mX10_single [.ref (a 81), .ref (a 21), .int l2] (WD g a h P) (PoI g a P z)) (hf : fX10_either rec_X10_single l2 h = some z) : Ct g (dr + 7) 0 0 mX10_either [.ref (a 81), .ref (a 21), .int l2] (WD g a h P) (PoI g a P z) := by
  refine Ct.of (by decide +kernel) (Nat.le_of_ble_eq_true rfl) fun J hJ => ?_
  show Z g mX10_either J 0 0 0 [some (.ref (a 81)), some (.ref (a 21)), some (.int l2), none] [] (WD g a h P)
  unfold fX10_either at hf
  refine Z.aload_n (n := 1) dX10_either_0 rfl rfl ?_
  refine Z.aload_n (n := 2) dX10_either_1 rfl rfl ?_
  refine Z.iload_n (n := 3) dX10_either_2 rfl rfl ?_
  obtain ⟨z1, ez1, hf⟩ := Option.bind_eq_some_iff.mp hf
  refine Z.callV (n := 6) vX10_115 (ctX10_both hrec_X10_single ez1) hJ.rm (by omega) rfl rfl (Nat.le_refl _) (Nat.le_refl _) rfl W81 rfl rfl (Nat.le_of_ble_eq_true rfl) rfl dX10_either_3 rfl (fun v w hw => ?_)
  obtain ⟨rfl, rfl⟩ := hw
  show Z _ _ _ _ _ _ _ [.int z1.1] _
  refine Z.if_ne (tgt := 11) (n := 9) dX10_either_6 rfl rfl (fun c2 => ?_) (fun c2 => ?_)
  · rw [if_neg c2] at hf
    refine Z.iconst (n := 12) (v := 0) dX10_either_11 rfl (by decide +kernel) ?_
    refine Z.istore_n (n := 13) dX10_either_12 rfl (by decide) rfl ?_
    exact zX10_either_13 hJ hrec_X10_single _ _ _ _ hf
  · rw [if_pos c2] at hf
    refine Z.iconst (n := 10) (v := 0) dX10_either_9 rfl (by decide +kernel) ?_
    have hz := Option.some.inj hf
    subst hz
    exact Z.zret hJ dX10_either_10 rfl rfl (Nat.le_refl _) (Nat.le_refl _) ⟨rfl, rfl⟩
def fX10_test (h : HT) : Option (Int32 × HT) :=
  Option.bind (fX6_pick 5 h) fun z1 =>
  if 0 ≤ z1.1 then (Option.bind (fX6_pick 6 z1.2) fun z3 =>
  if 0 ≤ z3.1 then (Option.bind (fX6_numeral  z3.2) fun z5 =>
  if 0 ≤ z5.1 then (Option.bind (fX10_step z1.1 z3.1 z5.1 z5.2) fun z7 =>
  some (1, z7.2))
  else (some (0, z5.2)))
  else (some (0, z3.2)))
  else (some (0, z1.2))
set_option maxHeartbeats 4000000 in
theorem ctX10_test {g : GP} {a : Nat → Nat} {P : PT} {h : HT} {z : Int32 × HT} (hf : fX10_test h = some z) : Ct g 7 0 0 mX10_test [.ref (a 81), .ref (a 21)] (WD g a h P) (PoI g a P z) := by
  refine Ct.of (by decide +kernel) (Nat.le_of_ble_eq_true rfl) fun J hJ => ?_
  show Z g mX10_test J 0 0 0 [some (.ref (a 81)), some (.ref (a 21)), none, none, none] [] (WD g a h P)
  unfold fX10_test at hf
  refine Z.aload_n (n := 1) dX10_test_0 rfl rfl ?_
  refine Z.ldcS (n := 3) (i := 5) dX10_test_1 rfl rfl ?_
  obtain ⟨z1, ez1, hf⟩ := Option.bind_eq_some_iff.mp hf
  refine Z.callV (n := 6) vX10_80 (ctX6_pick (by decide) ez1) hJ.rm (Nat.le_of_ble_eq_true rfl) rfl rfl (Nat.le_refl _) (Nat.le_refl _) rfl W21 rfl rfl (Nat.le_of_ble_eq_true rfl) rfl dX10_test_3 rfl (fun v w hw => ?_)
  obtain ⟨rfl, rfl⟩ := hw
  show Z _ _ _ _ _ _ _ [.int z1.1] _
  refine Z.istore_n (n := 7) dX10_test_6 rfl (by decide) rfl ?_
  refine Z.iload_n (n := 8) dX10_test_7 rfl rfl ?_
  refine Z.if_ge (tgt := 13) (n := 11) dX10_test_8 rfl rfl (fun c2 => ?_) (fun c2 => ?_)
  · rw [if_pos c2] at hf
    refine Z.aload_n (n := 14) dX10_test_13 rfl rfl ?_
    refine Z.ldcS (n := 16) (i := 6) dX10_test_14 rfl rfl ?_
    obtain ⟨z3, ez3, hf⟩ := Option.bind_eq_some_iff.mp hf
    refine Z.callV (n := 19) vX10_80 (ctX6_pick (by decide) ez3) hJ.rm (Nat.le_of_ble_eq_true rfl) rfl rfl (Nat.le_refl _) (Nat.le_refl _) rfl W21 rfl rfl (Nat.le_of_ble_eq_true rfl) rfl dX10_test_16 rfl (fun v w hw => ?_)
    obtain ⟨rfl, rfl⟩ := hw
    show Z _ _ _ _ _ _ _ [.int z3.1] _
    refine Z.istore_n (n := 20) dX10_test_19 rfl (by decide) rfl ?_
    refine Z.iload_n (n := 21) dX10_test_20 rfl rfl ?_
    refine Z.if_ge (tgt := 26) (n := 24) dX10_test_21 rfl rfl (fun c4 => ?_) (fun c4 => ?_)
    · rw [if_pos c4] at hf
      refine Z.aload_n (n := 27) dX10_test_26 rfl rfl ?_
      obtain ⟨z5, ez5, hf⟩ := Option.bind_eq_some_iff.mp hf
      refine Z.callV (n := 30) vX10_103 (ctX6_numeral ez5) hJ.rm (Nat.le_of_ble_eq_true rfl) rfl rfl (Nat.le_refl _) (Nat.le_refl _) rfl W21 rfl rfl (Nat.le_of_ble_eq_true rfl) rfl dX10_test_27 rfl (fun v w hw => ?_)
      obtain ⟨rfl, rfl⟩ := hw
      show Z _ _ _ _ _ _ _ [.int z5.1] _
      refine Z.istore (n := 32) dX10_test_30 rfl (by decide) rfl ?_
      refine Z.iload (n := 34) dX10_test_32 rfl rfl ?_
      refine Z.if_ge (tgt := 39) (n := 37) dX10_test_34 rfl rfl (fun c6 => ?_) (fun c6 => ?_)
      · rw [if_pos c6] at hf
        refine Z.aload_n (n := 40) dX10_test_39 rfl rfl ?_
        refine Z.iload_n (n := 41) dX10_test_40 rfl rfl ?_
        refine Z.iload_n (n := 42) dX10_test_41 rfl rfl ?_
        refine Z.iload (n := 44) dX10_test_42 rfl rfl ?_
        obtain ⟨z7, ez7, hf⟩ := Option.bind_eq_some_iff.mp hf
        refine Z.callV (n := 47) vX10_120 (ctX10_step ez7) hJ.rm (Nat.le_of_ble_eq_true rfl) rfl rfl (Nat.le_refl _) (Nat.le_refl _) rfl W81 rfl rfl (Nat.le_of_ble_eq_true rfl) rfl dX10_test_44 rfl (fun v w hw => ?_)
        obtain ⟨rfl, rfl⟩ := hw
        show Z _ _ _ _ _ _ _ [] _
        refine Z.iconst (n := 48) (v := 1) dX10_test_47 rfl (by decide +kernel) ?_
        have hz := Option.some.inj hf
        subst hz
        exact Z.zret hJ dX10_test_48 rfl rfl (Nat.le_refl _) (Nat.le_refl _) ⟨rfl, rfl⟩
      · rw [if_neg c6] at hf
        refine Z.iconst (n := 38) (v := 0) dX10_test_37 rfl (by decide +kernel) ?_
        have hz := Option.some.inj hf
        subst hz
        exact Z.zret hJ dX10_test_38 rfl rfl (Nat.le_refl _) (Nat.le_refl _) ⟨rfl, rfl⟩
    · rw [if_neg c4] at hf
      refine Z.iconst (n := 25) (v := 0) dX10_test_24 rfl (by decide +kernel) ?_
      have hz := Option.some.inj hf
      subst hz
      exact Z.zret hJ dX10_test_25 rfl rfl (Nat.le_refl _) (Nat.le_refl _) ⟨rfl, rfl⟩
  · rw [if_neg c2] at hf
    refine Z.iconst (n := 12) (v := 0) dX10_test_11 rfl (by decide +kernel) ?_
    have hz := Option.some.inj hf
    subst hz
    exact Z.zret hJ dX10_test_12 rfl rfl (Nat.le_refl _) (Nat.le_refl _) ⟨rfl, rfl⟩
def fX10_singleb_56 (rec_X10_single : Int32 → HT → Option (Int32 × HT)) (s0 : Int32) (h : HT) : Option (Int32 × HT) :=
  Option.bind (cb s0) fun u9 =>
  some (s0, h)
set_option maxHeartbeats 4000000 in
theorem zX10_singleb_56 {g : GP} {a : Nat → Nat} {P : PT} {J : JT} {z : Int32 × HT} {rec_X10_single : Int32 → HT → Option (Int32 × HT)} {dr : Nat} (hJ : JX g (dr + 8) 0 0 (PoI g a P z) J) (hrec_X10_single : ∀ (l2 : Int32) (h : HT) (z : Int32 × HT), rec_X10_single l2 h = some z → Ct g dr 0 0 mX10_single [.ref (a 81), .ref (a 21), .int l2] (WD g a h P) (PoI g a P z)) (s0 : Int32) (h : HT) (hf : fX10_singleb_56 rec_X10_single s0 h = some z) : Z g mX10_single J 0 0 56 [none, none, none, none] [.int s0] (WD g a h P) := by
  unfold fX10_singleb_56 at hf
  obtain ⟨u9, eu9, hf⟩ := Option.bind_eq_some_iff.mp hf
  have hz := Option.some.inj hf
  subst hz
  exact Z.zret hJ dX10_single_56 rfl (cb_nar eu9) (Nat.le_refl _) (Nat.le_refl _) ⟨rfl, rfl⟩
def fX10_singleb_55 (rec_X10_single : Int32 → HT → Option (Int32 × HT)) (h : HT) : Option (Int32 × HT) :=
  fX10_singleb_56 rec_X10_single 0 h
set_option maxHeartbeats 4000000 in
theorem zX10_singleb_55 {g : GP} {a : Nat → Nat} {P : PT} {J : JT} {z : Int32 × HT} {rec_X10_single : Int32 → HT → Option (Int32 × HT)} {dr : Nat} (hJ : JX g (dr + 8) 0 0 (PoI g a P z) J) (hrec_X10_single : ∀ (l2 : Int32) (h : HT) (z : Int32 × HT), rec_X10_single l2 h = some z → Ct g dr 0 0 mX10_single [.ref (a 81), .ref (a 21), .int l2] (WD g a h P) (PoI g a P z)) (h : HT) (hf : fX10_singleb_55 rec_X10_single h = some z) : Z g mX10_single J 0 0 55 [none, none, none, none] [] (WD g a h P) := by
  unfold fX10_singleb_55 at hf
  refine Z.iconst (n := 56) (v := 0) dX10_single_55 rfl (by decide +kernel) ?_
  exact zX10_singleb_56 hJ hrec_X10_single _ _ hf
def fX10_singleb_15 (rec_X10_single : Int32 → HT → Option (Int32 × HT)) (l2 : Int32) (s0 : Int32) (h : HT) : Option (Int32 × HT) :=
  if 0 ≤ s0 then (if s0 = 1 then (Option.bind (fX10_either rec_X10_single (l2 + (1 : Int32)) h) fun z7 =>
  if z7.1 = 0 then (fX10_singleb_55 rec_X10_single z7.2)
  else (Option.bind (fX6_pick 7 z7.2) fun z10 =>
  if z10.1 = 0 then (fX10_singleb_56 rec_X10_single 1 z10.2)
  else (fX10_singleb_55 rec_X10_single z10.2)))
  else (Option.bind (rec_X10_single (l2 + (1 : Int32)) h) fun z4 =>
  if z4.1 = 0 then (some (0, z4.2))
  else (Option.bind (fX10_step 4 0 0 z4.2) fun z6 =>
  some (1, z6.2))))
  else (Option.bind (fX10_test  h) fun z12 =>
  Option.bind (cb z12.1) fun u13 =>
  some (z12.1, z12.2))
set_option maxHeartbeats 4000000 in
theorem zX10_singleb_15 {g : GP} {a : Nat → Nat} {P : PT} {J : JT} {z : Int32 × HT} {rec_X10_single : Int32 → HT → Option (Int32 × HT)} {dr : Nat} (hJ : JX g (dr + 8) 0 0 (PoI g a P z) J) (hrec_X10_single : ∀ (l2 : Int32) (h : HT) (z : Int32 × HT), rec_X10_single l2 h = some z → Ct g dr 0 0 mX10_single [.ref (a 81), .ref (a 21), .int l2] (WD g a h P) (PoI g a P z)) (l2 : Int32) (s0 : Int32) (h : HT) (hf : fX10_singleb_15 rec_X10_single l2 s0 h = some z) : Z g mX10_single J 0 0 15 [some (.ref (a 81)), some (.ref (a 21)), some (.int l2), none] [.int s0] (WD g a h P) := by
  unfold fX10_singleb_15 at hf
  refine Z.istore_n (n := 16) dX10_single_15 rfl (by decide) rfl ?_
  refine Z.iload_n (n := 17) dX10_single_16 rfl rfl ?_
  refine Z.if_ge (tgt := 26) (n := 20) dX10_single_17 rfl rfl (fun c2 => ?_) (fun c2 => ?_)
  · rw [if_pos c2] at hf
    refine Z.iload_n (n := 27) dX10_single_26 rfl rfl ?_
    refine Z.iconst (n := 28) (v := 1) dX10_single_27 rfl (by decide +kernel) ?_
    refine Z.icmp_ne (tgt := 57) (n := 31) dX10_single_28 rfl rfl (fun c3 => ?_) (fun c3 => ?_)
    · rw [if_neg c3] at hf
      refine Z.aload_n (n := 58) dX10_single_57 rfl rfl ?_
      refine Z.aload_n (n := 59) dX10_single_58 rfl rfl ?_
      refine Z.iload_n (n := 60) dX10_single_59 rfl rfl ?_
      refine Z.iconst (n := 61) (v := 1) dX10_single_60 rfl (by decide +kernel) ?_
      refine Z.iadd (n := 62) dX10_single_61 rfl ?_
      obtain ⟨z4, ez4, hf⟩ := Option.bind_eq_some_iff.mp hf
      refine Z.callV (n := 65) vX10_124 (hrec_X10_single _ _ _ ez4) hJ.rm (by omega) rfl rfl (Nat.le_refl _) (Nat.le_refl _) rfl W81 rfl rfl (Nat.le_of_ble_eq_true rfl) rfl dX10_single_62 rfl (fun v w hw => ?_)
      obtain ⟨rfl, rfl⟩ := hw
      show Z _ _ _ _ _ _ _ [.int z4.1] _
      refine Z.if_ne (tgt := 70) (n := 68) dX10_single_65 rfl rfl (fun c5 => ?_) (fun c5 => ?_)
      · rw [if_neg c5] at hf
        refine Z.aload_n (n := 71) dX10_single_70 rfl rfl ?_
        refine Z.iconst (n := 72) (v := 4) dX10_single_71 rfl (by decide +kernel) ?_
        refine Z.iconst (n := 73) (v := 0) dX10_single_72 rfl (by decide +kernel) ?_
        refine Z.iconst (n := 74) (v := 0) dX10_single_73 rfl (by decide +kernel) ?_
        obtain ⟨z6, ez6, hf⟩ := Option.bind_eq_some_iff.mp hf
        refine Z.callV (n := 77) vX10_120 (ctX10_step ez6) hJ.rm (Nat.le_of_ble_eq_true rfl) rfl rfl (Nat.le_refl _) (Nat.le_refl _) rfl W81 rfl rfl (Nat.le_of_ble_eq_true rfl) rfl dX10_single_74 rfl (fun v w hw => ?_)
        obtain ⟨rfl, rfl⟩ := hw
        show Z _ _ _ _ _ _ _ [] _
        refine Z.iconst (n := 78) (v := 1) dX10_single_77 rfl (by decide +kernel) ?_
        have hz := Option.some.inj hf
        subst hz
        exact Z.zret hJ dX10_single_78 rfl rfl (Nat.le_refl _) (Nat.le_refl _) ⟨rfl, rfl⟩
      · rw [if_pos c5] at hf
        refine Z.iconst (n := 69) (v := 0) dX10_single_68 rfl (by decide +kernel) ?_
        have hz := Option.some.inj hf
        subst hz
        exact Z.zret hJ dX10_single_69 rfl rfl (Nat.le_refl _) (Nat.le_refl _) ⟨rfl, rfl⟩
    · rw [if_pos c3] at hf
      refine Z.aload_n (n := 32) dX10_single_31 rfl rfl ?_
      refine Z.aload_n (n := 33) dX10_single_32 rfl rfl ?_
      refine Z.iload_n (n := 34) dX10_single_33 rfl rfl ?_
      refine Z.iconst (n := 35) (v := 1) dX10_single_34 rfl (by decide +kernel) ?_
      refine Z.iadd (n := 36) dX10_single_35 rfl ?_
      obtain ⟨z7, ez7, hf⟩ := Option.bind_eq_some_iff.mp hf
      refine Z.callV (n := 39) vX10_111 (ctX10_either hrec_X10_single ez7) hJ.rm (by omega) rfl rfl (Nat.le_refl _) (Nat.le_refl _) rfl W81 rfl rfl (Nat.le_of_ble_eq_true rfl) rfl dX10_single_36 rfl (fun v w hw => ?_)
      obtain ⟨rfl, rfl⟩ := hw
      show Z _ _ _ _ _ _ _ [.int z7.1] _
      refine Z.if_eq (tgt := 55) (n := 42) dX10_single_39 rfl rfl (fun c8 => ?_) (fun c8 => ?_)
      · rw [if_pos c8] at hf
        refine Z.fg [0, 1, 2, 3] ?_
        exact zX10_singleb_55 hJ hrec_X10_single _ hf
      · rw [if_neg c8] at hf
        refine Z.aload_n (n := 43) dX10_single_42 rfl rfl ?_
        refine Z.ldcS (n := 45) (i := 7) dX10_single_43 rfl rfl ?_
        obtain ⟨z10, ez10, hf⟩ := Option.bind_eq_some_iff.mp hf
        refine Z.callV (n := 48) vX10_80 (ctX6_pick (by decide) ez10) hJ.rm (Nat.le_of_ble_eq_true rfl) rfl rfl (Nat.le_refl _) (Nat.le_refl _) rfl W21 rfl rfl (Nat.le_of_ble_eq_true rfl) rfl dX10_single_45 rfl (fun v w hw => ?_)
        obtain ⟨rfl, rfl⟩ := hw
        show Z _ _ _ _ _ _ _ [.int z10.1] _
        refine Z.if_ne (tgt := 55) (n := 51) dX10_single_48 rfl rfl (fun c11 => ?_) (fun c11 => ?_)
        · rw [if_neg c11] at hf
          refine Z.fg [0, 1, 2, 3] ?_
          exact zX10_singleb_55 hJ hrec_X10_single _ hf
        · rw [if_pos c11] at hf
          refine Z.iconst (n := 52) (v := 1) dX10_single_51 rfl (by decide +kernel) ?_
          refine Z.goto (tgt := 56) dX10_single_52 rfl ?_
          refine Z.fg [0, 1, 2, 3] ?_
          exact zX10_singleb_56 hJ hrec_X10_single _ _ hf
  · rw [if_neg c2] at hf
    refine Z.aload_n (n := 21) dX10_single_20 rfl rfl ?_
    refine Z.aload_n (n := 22) dX10_single_21 rfl rfl ?_
    obtain ⟨z12, ez12, hf⟩ := Option.bind_eq_some_iff.mp hf
    refine Z.callV (n := 25) vX10_131 (ctX10_test ez12) hJ.rm (Nat.le_of_ble_eq_true rfl) rfl rfl (Nat.le_refl _) (Nat.le_refl _) rfl W81 rfl rfl (Nat.le_of_ble_eq_true rfl) rfl dX10_single_22 rfl (fun v w hw => ?_)
    obtain ⟨rfl, rfl⟩ := hw
    show Z _ _ _ _ _ _ _ [.int z12.1] _
    obtain ⟨u13, eu13, hf⟩ := Option.bind_eq_some_iff.mp hf
    have hz := Option.some.inj hf
    subst hz
    exact Z.zret hJ dX10_single_25 rfl (cb_nar eu13) (Nat.le_refl _) (Nat.le_refl _) ⟨rfl, rfl⟩
def fX10_singleb (rec_X10_single : Int32 → HT → Option (Int32 × HT)) (l2 : Int32) (h : HT) : Option (Int32 × HT) :=
  if 5 ≤ l2 then (fX10_singleb_15 rec_X10_single l2 (-1) h)
  else (Option.bind (fX6_pick 4 h) fun z14 =>
  fX10_singleb_15 rec_X10_single l2 z14.1 z14.2)
set_option maxHeartbeats 4000000 in
theorem ctX10_singleb {g : GP} {a : Nat → Nat} {P : PT} {h : HT} {z : Int32 × HT} {rec_X10_single : Int32 → HT → Option (Int32 × HT)} {dr : Nat} {l2 : Int32} (hrec_X10_single : ∀ (l2 : Int32) (h : HT) (z : Int32 × HT), rec_X10_single l2 h = some z → Ct g dr 0 0 mX10_single [.ref (a 81), .ref (a 21), .int l2] (WD g a h P) (PoI g a P z)) (hf : fX10_singleb rec_X10_single l2 h = some z) : Ct g (dr + 8) 0 0 mX10_single [.ref (a 81), .ref (a 21), .int l2] (WD g a h P) (PoI g a P z) := by
  refine Ct.of (by decide +kernel) (Nat.le_of_ble_eq_true rfl) fun J hJ => ?_
  show Z g mX10_single J 0 0 0 [some (.ref (a 81)), some (.ref (a 21)), some (.int l2), none] [] (WD g a h P)
  unfold fX10_singleb at hf
  refine Z.iload_n (n := 1) dX10_single_0 rfl rfl ?_
  refine Z.iconst (n := 2) (v := 5) dX10_single_1 rfl (by decide +kernel) ?_
  refine Z.icmp_ge (tgt := 14) (n := 5) dX10_single_2 rfl rfl (fun c1 => ?_) (fun c1 => ?_)
  · rw [if_pos c1] at hf
    refine Z.iconst (n := 15) (v := -1) dX10_single_14 rfl (by decide +kernel) ?_
    exact zX10_singleb_15 hJ hrec_X10_single _ _ _ hf
  · rw [if_neg c1] at hf
    refine Z.aload_n (n := 6) dX10_single_5 rfl rfl ?_
    refine Z.ldcS (n := 8) (i := 4) dX10_single_6 rfl rfl ?_
    obtain ⟨z14, ez14, hf⟩ := Option.bind_eq_some_iff.mp hf
    refine Z.callV (n := 11) vX10_80 (ctX6_pick (by decide) ez14) hJ.rm (Nat.le_of_ble_eq_true rfl) rfl rfl (Nat.le_refl _) (Nat.le_refl _) rfl W21 rfl rfl (Nat.le_of_ble_eq_true rfl) rfl dX10_single_8 rfl (fun v w hw => ?_)
    obtain ⟨rfl, rfl⟩ := hw
    show Z _ _ _ _ _ _ _ [.int z14.1] _
    refine Z.goto (tgt := 15) dX10_single_11 rfl ?_
    exact zX10_singleb_15 hJ hrec_X10_single _ _ _ hf
def fX10_single : Nat → Int32 → HT → Option (Int32 × HT)
  | 0 => fun _ _ => none
  | n + 1 => fX10_singleb (fX10_single n)
theorem ctX10_single {g : GP} {a : Nat → Nat} {P : PT} : ∀ n : Nat, ∀ (l2 : Int32) (h : HT) (z : Int32 × HT), fX10_single n l2 h = some z → Ct g (8 * n) 0 0 mX10_single [.ref (a 81), .ref (a 21), .int l2] (WD g a h P) (PoI g a P z) := by
  intro n
  induction n with
  | zero => intro _ h z hf; cases hf
  | succ n ih => intro l2 h z hf; exact ctX10_singleb (dr := 8 * n) ih hf
def fX10_priced_39 (h : HT) : Option (Int32 × HT) :=
  some (0, h)
set_option maxHeartbeats 4000000 in
theorem zX10_priced_39 {g : GP} {a : Nat → Nat} {P : PT} {J : JT} {z : Int32 × HT} (hJ : JX g 72 0 0 (PoI g a P z) J) (h : HT) (hf : fX10_priced_39 h = some z) : Z g mX10_priced J 0 0 39 [none, none, none] [] (WD g a h P) := by
  unfold fX10_priced_39 at hf
  refine Z.iconst (n := 40) (v := 0) dX10_priced_39 rfl (by decide +kernel) ?_
  have hz := Option.some.inj hf
  subst hz
  exact Z.zret hJ dX10_priced_40 rfl rfl (Nat.le_refl _) (Nat.le_refl _) ⟨rfl, rfl⟩
def fX10_priced (h : HT) : Option (Int32 × HT) :=
  Option.bind (fX10_amount 1 h) fun z1 =>
  if z1.1 < 0 then (fX10_priced_39 z1.2)
  else (Option.bind (fX6_pick 3 z1.2) fun z3 =>
  if z3.1 < 0 then (fX10_priced_39 z3.2)
  else (Option.bind (fX10_either (fX10_single 8) 0 z3.2) fun z5 =>
  if z5.1 = 0 then (fX10_priced_39 z5.2)
  else (if (z5.2 81 3) < 10 then (Option.bind (ck 10 (z5.2 81 3)) fun j8 =>
  Option.bind (ck 10 ((hu z5.2 82 j8 z1.1) 81 3)) fun j9 =>
  some (1, hu (hu (hu z5.2 82 j8 z1.1) 83 j9 ((hu z5.2 82 j8 z1.1) 81 4)) 81 3 (((hu (hu z5.2 82 j8 z1.1) 83 j9 ((hu z5.2 82 j8 z1.1) 81 4)) 81 3) + (1 : Int32))))
  else (fX10_priced_39 z5.2))))
set_option maxHeartbeats 4000000 in
theorem ctX10_priced {g : GP} {a : Nat → Nat} {P : PT} {h : HT} {z : Int32 × HT} (hf : fX10_priced h = some z) : Ct g 72 0 0 mX10_priced [.ref (a 81), .ref (a 21)] (WD g a h P) (PoI g a P z) := by
  refine Ct.of (by decide +kernel) (Nat.le_of_ble_eq_true rfl) fun J hJ => ?_
  show Z g mX10_priced J 0 0 0 [some (.ref (a 81)), some (.ref (a 21)), none] [] (WD g a h P)
  unfold fX10_priced at hf
  refine Z.aload_n (n := 1) dX10_priced_0 rfl rfl ?_
  refine Z.aload_n (n := 2) dX10_priced_1 rfl rfl ?_
  refine Z.ldcS (n := 4) (i := 1) dX10_priced_2 rfl rfl ?_
  obtain ⟨z1, ez1, hf⟩ := Option.bind_eq_some_iff.mp hf
  refine Z.callV (n := 7) vX10_91 (ctX10_amount (by decide) ez1) hJ.rm (Nat.le_of_ble_eq_true rfl) rfl rfl (Nat.le_refl _) (Nat.le_refl _) rfl W81 rfl rfl (Nat.le_of_ble_eq_true rfl) rfl dX10_priced_4 rfl (fun v w hw => ?_)
  obtain ⟨rfl, rfl⟩ := hw
  show Z _ _ _ _ _ _ _ [.int z1.1] _
  refine Z.istore_n (n := 8) dX10_priced_7 rfl (by decide) rfl ?_
  refine Z.iload_n (n := 9) dX10_priced_8 rfl rfl ?_
  refine Z.if_lt (tgt := 39) (n := 12) dX10_priced_9 rfl rfl (fun c2 => ?_) (fun c2 => ?_)
  · rw [if_pos c2] at hf
    refine Z.fg [0, 1, 2] ?_
    exact zX10_priced_39 hJ _ hf
  · rw [if_neg c2] at hf
    refine Z.aload_n (n := 13) dX10_priced_12 rfl rfl ?_
    refine Z.ldcS (n := 15) (i := 3) dX10_priced_13 rfl rfl ?_
    obtain ⟨z3, ez3, hf⟩ := Option.bind_eq_some_iff.mp hf
    refine Z.callV (n := 18) vX10_80 (ctX6_pick (by decide) ez3) hJ.rm (Nat.le_of_ble_eq_true rfl) rfl rfl (Nat.le_refl _) (Nat.le_refl _) rfl W21 rfl rfl (Nat.le_of_ble_eq_true rfl) rfl dX10_priced_15 rfl (fun v w hw => ?_)
    obtain ⟨rfl, rfl⟩ := hw
    show Z _ _ _ _ _ _ _ [.int z3.1] _
    refine Z.if_lt (tgt := 39) (n := 21) dX10_priced_18 rfl rfl (fun c4 => ?_) (fun c4 => ?_)
    · rw [if_pos c4] at hf
      refine Z.fg [0, 1, 2] ?_
      exact zX10_priced_39 hJ _ hf
    · rw [if_neg c4] at hf
      refine Z.aload_n (n := 22) dX10_priced_21 rfl rfl ?_
      refine Z.aload_n (n := 23) dX10_priced_22 rfl rfl ?_
      refine Z.iconst (n := 24) (v := 0) dX10_priced_23 rfl (by decide +kernel) ?_
      obtain ⟨z5, ez5, hf⟩ := Option.bind_eq_some_iff.mp hf
      refine Z.callV (n := 27) vX10_111 (ctX10_either (ctX10_single 8) ez5) hJ.rm (Nat.le_of_ble_eq_true rfl) rfl rfl (Nat.le_refl _) (Nat.le_refl _) rfl W81 rfl rfl (Nat.le_of_ble_eq_true rfl) rfl dX10_priced_24 rfl (fun v w hw => ?_)
      obtain ⟨rfl, rfl⟩ := hw
      show Z _ _ _ _ _ _ _ [.int z5.1] _
      refine Z.if_eq (tgt := 39) (n := 30) dX10_priced_27 rfl rfl (fun c6 => ?_) (fun c6 => ?_)
      · rw [if_pos c6] at hf
        refine Z.fg [0, 1, 2] ?_
        exact zX10_priced_39 hJ _ hf
      · rw [if_neg c6] at hf
        refine Z.aload_n (n := 31) dX10_priced_30 rfl rfl ?_
        refine Z.getf (n := 34) fX10_21 dX10_priced_31 rfl W81 rfl ?_
        refine Z.bipush (n := 36) (v := 10) dX10_priced_34 rfl (by decide +kernel) ?_
        refine Z.icmp_lt (tgt := 41) (n := 39) dX10_priced_36 rfl rfl (fun c7 => ?_) (fun c7 => ?_)
        · rw [if_pos c7] at hf
          refine Z.aload_n (n := 42) dX10_priced_41 rfl rfl ?_
          refine Z.getf (n := 45) fX10_27 dX10_priced_42 rfl W81 rfl ?_
          refine Z.aload_n (n := 46) dX10_priced_45 rfl rfl ?_
          refine Z.getf (n := 49) fX10_21 dX10_priced_46 rfl W81 rfl ?_
          refine Z.iload_n (n := 50) dX10_priced_49 rfl rfl ?_
          obtain ⟨j8, ej8, hf⟩ := Option.bind_eq_some_iff.mp hf
          obtain ⟨hij8, hlj8⟩ := ck_spec ej8
          refine Z.iast (j := j8) (n := 51) dX10_priced_50 rfl W82 hij8 hlj8 (by decide) W82s ?_
          refine Z.aload_n (n := 52) dX10_priced_51 rfl rfl ?_
          refine Z.getf (n := 55) fX10_31 dX10_priced_52 rfl W81 rfl ?_
          refine Z.aload_n (n := 56) dX10_priced_55 rfl rfl ?_
          refine Z.getf (n := 59) fX10_21 dX10_priced_56 rfl W81 rfl ?_
          refine Z.aload_n (n := 60) dX10_priced_59 rfl rfl ?_
          refine Z.getf (n := 63) fX10_24 dX10_priced_60 rfl W81 rfl ?_
          obtain ⟨j9, ej9, hf⟩ := Option.bind_eq_some_iff.mp hf
          obtain ⟨hij9, hlj9⟩ := ck_spec ej9
          refine Z.iast (j := j9) (n := 64) dX10_priced_63 rfl W83 hij9 hlj9 (by decide) W83s ?_
          refine Z.aload_n (n := 65) dX10_priced_64 rfl rfl ?_
          refine Z.dup (n := 66) dX10_priced_65 rfl rfl ?_
          refine Z.getf (n := 69) fX10_21 dX10_priced_66 rfl W81 rfl ?_
          refine Z.iconst (n := 70) (v := 1) dX10_priced_69 rfl (by decide +kernel) ?_
          refine Z.iadd (n := 71) dX10_priced_70 rfl ?_
          refine Z.putf (n := 74) pX10_21 dX10_priced_71 rfl W81 (Nat.le_of_ble_eq_true rfl) rfl rfl W81s_3 ?_
          refine Z.iconst (n := 75) (v := 1) dX10_priced_74 rfl (by decide +kernel) ?_
          have hz := Option.some.inj hf
          subst hz
          exact Z.zret hJ dX10_priced_75 rfl rfl (Nat.le_refl _) (Nat.le_refl _) ⟨rfl, rfl⟩
        · rw [if_neg c7] at hf
          refine Z.fg [0, 1, 2] ?_
          exact zX10_priced_39 hJ _ hf
def fX10_clause_64 (s0 : Int32) (h : HT) : Option (Int32 × HT) :=
  Option.bind (cb s0) fun u8 =>
  some (s0, h)
set_option maxHeartbeats 4000000 in
theorem zX10_clause_64 {g : GP} {a : Nat → Nat} {P : PT} {J : JT} {z : Int32 × HT} (hJ : JX g 73 0 0 (PoI g a P z) J) (s0 : Int32) (h : HT) (hf : fX10_clause_64 s0 h = some z) : Z g mX10_clause J 0 0 64 [none, none, none] [.int s0] (WD g a h P) := by
  unfold fX10_clause_64 at hf
  obtain ⟨u8, eu8, hf⟩ := Option.bind_eq_some_iff.mp hf
  have hz := Option.some.inj hf
  subst hz
  exact Z.zret hJ dX10_clause_64 rfl (cb_nar eu8) (Nat.le_refl _) (Nat.le_refl _) ⟨rfl, rfl⟩
def fX10_clause_87 (s0 : Int32) (h : HT) : Option (Int32 × HT) :=
  Option.bind (cb s0) fun u12 =>
  some (s0, h)
set_option maxHeartbeats 4000000 in
theorem zX10_clause_87 {g : GP} {a : Nat → Nat} {P : PT} {J : JT} {z : Int32 × HT} (hJ : JX g 73 0 0 (PoI g a P z) J) (s0 : Int32) (h : HT) (hf : fX10_clause_87 s0 h = some z) : Z g mX10_clause J 0 0 87 [none, none, none] [.int s0] (WD g a h P) := by
  unfold fX10_clause_87 at hf
  obtain ⟨u12, eu12, hf⟩ := Option.bind_eq_some_iff.mp hf
  have hz := Option.some.inj hf
  subst hz
  exact Z.zret hJ dX10_clause_87 rfl (cb_nar eu12) (Nat.le_refl _) (Nat.le_refl _) ⟨rfl, rfl⟩
def fX10_clause_110 (s0 : Int32) (h : HT) : Option (Int32 × HT) :=
  Option.bind (cb s0) fun u16 =>
  some (s0, h)
set_option maxHeartbeats 4000000 in
theorem zX10_clause_110 {g : GP} {a : Nat → Nat} {P : PT} {J : JT} {z : Int32 × HT} (hJ : JX g 73 0 0 (PoI g a P z) J) (s0 : Int32) (h : HT) (hf : fX10_clause_110 s0 h = some z) : Z g mX10_clause J 0 0 110 [none, none, none] [.int s0] (WD g a h P) := by
  unfold fX10_clause_110 at hf
  obtain ⟨u16, eu16, hf⟩ := Option.bind_eq_some_iff.mp hf
  have hz := Option.some.inj hf
  subst hz
  exact Z.zret hJ dX10_clause_110 rfl (cb_nar eu16) (Nat.le_refl _) (Nat.le_refl _) ⟨rfl, rfl⟩
def fX10_clause (h : HT) : Option (Int32 × HT) :=
  Option.bind (fX6_pick 0 h) fun z1 =>
  if z1.1 = 0 then (Option.bind (fX10_priced  z1.2) fun z3 =>
  Option.bind (cb z3.1) fun u4 =>
  some (z3.1, z3.2))
  else if z1.1 = 1 then (Option.bind (fX10_amount 10 z1.2) fun z6 =>
  if z6.1 < 0 then (fX10_clause_64 0 (hu z6.2 81 0 z6.1))
  else (fX10_clause_64 1 (hu z6.2 81 0 z6.1)))
  else if z1.1 = 2 then (Option.bind (fX10_amount 11 z1.2) fun z10 =>
  if z10.1 < 0 then (fX10_clause_87 0 (hu z10.2 81 1 z10.1))
  else (fX10_clause_87 1 (hu z10.2 81 1 z10.1)))
  else if z1.1 = 3 then (Option.bind (fX10_amount 12 z1.2) fun z14 =>
  if z14.1 < 0 then (fX10_clause_110 0 (hu z14.2 81 2 z14.1))
  else (fX10_clause_110 1 (hu z14.2 81 2 z14.1)))
  else (some (0, z1.2))
set_option maxHeartbeats 4000000 in
theorem ctX10_clause {g : GP} {a : Nat → Nat} {P : PT} {h : HT} {z : Int32 × HT} (hf : fX10_clause h = some z) : Ct g 73 0 0 mX10_clause [.ref (a 81), .ref (a 21)] (WD g a h P) (PoI g a P z) := by
  refine Ct.of (by decide +kernel) (Nat.le_of_ble_eq_true rfl) fun J hJ => ?_
  show Z g mX10_clause J 0 0 0 [some (.ref (a 81)), some (.ref (a 21)), none] [] (WD g a h P)
  unfold fX10_clause at hf
  refine Z.aload_n (n := 1) dX10_clause_0 rfl rfl ?_
  refine Z.ldcS (n := 3) (i := 0) dX10_clause_1 rfl rfl ?_
  obtain ⟨z1, ez1, hf⟩ := Option.bind_eq_some_iff.mp hf
  refine Z.callV (n := 6) vX10_80 (ctX6_pick (by decide) ez1) hJ.rm (Nat.le_of_ble_eq_true rfl) rfl rfl (Nat.le_refl _) (Nat.le_refl _) rfl W21 rfl rfl (Nat.le_of_ble_eq_true rfl) rfl dX10_clause_3 rfl (fun v w hw => ?_)
  obtain ⟨rfl, rfl⟩ := hw
  show Z _ _ _ _ _ _ _ [.int z1.1] _
  by_cases c2 : z1.1 = 0
  · rw [if_pos c2] at hf
    refine Z.tswI (off := 30) (tgt := 36) dX10_clause_6 c2 (by decide +kernel) (by decide +kernel) (by decide +kernel) rfl ?_
    refine Z.aload_n (n := 37) dX10_clause_36 rfl rfl ?_
    refine Z.aload_n (n := 38) dX10_clause_37 rfl rfl ?_
    obtain ⟨z3, ez3, hf⟩ := Option.bind_eq_some_iff.mp hf
    refine Z.callV (n := 41) vX10_86 (ctX10_priced ez3) hJ.rm (Nat.le_of_ble_eq_true rfl) rfl rfl (Nat.le_refl _) (Nat.le_refl _) rfl W81 rfl rfl (Nat.le_of_ble_eq_true rfl) rfl dX10_clause_38 rfl (fun v w hw => ?_)
    obtain ⟨rfl, rfl⟩ := hw
    show Z _ _ _ _ _ _ _ [.int z3.1] _
    obtain ⟨u4, eu4, hf⟩ := Option.bind_eq_some_iff.mp hf
    have hz := Option.some.inj hf
    subst hz
    exact Z.zret hJ dX10_clause_41 rfl (cb_nar eu4) (Nat.le_refl _) (Nat.le_refl _) ⟨rfl, rfl⟩
  rw [if_neg c2] at hf
  by_cases c5 : z1.1 = 1
  · rw [if_pos c5] at hf
    refine Z.tswI (off := 36) (tgt := 42) dX10_clause_6 c5 (by decide +kernel) (by decide +kernel) (by decide +kernel) rfl ?_
    refine Z.aload_n (n := 43) dX10_clause_42 rfl rfl ?_
    refine Z.aload_n (n := 44) dX10_clause_43 rfl rfl ?_
    refine Z.ldcS (n := 46) (i := 10) dX10_clause_44 rfl rfl ?_
    obtain ⟨z6, ez6, hf⟩ := Option.bind_eq_some_iff.mp hf
    refine Z.callV (n := 49) vX10_91 (ctX10_amount (by decide) ez6) hJ.rm (Nat.le_of_ble_eq_true rfl) rfl rfl (Nat.le_refl _) (Nat.le_refl _) rfl W81 rfl rfl (Nat.le_of_ble_eq_true rfl) rfl dX10_clause_46 rfl (fun v w hw => ?_)
    obtain ⟨rfl, rfl⟩ := hw
    show Z _ _ _ _ _ _ _ [.int z6.1] _
    refine Z.istore_n (n := 50) dX10_clause_49 rfl (by decide) rfl ?_
    refine Z.aload_n (n := 51) dX10_clause_50 rfl rfl ?_
    refine Z.iload_n (n := 52) dX10_clause_51 rfl rfl ?_
    refine Z.putf (n := 55) pX10_9 dX10_clause_52 rfl W81 (Nat.le_of_ble_eq_true rfl) rfl rfl W81s_0 ?_
    refine Z.iload_n (n := 56) dX10_clause_55 rfl rfl ?_
    refine Z.if_lt (tgt := 63) (n := 59) dX10_clause_56 rfl rfl (fun c7 => ?_) (fun c7 => ?_)
    · rw [if_pos c7] at hf
      refine Z.iconst (n := 64) (v := 0) dX10_clause_63 rfl (by decide +kernel) ?_
      refine Z.fg [0, 1, 2] ?_
      exact zX10_clause_64 hJ _ _ hf
    · rw [if_neg c7] at hf
      refine Z.iconst (n := 60) (v := 1) dX10_clause_59 rfl (by decide +kernel) ?_
      refine Z.goto (tgt := 64) dX10_clause_60 rfl ?_
      refine Z.fg [0, 1, 2] ?_
      exact zX10_clause_64 hJ _ _ hf
  rw [if_neg c5] at hf
  by_cases c9 : z1.1 = 2
  · rw [if_pos c9] at hf
    refine Z.tswI (off := 59) (tgt := 65) dX10_clause_6 c9 (by decide +kernel) (by decide +kernel) (by decide +kernel) rfl ?_
    refine Z.aload_n (n := 66) dX10_clause_65 rfl rfl ?_
    refine Z.aload_n (n := 67) dX10_clause_66 rfl rfl ?_
    refine Z.ldcS (n := 69) (i := 11) dX10_clause_67 rfl rfl ?_
    obtain ⟨z10, ez10, hf⟩ := Option.bind_eq_some_iff.mp hf
    refine Z.callV (n := 72) vX10_91 (ctX10_amount (by decide) ez10) hJ.rm (Nat.le_of_ble_eq_true rfl) rfl rfl (Nat.le_refl _) (Nat.le_refl _) rfl W81 rfl rfl (Nat.le_of_ble_eq_true rfl) rfl dX10_clause_69 rfl (fun v w hw => ?_)
    obtain ⟨rfl, rfl⟩ := hw
    show Z _ _ _ _ _ _ _ [.int z10.1] _
    refine Z.istore_n (n := 73) dX10_clause_72 rfl (by decide) rfl ?_
    refine Z.aload_n (n := 74) dX10_clause_73 rfl rfl ?_
    refine Z.iload_n (n := 75) dX10_clause_74 rfl rfl ?_
    refine Z.putf (n := 78) pX10_15 dX10_clause_75 rfl W81 (Nat.le_of_ble_eq_true rfl) rfl rfl W81s_1 ?_
    refine Z.iload_n (n := 79) dX10_clause_78 rfl rfl ?_
    refine Z.if_lt (tgt := 86) (n := 82) dX10_clause_79 rfl rfl (fun c11 => ?_) (fun c11 => ?_)
    · rw [if_pos c11] at hf
      refine Z.iconst (n := 87) (v := 0) dX10_clause_86 rfl (by decide +kernel) ?_
      refine Z.fg [0, 1, 2] ?_
      exact zX10_clause_87 hJ _ _ hf
    · rw [if_neg c11] at hf
      refine Z.iconst (n := 83) (v := 1) dX10_clause_82 rfl (by decide +kernel) ?_
      refine Z.goto (tgt := 87) dX10_clause_83 rfl ?_
      refine Z.fg [0, 1, 2] ?_
      exact zX10_clause_87 hJ _ _ hf
  rw [if_neg c9] at hf
  by_cases c13 : z1.1 = 3
  · rw [if_pos c13] at hf
    refine Z.tswI (off := 82) (tgt := 88) dX10_clause_6 c13 (by decide +kernel) (by decide +kernel) (by decide +kernel) rfl ?_
    refine Z.aload_n (n := 89) dX10_clause_88 rfl rfl ?_
    refine Z.aload_n (n := 90) dX10_clause_89 rfl rfl ?_
    refine Z.ldcS (n := 92) (i := 12) dX10_clause_90 rfl rfl ?_
    obtain ⟨z14, ez14, hf⟩ := Option.bind_eq_some_iff.mp hf
    refine Z.callV (n := 95) vX10_91 (ctX10_amount (by decide) ez14) hJ.rm (Nat.le_of_ble_eq_true rfl) rfl rfl (Nat.le_refl _) (Nat.le_refl _) rfl W81 rfl rfl (Nat.le_of_ble_eq_true rfl) rfl dX10_clause_92 rfl (fun v w hw => ?_)
    obtain ⟨rfl, rfl⟩ := hw
    show Z _ _ _ _ _ _ _ [.int z14.1] _
    refine Z.istore_n (n := 96) dX10_clause_95 rfl (by decide) rfl ?_
    refine Z.aload_n (n := 97) dX10_clause_96 rfl rfl ?_
    refine Z.iload_n (n := 98) dX10_clause_97 rfl rfl ?_
    refine Z.putf (n := 101) pX10_18 dX10_clause_98 rfl W81 (Nat.le_of_ble_eq_true rfl) rfl rfl W81s_2 ?_
    refine Z.iload_n (n := 102) dX10_clause_101 rfl rfl ?_
    refine Z.if_lt (tgt := 109) (n := 105) dX10_clause_102 rfl rfl (fun c15 => ?_) (fun c15 => ?_)
    · rw [if_pos c15] at hf
      refine Z.iconst (n := 110) (v := 0) dX10_clause_109 rfl (by decide +kernel) ?_
      refine Z.fg [0, 1, 2] ?_
      exact zX10_clause_110 hJ _ _ hf
    · rw [if_neg c15] at hf
      refine Z.iconst (n := 106) (v := 1) dX10_clause_105 rfl (by decide +kernel) ?_
      refine Z.goto (tgt := 110) dX10_clause_106 rfl ?_
      refine Z.fg [0, 1, 2] ?_
      exact zX10_clause_110 hJ _ _ hf
  rw [if_neg c13] at hf
  have tc2 := lv_neT (k := 0) c2 (a := 0) (by decide +kernel)
  have tc5 := lv_neT (k := 1) c5 (a := 1) (by decide +kernel)
  have tc9 := lv_neT (k := 2) c9 (a := 2) (by decide +kernel)
  have tc13 := lv_neT (k := 3) c13 (a := 3) (by decide +kernel)
  refine Z.tswO (tgt := 111) dX10_clause_6 (by omega) rfl ?_
  refine Z.iconst (n := 112) (v := 0) dX10_clause_111 rfl (by decide +kernel) ?_
  have hz := Option.some.inj hf
  subst hz
  exact Z.zret hJ dX10_clause_112 rfl rfl (Nat.le_refl _) (Nat.le_refl _) ⟨rfl, rfl⟩
def fX10_read_79 (k32_ : Int32 → HT → Option (Int32 × HT)) (h : HT) : Option (Int32 × HT) :=
  some (h 21 2, h)
set_option maxHeartbeats 4000000 in
theorem zX10_read_79 {g : GP} {a : Nat → Nat} {P : PT} {J : JT} {z : Int32 × HT} {k32_ : Int32 → HT → Option (Int32 × HT)} (hJ : JX g 74 0 0 (PoI g a P z) J) (hk32 : ∀ (l2 : Int32) (h : HT), k32_ l2 h = some z → Z g mX10_read J 0 0 32 [some (.ref (a 81)), some (.ref (a 21)), some (.int l2)] [] (WD g a h P)) (h : HT) (hf : fX10_read_79 k32_ h = some z) : Z g mX10_read J 0 0 79 [none, some (.ref (a 21)), none] [] (WD g a h P) := by
  unfold fX10_read_79 at hf
  refine Z.aload_n (n := 80) dX10_read_79 rfl rfl ?_
  refine Z.getf (n := 83) fX10_66 dX10_read_80 rfl W21 rfl ?_
  have hz := Option.some.inj hf
  subst hz
  exact Z.iret hJ dX10_read_83 rfl (Nat.le_refl _) (Nat.le_refl _) ⟨rfl, rfl⟩
def fX10_read_32 : Nat → Int32 → HT → Option (Int32 × HT)
  | 0, _, _ => none
  | n + 1, l2, h =>
  if 10 < l2 then (some (h 21 2, h))
  else (Option.bind (fX10_clause  h) fun z2 =>
  if z2.1 = 0 then (some (z2.2 21 2, z2.2))
  else (if (z2.2 21 2) < (z2.2 21 1) then (if l2 = 10 then (fX10_read_79 (fX10_read_32  n) z2.2)
  else (Option.bind (fX6_pick 13 z2.2) fun z6 =>
  if 0 ≤ z6.1 then (fX10_read_32  n (l2 + 1) z6.2)
  else (fX10_read_79 (fX10_read_32  n) z6.2)))
  else (some ((-1), z2.2))))
set_option maxHeartbeats 4000000 in
theorem zX10_read_32 {g : GP} {a : Nat → Nat} {P : PT} {J : JT} {z : Int32 × HT} (hJ : JX g 74 0 0 (PoI g a P z) J) : ∀ (n : Nat) (l2 : Int32) (h : HT), fX10_read_32 n l2 h = some z → Z g mX10_read J 0 0 32 [some (.ref (a 81)), some (.ref (a 21)), some (.int l2)] [] (WD g a h P) := by
  intro n
  induction n with
  | zero =>
    intro _ _ hf
    cases hf
  | succ n ih =>
    intro l2 h hf
    unfold fX10_read_32 at hf
    refine Z.iload_n (n := 33) dX10_read_32 rfl rfl ?_
    refine Z.bipush (n := 35) (v := 10) dX10_read_33 rfl (by decide +kernel) ?_
    refine Z.icmp_gt (tgt := 90) (n := 38) dX10_read_35 rfl rfl (fun c1 => ?_) (fun c1 => ?_)
    · rw [if_pos c1] at hf
      refine Z.aload_n (n := 91) dX10_read_90 rfl rfl ?_
      refine Z.getf (n := 94) fX10_66 dX10_read_91 rfl W21 rfl ?_
      have hz := Option.some.inj hf
      subst hz
      exact Z.iret hJ dX10_read_94 rfl (Nat.le_refl _) (Nat.le_refl _) ⟨rfl, rfl⟩
    · rw [if_neg c1] at hf
      refine Z.aload_n (n := 39) dX10_read_38 rfl rfl ?_
      refine Z.aload_n (n := 40) dX10_read_39 rfl rfl ?_
      obtain ⟨z2, ez2, hf⟩ := Option.bind_eq_some_iff.mp hf
      refine Z.callV (n := 43) vX10_71 (ctX10_clause ez2) hJ.rm (Nat.le_of_ble_eq_true rfl) rfl rfl (Nat.le_refl _) (Nat.le_refl _) rfl W81 rfl rfl (Nat.le_of_ble_eq_true rfl) rfl dX10_read_40 rfl (fun v w hw => ?_)
      obtain ⟨rfl, rfl⟩ := hw
      show Z _ _ _ _ _ _ _ [.int z2.1] _
      refine Z.if_ne (tgt := 51) (n := 46) dX10_read_43 rfl rfl (fun c3 => ?_) (fun c3 => ?_)
      · rw [if_neg c3] at hf
        refine Z.aload_n (n := 52) dX10_read_51 rfl rfl ?_
        refine Z.getf (n := 55) fX10_66 dX10_read_52 rfl W21 rfl ?_
        refine Z.aload_n (n := 56) dX10_read_55 rfl rfl ?_
        refine Z.getf (n := 59) fX10_75 dX10_read_56 rfl W21 rfl ?_
        refine Z.icmp_lt (tgt := 64) (n := 62) dX10_read_59 rfl rfl (fun c4 => ?_) (fun c4 => ?_)
        · rw [if_pos c4] at hf
          refine Z.iload_n (n := 65) dX10_read_64 rfl rfl ?_
          refine Z.bipush (n := 67) (v := 10) dX10_read_65 rfl (by decide +kernel) ?_
          refine Z.icmp_eq (tgt := 79) (n := 70) dX10_read_67 rfl rfl (fun c5 => ?_) (fun c5 => ?_)
          · rw [if_pos c5] at hf
            refine Z.fg [0, 2] ?_
            exact zX10_read_79 hJ ih _ hf
          · rw [if_neg c5] at hf
            refine Z.aload_n (n := 71) dX10_read_70 rfl rfl ?_
            refine Z.ldcS (n := 73) (i := 13) dX10_read_71 rfl rfl ?_
            obtain ⟨z6, ez6, hf⟩ := Option.bind_eq_some_iff.mp hf
            refine Z.callV (n := 76) vX10_80 (ctX6_pick (by decide) ez6) hJ.rm (Nat.le_of_ble_eq_true rfl) rfl rfl (Nat.le_refl _) (Nat.le_refl _) rfl W21 rfl rfl (Nat.le_of_ble_eq_true rfl) rfl dX10_read_73 rfl (fun v w hw => ?_)
            obtain ⟨rfl, rfl⟩ := hw
            show Z _ _ _ _ _ _ _ [.int z6.1] _
            refine Z.if_ge (tgt := 84) (n := 79) dX10_read_76 rfl rfl (fun c7 => ?_) (fun c7 => ?_)
            · rw [if_pos c7] at hf
              refine Z.iinc (n := 87) (v := l2 + 1) dX10_read_84 rfl rfl rfl (by decide) rfl ?_
              refine Z.goto (tgt := 32) dX10_read_87 rfl ?_
              exact ih _ _ hf
            · rw [if_neg c7] at hf
              refine Z.fg [0, 2] ?_
              exact zX10_read_79 hJ ih _ hf
        · rw [if_neg c4] at hf
          refine Z.iconst (n := 63) (v := -1) dX10_read_62 rfl (by decide +kernel) ?_
          have hz := Option.some.inj hf
          subst hz
          exact Z.iret hJ dX10_read_63 rfl (Nat.le_refl _) (Nat.le_refl _) ⟨rfl, rfl⟩
      · rw [if_pos c3] at hf
        refine Z.aload_n (n := 47) dX10_read_46 rfl rfl ?_
        refine Z.getf (n := 50) fX10_66 dX10_read_47 rfl W21 rfl ?_
        have hz := Option.some.inj hf
        subst hz
        exact Z.iret hJ dX10_read_50 rfl (Nat.le_refl _) (Nat.le_refl _) ⟨rfl, rfl⟩
def fX10_read (h : HT) : Option (Int32 × HT) :=
  fX10_read_32 1000 1 (hu (hu (hu (hu (hu (hu h 81 0 0) 81 1 0) 81 2 0) 81 3 0) 81 4 0) 21 2 0)
set_option maxHeartbeats 4000000 in
theorem ctX10_read {g : GP} {a : Nat → Nat} {P : PT} {h : HT} {z : Int32 × HT} (hf : fX10_read h = some z) : Ct g 74 0 0 mX10_read [.ref (a 81), .ref (a 21)] (WD g a h P) (PoI g a P z) := by
  refine Ct.of (by decide +kernel) (Nat.le_of_ble_eq_true rfl) fun J hJ => ?_
  show Z g mX10_read J 0 0 0 [some (.ref (a 81)), some (.ref (a 21)), none] [] (WD g a h P)
  unfold fX10_read at hf
  refine Z.aload_n (n := 1) dX10_read_0 rfl rfl ?_
  refine Z.iconst (n := 2) (v := 0) dX10_read_1 rfl (by decide +kernel) ?_
  refine Z.putf (n := 5) pX10_9 dX10_read_2 rfl W81 (Nat.le_of_ble_eq_true rfl) rfl rfl W81s_0 ?_
  refine Z.aload_n (n := 6) dX10_read_5 rfl rfl ?_
  refine Z.iconst (n := 7) (v := 0) dX10_read_6 rfl (by decide +kernel) ?_
  refine Z.putf (n := 10) pX10_15 dX10_read_7 rfl W81 (Nat.le_of_ble_eq_true rfl) rfl rfl W81s_1 ?_
  refine Z.aload_n (n := 11) dX10_read_10 rfl rfl ?_
  refine Z.iconst (n := 12) (v := 0) dX10_read_11 rfl (by decide +kernel) ?_
  refine Z.putf (n := 15) pX10_18 dX10_read_12 rfl W81 (Nat.le_of_ble_eq_true rfl) rfl rfl W81s_2 ?_
  refine Z.aload_n (n := 16) dX10_read_15 rfl rfl ?_
  refine Z.iconst (n := 17) (v := 0) dX10_read_16 rfl (by decide +kernel) ?_
  refine Z.putf (n := 20) pX10_21 dX10_read_17 rfl W81 (Nat.le_of_ble_eq_true rfl) rfl rfl W81s_3 ?_
  refine Z.aload_n (n := 21) dX10_read_20 rfl rfl ?_
  refine Z.iconst (n := 22) (v := 0) dX10_read_21 rfl (by decide +kernel) ?_
  refine Z.putf (n := 25) pX10_24 dX10_read_22 rfl W81 (Nat.le_of_ble_eq_true rfl) rfl rfl W81s_4 ?_
  refine Z.aload_n (n := 26) dX10_read_25 rfl rfl ?_
  refine Z.iconst (n := 27) (v := 0) dX10_read_26 rfl (by decide +kernel) ?_
  refine Z.putf (n := 30) pX10_66 dX10_read_27 rfl W21 (Nat.le_of_ble_eq_true rfl) rfl rfl W21s_2 ?_
  refine Z.iconst (n := 31) (v := 1) dX10_read_30 rfl (by decide +kernel) ?_
  refine Z.istore_n (n := 32) dX10_read_31 rfl (by decide) rfl ?_
  exact zX10_read_32 hJ _ _ _ hf
def fX10_become_h23_h81 (h : HT) : Option (Int32 × HT) :=
  some (0, hcp (hcp (hcp (hcp (hcp (hu (hu (hu (hu (hu h 23 0 (h 81 0)) 23 1 ((hu h 23 0 (h 81 0)) 81 1)) 23 2 ((hu (hu h 23 0 (h 81 0)) 23 1 ((hu h 23 0 (h 81 0)) 81 1)) 81 2)) 23 3 ((hu (hu (hu h 23 0 (h 81 0)) 23 1 ((hu h 23 0 (h 81 0)) 81 1)) 23 2 ((hu (hu h 23 0 (h 81 0)) 23 1 ((hu h 23 0 (h 81 0)) 81 1)) 81 2)) 81 3)) 23 4 ((hu (hu (hu (hu h 23 0 (h 81 0)) 23 1 ((hu h 23 0 (h 81 0)) 81 1)) 23 2 ((hu (hu h 23 0 (h 81 0)) 23 1 ((hu h 23 0 (h 81 0)) 81 1)) 81 2)) 23 3 ((hu (hu (hu h 23 0 (h 81 0)) 23 1 ((hu h 23 0 (h 81 0)) 81 1)) 23 2 ((hu (hu h 23 0 (h 81 0)) 23 1 ((hu h 23 0 (h 81 0)) 81 1)) 81 2)) 81 3)) 81 4)) 24 82 10) 25 83 10) 26 84 120) 27 85 120) 28 86 120)
set_option maxHeartbeats 4000000 in
theorem ctX10_become_h23_h81 {g : GP} {a : Nat → Nat} {P : PT} {h : HT} {z : Int32 × HT} (hf : fX10_become_h23_h81 h = some z) : Ct g 1 0 0 mX10_become [.ref (a 23), .ref (a 81)] (WD g a h P) (PoV g a P z) := by
  refine Ct.of (by decide +kernel) (Nat.le_of_ble_eq_true rfl) fun J hJ => ?_
  show Z g mX10_become J 0 0 0 [some (.ref (a 23)), some (.ref (a 81))] [] (WD g a h P)
  unfold fX10_become_h23_h81 at hf
  refine Z.aload_n (n := 1) dX10_become_0 rfl rfl ?_
  refine Z.aload_n (n := 2) dX10_become_1 rfl rfl ?_
  refine Z.getf (n := 5) fX10_9 dX10_become_2 rfl W81 rfl ?_
  refine Z.putf (n := 8) pX10_9 dX10_become_5 rfl W23 (Nat.le_of_ble_eq_true rfl) rfl rfl W23s_0 ?_
  refine Z.aload_n (n := 9) dX10_become_8 rfl rfl ?_
  refine Z.aload_n (n := 10) dX10_become_9 rfl rfl ?_
  refine Z.getf (n := 13) fX10_15 dX10_become_10 rfl W81 rfl ?_
  refine Z.putf (n := 16) pX10_15 dX10_become_13 rfl W23 (Nat.le_of_ble_eq_true rfl) rfl rfl W23s_1 ?_
  refine Z.aload_n (n := 17) dX10_become_16 rfl rfl ?_
  refine Z.aload_n (n := 18) dX10_become_17 rfl rfl ?_
  refine Z.getf (n := 21) fX10_18 dX10_become_18 rfl W81 rfl ?_
  refine Z.putf (n := 24) pX10_18 dX10_become_21 rfl W23 (Nat.le_of_ble_eq_true rfl) rfl rfl W23s_2 ?_
  refine Z.aload_n (n := 25) dX10_become_24 rfl rfl ?_
  refine Z.aload_n (n := 26) dX10_become_25 rfl rfl ?_
  refine Z.getf (n := 29) fX10_21 dX10_become_26 rfl W81 rfl ?_
  refine Z.putf (n := 32) pX10_21 dX10_become_29 rfl W23 (Nat.le_of_ble_eq_true rfl) rfl rfl W23s_3 ?_
  refine Z.aload_n (n := 33) dX10_become_32 rfl rfl ?_
  refine Z.aload_n (n := 34) dX10_become_33 rfl rfl ?_
  refine Z.getf (n := 37) fX10_24 dX10_become_34 rfl W81 rfl ?_
  refine Z.putf (n := 40) pX10_24 dX10_become_37 rfl W23 (Nat.le_of_ble_eq_true rfl) rfl rfl W23s_4 ?_
  refine Z.aload_n (n := 41) dX10_become_40 rfl rfl ?_
  refine Z.getf (n := 44) fX10_27 dX10_become_41 rfl W81 rfl ?_
  refine Z.iconst (n := 45) (v := 0) dX10_become_44 rfl (by decide +kernel) ?_
  refine Z.aload_n (n := 46) dX10_become_45 rfl rfl ?_
  refine Z.getf (n := 49) fX10_27 dX10_become_46 rfl W23 rfl ?_
  refine Z.iconst (n := 50) (v := 0) dX10_become_49 rfl (by decide +kernel) ?_
  refine Z.bipush (n := 52) (v := 10) dX10_become_50 rfl (by decide +kernel) ?_
  refine Z.copy (N := 10) (n := 55) wX10_46 w_ac2 w_ac3 w_ac4 hJ.rm (Nat.le_of_ble_eq_true rfl) (Nat.le_of_ble_eq_true rfl) W82 W24 (by decide +kernel) (by decide) (by decide) (by decide) dX10_become_52 rfl (WD_setC (by decide) rfl) ?_
  refine Z.aload_n (n := 56) dX10_become_55 rfl rfl ?_
  refine Z.getf (n := 59) fX10_31 dX10_become_56 rfl W81 rfl ?_
  refine Z.iconst (n := 60) (v := 0) dX10_become_59 rfl (by decide +kernel) ?_
  refine Z.aload_n (n := 61) dX10_become_60 rfl rfl ?_
  refine Z.getf (n := 64) fX10_31 dX10_become_61 rfl W23 rfl ?_
  refine Z.iconst (n := 65) (v := 0) dX10_become_64 rfl (by decide +kernel) ?_
  refine Z.bipush (n := 67) (v := 10) dX10_become_65 rfl (by decide +kernel) ?_
  refine Z.copy (N := 10) (n := 70) wX10_46 w_ac2 w_ac3 w_ac4 hJ.rm (Nat.le_of_ble_eq_true rfl) (Nat.le_of_ble_eq_true rfl) W83 W25 (by decide +kernel) (by decide) (by decide) (by decide) dX10_become_67 rfl (WD_setC (by decide) rfl) ?_
  refine Z.aload_n (n := 71) dX10_become_70 rfl rfl ?_
  refine Z.getf (n := 74) fX10_34 dX10_become_71 rfl W81 rfl ?_
  refine Z.iconst (n := 75) (v := 0) dX10_become_74 rfl (by decide +kernel) ?_
  refine Z.aload_n (n := 76) dX10_become_75 rfl rfl ?_
  refine Z.getf (n := 79) fX10_34 dX10_become_76 rfl W23 rfl ?_
  refine Z.iconst (n := 80) (v := 0) dX10_become_79 rfl (by decide +kernel) ?_
  refine Z.bipush (n := 82) (v := 120) dX10_become_80 rfl (by decide +kernel) ?_
  refine Z.copy (N := 120) (n := 85) wX10_46 w_ac2 w_ac3 w_ac4 hJ.rm (Nat.le_of_ble_eq_true rfl) (Nat.le_of_ble_eq_true rfl) W84 W26 (by decide +kernel) (by decide) (by decide) (by decide) dX10_become_82 rfl (WD_setC (by decide) rfl) ?_
  refine Z.aload_n (n := 86) dX10_become_85 rfl rfl ?_
  refine Z.getf (n := 89) fX10_37 dX10_become_86 rfl W81 rfl ?_
  refine Z.iconst (n := 90) (v := 0) dX10_become_89 rfl (by decide +kernel) ?_
  refine Z.aload_n (n := 91) dX10_become_90 rfl rfl ?_
  refine Z.getf (n := 94) fX10_37 dX10_become_91 rfl W23 rfl ?_
  refine Z.iconst (n := 95) (v := 0) dX10_become_94 rfl (by decide +kernel) ?_
  refine Z.bipush (n := 97) (v := 120) dX10_become_95 rfl (by decide +kernel) ?_
  refine Z.copy (N := 120) (n := 100) wX10_46 w_ac2 w_ac3 w_ac4 hJ.rm (Nat.le_of_ble_eq_true rfl) (Nat.le_of_ble_eq_true rfl) W85 W27 (by decide +kernel) (by decide) (by decide) (by decide) dX10_become_97 rfl (WD_setC (by decide) rfl) ?_
  refine Z.aload_n (n := 101) dX10_become_100 rfl rfl ?_
  refine Z.getf (n := 104) fX10_40 dX10_become_101 rfl W81 rfl ?_
  refine Z.iconst (n := 105) (v := 0) dX10_become_104 rfl (by decide +kernel) ?_
  refine Z.aload_n (n := 106) dX10_become_105 rfl rfl ?_
  refine Z.getf (n := 109) fX10_40 dX10_become_106 rfl W23 rfl ?_
  refine Z.iconst (n := 110) (v := 0) dX10_become_109 rfl (by decide +kernel) ?_
  refine Z.bipush (n := 112) (v := 120) dX10_become_110 rfl (by decide +kernel) ?_
  refine Z.copy (N := 120) (n := 115) wX10_46 w_ac2 w_ac3 w_ac4 hJ.rm (Nat.le_of_ble_eq_true rfl) (Nat.le_of_ble_eq_true rfl) W86 W28 (by decide +kernel) (by decide) (by decide) (by decide) dX10_become_112 rfl (WD_setC (by decide) rfl) ?_
  have hz := Option.some.inj hf
  subst hz
  exact Z.vret hJ dX10_become_115 rfl (Nat.le_refl _) (Nat.le_refl _) ⟨rfl, rfl⟩
def fX10_become_h63_h23 (h : HT) : Option (Int32 × HT) :=
  some (0, hcp (hcp (hcp (hcp (hcp (hu (hu (hu (hu (hu h 63 0 (h 23 0)) 63 1 ((hu h 63 0 (h 23 0)) 23 1)) 63 2 ((hu (hu h 63 0 (h 23 0)) 63 1 ((hu h 63 0 (h 23 0)) 23 1)) 23 2)) 63 3 ((hu (hu (hu h 63 0 (h 23 0)) 63 1 ((hu h 63 0 (h 23 0)) 23 1)) 63 2 ((hu (hu h 63 0 (h 23 0)) 63 1 ((hu h 63 0 (h 23 0)) 23 1)) 23 2)) 23 3)) 63 4 ((hu (hu (hu (hu h 63 0 (h 23 0)) 63 1 ((hu h 63 0 (h 23 0)) 23 1)) 63 2 ((hu (hu h 63 0 (h 23 0)) 63 1 ((hu h 63 0 (h 23 0)) 23 1)) 23 2)) 63 3 ((hu (hu (hu h 63 0 (h 23 0)) 63 1 ((hu h 63 0 (h 23 0)) 23 1)) 63 2 ((hu (hu h 63 0 (h 23 0)) 63 1 ((hu h 63 0 (h 23 0)) 23 1)) 23 2)) 23 3)) 23 4)) 64 24 10) 65 25 10) 66 26 120) 67 27 120) 68 28 120)
set_option maxHeartbeats 4000000 in
theorem ctX10_become_h63_h23 {g : GP} {a : Nat → Nat} {P : PT} {h : HT} {z : Int32 × HT} (hf : fX10_become_h63_h23 h = some z) : Ct g 1 0 0 mX10_become [.ref (a 63), .ref (a 23)] (WD g a h P) (PoV g a P z) := by
  refine Ct.of (by decide +kernel) (Nat.le_of_ble_eq_true rfl) fun J hJ => ?_
  show Z g mX10_become J 0 0 0 [some (.ref (a 63)), some (.ref (a 23))] [] (WD g a h P)
  unfold fX10_become_h63_h23 at hf
  refine Z.aload_n (n := 1) dX10_become_0 rfl rfl ?_
  refine Z.aload_n (n := 2) dX10_become_1 rfl rfl ?_
  refine Z.getf (n := 5) fX10_9 dX10_become_2 rfl W23 rfl ?_
  refine Z.putf (n := 8) pX10_9 dX10_become_5 rfl W63 (Nat.le_of_ble_eq_true rfl) rfl rfl W63s_0 ?_
  refine Z.aload_n (n := 9) dX10_become_8 rfl rfl ?_
  refine Z.aload_n (n := 10) dX10_become_9 rfl rfl ?_
  refine Z.getf (n := 13) fX10_15 dX10_become_10 rfl W23 rfl ?_
  refine Z.putf (n := 16) pX10_15 dX10_become_13 rfl W63 (Nat.le_of_ble_eq_true rfl) rfl rfl W63s_1 ?_
  refine Z.aload_n (n := 17) dX10_become_16 rfl rfl ?_
  refine Z.aload_n (n := 18) dX10_become_17 rfl rfl ?_
  refine Z.getf (n := 21) fX10_18 dX10_become_18 rfl W23 rfl ?_
  refine Z.putf (n := 24) pX10_18 dX10_become_21 rfl W63 (Nat.le_of_ble_eq_true rfl) rfl rfl W63s_2 ?_
  refine Z.aload_n (n := 25) dX10_become_24 rfl rfl ?_
  refine Z.aload_n (n := 26) dX10_become_25 rfl rfl ?_
  refine Z.getf (n := 29) fX10_21 dX10_become_26 rfl W23 rfl ?_
  refine Z.putf (n := 32) pX10_21 dX10_become_29 rfl W63 (Nat.le_of_ble_eq_true rfl) rfl rfl W63s_3 ?_
  refine Z.aload_n (n := 33) dX10_become_32 rfl rfl ?_
  refine Z.aload_n (n := 34) dX10_become_33 rfl rfl ?_
  refine Z.getf (n := 37) fX10_24 dX10_become_34 rfl W23 rfl ?_
  refine Z.putf (n := 40) pX10_24 dX10_become_37 rfl W63 (Nat.le_of_ble_eq_true rfl) rfl rfl W63s_4 ?_
  refine Z.aload_n (n := 41) dX10_become_40 rfl rfl ?_
  refine Z.getf (n := 44) fX10_27 dX10_become_41 rfl W23 rfl ?_
  refine Z.iconst (n := 45) (v := 0) dX10_become_44 rfl (by decide +kernel) ?_
  refine Z.aload_n (n := 46) dX10_become_45 rfl rfl ?_
  refine Z.getf (n := 49) fX10_27 dX10_become_46 rfl W63 rfl ?_
  refine Z.iconst (n := 50) (v := 0) dX10_become_49 rfl (by decide +kernel) ?_
  refine Z.bipush (n := 52) (v := 10) dX10_become_50 rfl (by decide +kernel) ?_
  refine Z.copy (N := 10) (n := 55) wX10_46 w_ac2 w_ac3 w_ac4 hJ.rm (Nat.le_of_ble_eq_true rfl) (Nat.le_of_ble_eq_true rfl) W24 W64 (by decide +kernel) (by decide) (by decide) (by decide) dX10_become_52 rfl (WD_setC (by decide) rfl) ?_
  refine Z.aload_n (n := 56) dX10_become_55 rfl rfl ?_
  refine Z.getf (n := 59) fX10_31 dX10_become_56 rfl W23 rfl ?_
  refine Z.iconst (n := 60) (v := 0) dX10_become_59 rfl (by decide +kernel) ?_
  refine Z.aload_n (n := 61) dX10_become_60 rfl rfl ?_
  refine Z.getf (n := 64) fX10_31 dX10_become_61 rfl W63 rfl ?_
  refine Z.iconst (n := 65) (v := 0) dX10_become_64 rfl (by decide +kernel) ?_
  refine Z.bipush (n := 67) (v := 10) dX10_become_65 rfl (by decide +kernel) ?_
  refine Z.copy (N := 10) (n := 70) wX10_46 w_ac2 w_ac3 w_ac4 hJ.rm (Nat.le_of_ble_eq_true rfl) (Nat.le_of_ble_eq_true rfl) W25 W65 (by decide +kernel) (by decide) (by decide) (by decide) dX10_become_67 rfl (WD_setC (by decide) rfl) ?_
  refine Z.aload_n (n := 71) dX10_become_70 rfl rfl ?_
  refine Z.getf (n := 74) fX10_34 dX10_become_71 rfl W23 rfl ?_
  refine Z.iconst (n := 75) (v := 0) dX10_become_74 rfl (by decide +kernel) ?_
  refine Z.aload_n (n := 76) dX10_become_75 rfl rfl ?_
  refine Z.getf (n := 79) fX10_34 dX10_become_76 rfl W63 rfl ?_
  refine Z.iconst (n := 80) (v := 0) dX10_become_79 rfl (by decide +kernel) ?_
  refine Z.bipush (n := 82) (v := 120) dX10_become_80 rfl (by decide +kernel) ?_
  refine Z.copy (N := 120) (n := 85) wX10_46 w_ac2 w_ac3 w_ac4 hJ.rm (Nat.le_of_ble_eq_true rfl) (Nat.le_of_ble_eq_true rfl) W26 W66 (by decide +kernel) (by decide) (by decide) (by decide) dX10_become_82 rfl (WD_setC (by decide) rfl) ?_
  refine Z.aload_n (n := 86) dX10_become_85 rfl rfl ?_
  refine Z.getf (n := 89) fX10_37 dX10_become_86 rfl W23 rfl ?_
  refine Z.iconst (n := 90) (v := 0) dX10_become_89 rfl (by decide +kernel) ?_
  refine Z.aload_n (n := 91) dX10_become_90 rfl rfl ?_
  refine Z.getf (n := 94) fX10_37 dX10_become_91 rfl W63 rfl ?_
  refine Z.iconst (n := 95) (v := 0) dX10_become_94 rfl (by decide +kernel) ?_
  refine Z.bipush (n := 97) (v := 120) dX10_become_95 rfl (by decide +kernel) ?_
  refine Z.copy (N := 120) (n := 100) wX10_46 w_ac2 w_ac3 w_ac4 hJ.rm (Nat.le_of_ble_eq_true rfl) (Nat.le_of_ble_eq_true rfl) W27 W67 (by decide +kernel) (by decide) (by decide) (by decide) dX10_become_97 rfl (WD_setC (by decide) rfl) ?_
  refine Z.aload_n (n := 101) dX10_become_100 rfl rfl ?_
  refine Z.getf (n := 104) fX10_40 dX10_become_101 rfl W23 rfl ?_
  refine Z.iconst (n := 105) (v := 0) dX10_become_104 rfl (by decide +kernel) ?_
  refine Z.aload_n (n := 106) dX10_become_105 rfl rfl ?_
  refine Z.getf (n := 109) fX10_40 dX10_become_106 rfl W63 rfl ?_
  refine Z.iconst (n := 110) (v := 0) dX10_become_109 rfl (by decide +kernel) ?_
  refine Z.bipush (n := 112) (v := 120) dX10_become_110 rfl (by decide +kernel) ?_
  refine Z.copy (N := 120) (n := 115) wX10_46 w_ac2 w_ac3 w_ac4 hJ.rm (Nat.le_of_ble_eq_true rfl) (Nat.le_of_ble_eq_true rfl) W28 W68 (by decide +kernel) (by decide) (by decide) (by decide) dX10_become_112 rfl (WD_setC (by decide) rfl) ?_
  have hz := Option.some.inj hf
  subst hz
  exact Z.vret hJ dX10_become_115 rfl (Nat.le_refl _) (Nat.le_refl _) ⟨rfl, rfl⟩
def fX10_become_h23_h63 (h : HT) : Option (Int32 × HT) :=
  some (0, hcp (hcp (hcp (hcp (hcp (hu (hu (hu (hu (hu h 23 0 (h 63 0)) 23 1 ((hu h 23 0 (h 63 0)) 63 1)) 23 2 ((hu (hu h 23 0 (h 63 0)) 23 1 ((hu h 23 0 (h 63 0)) 63 1)) 63 2)) 23 3 ((hu (hu (hu h 23 0 (h 63 0)) 23 1 ((hu h 23 0 (h 63 0)) 63 1)) 23 2 ((hu (hu h 23 0 (h 63 0)) 23 1 ((hu h 23 0 (h 63 0)) 63 1)) 63 2)) 63 3)) 23 4 ((hu (hu (hu (hu h 23 0 (h 63 0)) 23 1 ((hu h 23 0 (h 63 0)) 63 1)) 23 2 ((hu (hu h 23 0 (h 63 0)) 23 1 ((hu h 23 0 (h 63 0)) 63 1)) 63 2)) 23 3 ((hu (hu (hu h 23 0 (h 63 0)) 23 1 ((hu h 23 0 (h 63 0)) 63 1)) 23 2 ((hu (hu h 23 0 (h 63 0)) 23 1 ((hu h 23 0 (h 63 0)) 63 1)) 63 2)) 63 3)) 63 4)) 24 64 10) 25 65 10) 26 66 120) 27 67 120) 28 68 120)
set_option maxHeartbeats 4000000 in
theorem ctX10_become_h23_h63 {g : GP} {a : Nat → Nat} {P : PT} {h : HT} {z : Int32 × HT} (hf : fX10_become_h23_h63 h = some z) : Ct g 1 0 0 mX10_become [.ref (a 23), .ref (a 63)] (WD g a h P) (PoV g a P z) := by
  refine Ct.of (by decide +kernel) (Nat.le_of_ble_eq_true rfl) fun J hJ => ?_
  show Z g mX10_become J 0 0 0 [some (.ref (a 23)), some (.ref (a 63))] [] (WD g a h P)
  unfold fX10_become_h23_h63 at hf
  refine Z.aload_n (n := 1) dX10_become_0 rfl rfl ?_
  refine Z.aload_n (n := 2) dX10_become_1 rfl rfl ?_
  refine Z.getf (n := 5) fX10_9 dX10_become_2 rfl W63 rfl ?_
  refine Z.putf (n := 8) pX10_9 dX10_become_5 rfl W23 (Nat.le_of_ble_eq_true rfl) rfl rfl W23s_0 ?_
  refine Z.aload_n (n := 9) dX10_become_8 rfl rfl ?_
  refine Z.aload_n (n := 10) dX10_become_9 rfl rfl ?_
  refine Z.getf (n := 13) fX10_15 dX10_become_10 rfl W63 rfl ?_
  refine Z.putf (n := 16) pX10_15 dX10_become_13 rfl W23 (Nat.le_of_ble_eq_true rfl) rfl rfl W23s_1 ?_
  refine Z.aload_n (n := 17) dX10_become_16 rfl rfl ?_
  refine Z.aload_n (n := 18) dX10_become_17 rfl rfl ?_
  refine Z.getf (n := 21) fX10_18 dX10_become_18 rfl W63 rfl ?_
  refine Z.putf (n := 24) pX10_18 dX10_become_21 rfl W23 (Nat.le_of_ble_eq_true rfl) rfl rfl W23s_2 ?_
  refine Z.aload_n (n := 25) dX10_become_24 rfl rfl ?_
  refine Z.aload_n (n := 26) dX10_become_25 rfl rfl ?_
  refine Z.getf (n := 29) fX10_21 dX10_become_26 rfl W63 rfl ?_
  refine Z.putf (n := 32) pX10_21 dX10_become_29 rfl W23 (Nat.le_of_ble_eq_true rfl) rfl rfl W23s_3 ?_
  refine Z.aload_n (n := 33) dX10_become_32 rfl rfl ?_
  refine Z.aload_n (n := 34) dX10_become_33 rfl rfl ?_
  refine Z.getf (n := 37) fX10_24 dX10_become_34 rfl W63 rfl ?_
  refine Z.putf (n := 40) pX10_24 dX10_become_37 rfl W23 (Nat.le_of_ble_eq_true rfl) rfl rfl W23s_4 ?_
  refine Z.aload_n (n := 41) dX10_become_40 rfl rfl ?_
  refine Z.getf (n := 44) fX10_27 dX10_become_41 rfl W63 rfl ?_
  refine Z.iconst (n := 45) (v := 0) dX10_become_44 rfl (by decide +kernel) ?_
  refine Z.aload_n (n := 46) dX10_become_45 rfl rfl ?_
  refine Z.getf (n := 49) fX10_27 dX10_become_46 rfl W23 rfl ?_
  refine Z.iconst (n := 50) (v := 0) dX10_become_49 rfl (by decide +kernel) ?_
  refine Z.bipush (n := 52) (v := 10) dX10_become_50 rfl (by decide +kernel) ?_
  refine Z.copy (N := 10) (n := 55) wX10_46 w_ac2 w_ac3 w_ac4 hJ.rm (Nat.le_of_ble_eq_true rfl) (Nat.le_of_ble_eq_true rfl) W64 W24 (by decide +kernel) (by decide) (by decide) (by decide) dX10_become_52 rfl (WD_setC (by decide) rfl) ?_
  refine Z.aload_n (n := 56) dX10_become_55 rfl rfl ?_
  refine Z.getf (n := 59) fX10_31 dX10_become_56 rfl W63 rfl ?_
  refine Z.iconst (n := 60) (v := 0) dX10_become_59 rfl (by decide +kernel) ?_
  refine Z.aload_n (n := 61) dX10_become_60 rfl rfl ?_
  refine Z.getf (n := 64) fX10_31 dX10_become_61 rfl W23 rfl ?_
  refine Z.iconst (n := 65) (v := 0) dX10_become_64 rfl (by decide +kernel) ?_
  refine Z.bipush (n := 67) (v := 10) dX10_become_65 rfl (by decide +kernel) ?_
  refine Z.copy (N := 10) (n := 70) wX10_46 w_ac2 w_ac3 w_ac4 hJ.rm (Nat.le_of_ble_eq_true rfl) (Nat.le_of_ble_eq_true rfl) W65 W25 (by decide +kernel) (by decide) (by decide) (by decide) dX10_become_67 rfl (WD_setC (by decide) rfl) ?_
  refine Z.aload_n (n := 71) dX10_become_70 rfl rfl ?_
  refine Z.getf (n := 74) fX10_34 dX10_become_71 rfl W63 rfl ?_
  refine Z.iconst (n := 75) (v := 0) dX10_become_74 rfl (by decide +kernel) ?_
  refine Z.aload_n (n := 76) dX10_become_75 rfl rfl ?_
  refine Z.getf (n := 79) fX10_34 dX10_become_76 rfl W23 rfl ?_
  refine Z.iconst (n := 80) (v := 0) dX10_become_79 rfl (by decide +kernel) ?_
  refine Z.bipush (n := 82) (v := 120) dX10_become_80 rfl (by decide +kernel) ?_
  refine Z.copy (N := 120) (n := 85) wX10_46 w_ac2 w_ac3 w_ac4 hJ.rm (Nat.le_of_ble_eq_true rfl) (Nat.le_of_ble_eq_true rfl) W66 W26 (by decide +kernel) (by decide) (by decide) (by decide) dX10_become_82 rfl (WD_setC (by decide) rfl) ?_
  refine Z.aload_n (n := 86) dX10_become_85 rfl rfl ?_
  refine Z.getf (n := 89) fX10_37 dX10_become_86 rfl W63 rfl ?_
  refine Z.iconst (n := 90) (v := 0) dX10_become_89 rfl (by decide +kernel) ?_
  refine Z.aload_n (n := 91) dX10_become_90 rfl rfl ?_
  refine Z.getf (n := 94) fX10_37 dX10_become_91 rfl W23 rfl ?_
  refine Z.iconst (n := 95) (v := 0) dX10_become_94 rfl (by decide +kernel) ?_
  refine Z.bipush (n := 97) (v := 120) dX10_become_95 rfl (by decide +kernel) ?_
  refine Z.copy (N := 120) (n := 100) wX10_46 w_ac2 w_ac3 w_ac4 hJ.rm (Nat.le_of_ble_eq_true rfl) (Nat.le_of_ble_eq_true rfl) W67 W27 (by decide +kernel) (by decide) (by decide) (by decide) dX10_become_97 rfl (WD_setC (by decide) rfl) ?_
  refine Z.aload_n (n := 101) dX10_become_100 rfl rfl ?_
  refine Z.getf (n := 104) fX10_40 dX10_become_101 rfl W63 rfl ?_
  refine Z.iconst (n := 105) (v := 0) dX10_become_104 rfl (by decide +kernel) ?_
  refine Z.aload_n (n := 106) dX10_become_105 rfl rfl ?_
  refine Z.getf (n := 109) fX10_40 dX10_become_106 rfl W23 rfl ?_
  refine Z.iconst (n := 110) (v := 0) dX10_become_109 rfl (by decide +kernel) ?_
  refine Z.bipush (n := 112) (v := 120) dX10_become_110 rfl (by decide +kernel) ?_
  refine Z.copy (N := 120) (n := 115) wX10_46 w_ac2 w_ac3 w_ac4 hJ.rm (Nat.le_of_ble_eq_true rfl) (Nat.le_of_ble_eq_true rfl) W68 W28 (by decide +kernel) (by decide) (by decide) (by decide) dX10_become_112 rfl (WD_setC (by decide) rfl) ?_
  have hz := Option.some.inj hf
  subst hz
  exact Z.vret hJ dX10_become_115 rfl (Nat.le_refl _) (Nat.le_refl _) ⟨rfl, rfl⟩
