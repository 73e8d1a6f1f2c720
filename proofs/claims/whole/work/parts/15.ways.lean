/-! walks, by program: 15.ways.lean.txt -/
def fX8_fits_17 (s0 : Int32) (h : HT) : Option (Int32 × HT) :=
  Option.bind (cb s0) fun u3 =>
  some (s0, h)
set_option maxHeartbeats 4000000 in
theorem zX8_fits_17 {g : GP} {a : Nat → Nat} {P : PT} {J : JT} {z : Int32 × HT} (hJ : JX g 2 0 0 (PoI g a P z) J) (s0 : Int32) (h : HT) (hf : fX8_fits_17 s0 h = some z) : Z g mX8_fits J 0 0 17 [none, none] [.int s0] (WD g a h P) := by
  unfold fX8_fits_17 at hf
  obtain ⟨u3, eu3, hf⟩ := Option.bind_eq_some_iff.mp hf
  have hz := Option.some.inj hf
  subst hz
  exact Z.zret hJ dX8_fits_17 rfl (cb_nar eu3) (Nat.le_refl _) (Nat.le_refl _) ⟨rfl, rfl⟩
def fX8_fits (h : HT) : Option (Int32 × HT) :=
  Option.bind (fJ6_bitCount_0f7a4 (h 1 1) h) fun z1 =>
  if 6 < z1.1 then (fX8_fits_17 0 z1.2)
  else (fX8_fits_17 1 z1.2)
set_option maxHeartbeats 4000000 in
theorem ctX8_fits {g : GP} {a : Nat → Nat} {P : PT} {h : HT} {z : Int32 × HT} (hf : fX8_fits h = some z) : Ct g 2 0 0 mX8_fits [.ref (a 88), .ref (a 1)] (WD g a h P) (PoI g a P z) := by
  refine Ct.of (by decide +kernel) (Nat.le_of_ble_eq_true rfl) fun J hJ => ?_
  show Z g mX8_fits J 0 0 0 [some (.ref (a 88)), some (.ref (a 1))] [] (WD g a h P)
  unfold fX8_fits at hf
  refine Z.aload_n (n := 1) dX8_fits_0 rfl rfl ?_
  refine Z.getf (n := 4) fX8_28 dX8_fits_1 rfl W1 rfl ?_
  obtain ⟨z1, ez1, hf⟩ := Option.bind_eq_some_iff.mp hf
  refine Z.callS (n := 7) vX8_33 (ctJ6_bitCount_0f7a4 ez1) hJ.rm (Nat.le_of_ble_eq_true rfl) rfl rfl (Nat.le_refl _) (Nat.le_refl _) rfl (Nat.le_of_ble_eq_true rfl) rfl dX8_fits_4 rfl (fun v w hw => ?_)
  obtain ⟨rfl, rfl⟩ := hw
  show Z _ _ _ _ _ _ _ [.int z1.1] _
  refine Z.bipush (n := 9) (v := 6) dX8_fits_7 rfl (by decide +kernel) ?_
  refine Z.icmp_gt (tgt := 16) (n := 12) dX8_fits_9 rfl rfl (fun c2 => ?_) (fun c2 => ?_)
  · rw [if_pos c2] at hf
    refine Z.iconst (n := 17) (v := 0) dX8_fits_16 rfl (by decide +kernel) ?_
    refine Z.fg [0, 1] ?_
    exact zX8_fits_17 hJ _ _ hf
  · rw [if_neg c2] at hf
    refine Z.iconst (n := 13) (v := 1) dX8_fits_12 rfl (by decide +kernel) ?_
    refine Z.goto (tgt := 17) dX8_fits_13 rfl ?_
    refine Z.fg [0, 1] ?_
    exact zX8_fits_17 hJ _ _ hf
def fX8_blockOf (l2 : Int32) (h : HT) : Option (Int32 × HT) :=
  Option.bind (ck 7 l2) fun j1 =>
  some (h 40 j1, h)
set_option maxHeartbeats 4000000 in
theorem ctX8_blockOf {g : GP} {a : Nat → Nat} {P : PT} {h : HT} {z : Int32 × HT} {l2 : Int32} (hf : fX8_blockOf l2 h = some z) : Ct g 1 0 0 mX8_blockOf [.ref (a 88), .ref (a 1), .int l2] (WD g a h P) (PoI g a P z) := by
  refine Ct.of (by decide +kernel) (Nat.le_of_ble_eq_true rfl) fun J hJ => ?_
  show Z g mX8_blockOf J 0 0 0 [some (.ref (a 88)), some (.ref (a 1)), some (.int l2)] [] (WD g a h P)
  unfold fX8_blockOf at hf
  refine Z.aload_n (n := 1) dX8_blockOf_0 rfl rfl ?_
  refine Z.getf (n := 4) fX8_39 dX8_blockOf_1 rfl W1 rfl ?_
  refine Z.bipush (n := 6) (v := 8) dX8_blockOf_4 rfl (by decide +kernel) ?_
  refine Z.aald (j := 8) (ty := 3) (n := 7) dX8_blockOf_6 rfl W31 rfl rfl (by decide +kernel) (by decide) (by decide) ?_
  rw [if_pos (by decide)]
  show Z _ _ _ _ _ _ _ (.ref (a 40) :: _) _
  refine Z.iload_n (n := 8) dX8_blockOf_7 rfl rfl ?_
  obtain ⟨j1, ej1, hf⟩ := Option.bind_eq_some_iff.mp hf
  obtain ⟨hij1, hlj1⟩ := ck_spec ej1
  refine Z.iald (j := j1) (n := 9) dX8_blockOf_8 rfl W40 hij1 hlj1 (by decide) ?_
  have hz := Option.some.inj hf
  subst hz
  exact Z.iret hJ dX8_blockOf_9 rfl (Nat.le_refl _) (Nat.le_refl _) ⟨rfl, rfl⟩
def fX8_begin_53 (k7_ : Int32 → HT → Option (Int32 × HT)) (l2 : Int32) (h : HT) : Option (Int32 × HT) :=
  k7_ (l2 + 1) h
set_option maxHeartbeats 4000000 in
theorem zX8_begin_53 {g : GP} {a : Nat → Nat} {P : PT} {J : JT} {z : Int32 × HT} {k7_ : Int32 → HT → Option (Int32 × HT)} (hJ : JX g 2 0 0 (PoV g a P z) J) (hk7 : ∀ (l2 : Int32) (h : HT), k7_ l2 h = some z → Z g mX8_begin J 0 0 7 [some (.ref (a 88)), some (.ref (a 1)), some (.int l2)] [] (WD g a h P)) (l2 : Int32) (h : HT) (hf : fX8_begin_53 k7_ l2 h = some z) : Z g mX8_begin J 0 0 53 [some (.ref (a 88)), some (.ref (a 1)), some (.int l2)] [] (WD g a h P) := by
  unfold fX8_begin_53 at hf
  refine Z.iinc (n := 56) (v := l2 + 1) dX8_begin_53 rfl rfl rfl (by decide) rfl ?_
  refine Z.goto (tgt := 7) dX8_begin_56 rfl ?_
  exact hk7 _ _ hf
def fX8_begin_7 : Nat → Int32 → HT → Option (Int32 × HT)
  | 0, _, _ => none
  | n + 1, l2, h =>
  if (h 1 0) ≤ l2 then (some (0, h))
  else (Option.bind (ck 7 l2) fun j2 =>
  Option.bind (fX3_lives l2 (hu h 40 j2 0)) fun z3 =>
  if z3.1 = 0 then (fX8_begin_53 (fX8_begin_7  n) l2 z3.2)
  else (Option.bind (ck 7 (z3.2 88 2)) fun j5 =>
  fX8_begin_53 (fX8_begin_7  n) l2 (hu (hu z3.2 90 j5 l2) 88 2 (((hu z3.2 90 j5 l2) 88 2) + (1 : Int32)))))
set_option maxHeartbeats 4000000 in
theorem zX8_begin_7 {g : GP} {a : Nat → Nat} {P : PT} {J : JT} {z : Int32 × HT} (hJ : JX g 2 0 0 (PoV g a P z) J) : ∀ (n : Nat) (l2 : Int32) (h : HT), fX8_begin_7 n l2 h = some z → Z g mX8_begin J 0 0 7 [some (.ref (a 88)), some (.ref (a 1)), some (.int l2)] [] (WD g a h P) := by
  intro n
  induction n with
  | zero =>
    intro _ _ hf
    cases hf
  | succ n ih =>
    intro l2 h hf
    unfold fX8_begin_7 at hf
    refine Z.iload_n (n := 8) dX8_begin_7 rfl rfl ?_
    refine Z.aload_n (n := 9) dX8_begin_8 rfl rfl ?_
    refine Z.getf (n := 12) fX8_59 dX8_begin_9 rfl W1 rfl ?_
    refine Z.icmp_ge (tgt := 59) (n := 15) dX8_begin_12 rfl rfl (fun c1 => ?_) (fun c1 => ?_)
    · rw [if_pos c1] at hf
      have hz := Option.some.inj hf
      subst hz
      exact Z.vret hJ dX8_begin_59 rfl (Nat.le_refl _) (Nat.le_refl _) ⟨rfl, rfl⟩
    · rw [if_neg c1] at hf
      refine Z.aload_n (n := 16) dX8_begin_15 rfl rfl ?_
      refine Z.getf (n := 19) fX8_39 dX8_begin_16 rfl W1 rfl ?_
      refine Z.bipush (n := 21) (v := 8) dX8_begin_19 rfl (by decide +kernel) ?_
      refine Z.aald (j := 8) (ty := 3) (n := 22) dX8_begin_21 rfl W31 rfl rfl (by decide +kernel) (by decide) (by decide) ?_
      rw [if_pos (by decide)]
      show Z _ _ _ _ _ _ _ (.ref (a 40) :: _) _
      refine Z.iload_n (n := 23) dX8_begin_22 rfl rfl ?_
      refine Z.iconst (n := 24) (v := 0) dX8_begin_23 rfl (by decide +kernel) ?_
      obtain ⟨j2, ej2, hf⟩ := Option.bind_eq_some_iff.mp hf
      obtain ⟨hij2, hlj2⟩ := ck_spec ej2
      refine Z.iast (j := j2) (n := 25) dX8_begin_24 rfl W40 hij2 hlj2 (by decide) W40s ?_
      refine Z.aload_n (n := 26) dX8_begin_25 rfl rfl ?_
      refine Z.iload_n (n := 27) dX8_begin_26 rfl rfl ?_
      obtain ⟨z3, ez3, hf⟩ := Option.bind_eq_some_iff.mp hf
      refine Z.callV (n := 30) vX8_62 (ctX3_lives ez3) hJ.rm (Nat.le_of_ble_eq_true rfl) rfl rfl (Nat.le_refl _) (Nat.le_refl _) rfl W1 rfl rfl (Nat.le_of_ble_eq_true rfl) rfl dX8_begin_27 rfl (fun v w hw => ?_)
      obtain ⟨rfl, rfl⟩ := hw
      show Z _ _ _ _ _ _ _ [.int z3.1] _
      refine Z.if_eq (tgt := 53) (n := 33) dX8_begin_30 rfl rfl (fun c4 => ?_) (fun c4 => ?_)
      · rw [if_pos c4] at hf
        exact zX8_begin_53 hJ ih _ _ hf
      · rw [if_neg c4] at hf
        refine Z.aload_n (n := 34) dX8_begin_33 rfl rfl ?_
        refine Z.getf (n := 37) fX8_20 dX8_begin_34 rfl W88 rfl ?_
        refine Z.aload_n (n := 38) dX8_begin_37 rfl rfl ?_
        refine Z.getf (n := 41) fX8_24 dX8_begin_38 rfl W88 rfl ?_
        refine Z.iload_n (n := 42) dX8_begin_41 rfl rfl ?_
        obtain ⟨j5, ej5, hf⟩ := Option.bind_eq_some_iff.mp hf
        obtain ⟨hij5, hlj5⟩ := ck_spec ej5
        refine Z.iast (j := j5) (n := 43) dX8_begin_42 rfl W90 hij5 hlj5 (by decide) W90s ?_
        refine Z.aload_n (n := 44) dX8_begin_43 rfl rfl ?_
        refine Z.dup (n := 45) dX8_begin_44 rfl rfl ?_
        refine Z.getf (n := 48) fX8_24 dX8_begin_45 rfl W88 rfl ?_
        refine Z.iconst (n := 49) (v := 1) dX8_begin_48 rfl (by decide +kernel) ?_
        refine Z.iadd (n := 50) dX8_begin_49 rfl ?_
        refine Z.putf (n := 53) pX8_24 dX8_begin_50 rfl W88 (Nat.le_of_ble_eq_true rfl) rfl rfl W88s_2 ?_
        exact zX8_begin_53 hJ ih _ _ hf
def fX8_begin (h : HT) : Option (Int32 × HT) :=
  fX8_begin_7 1000 0 (hu h 88 2 0)
set_option maxHeartbeats 4000000 in
theorem ctX8_begin {g : GP} {a : Nat → Nat} {P : PT} {h : HT} {z : Int32 × HT} (hf : fX8_begin h = some z) : Ct g 2 0 0 mX8_begin [.ref (a 88), .ref (a 1)] (WD g a h P) (PoV g a P z) := by
  refine Ct.of (by decide +kernel) (Nat.le_of_ble_eq_true rfl) fun J hJ => ?_
  show Z g mX8_begin J 0 0 0 [some (.ref (a 88)), some (.ref (a 1)), none] [] (WD g a h P)
  unfold fX8_begin at hf
  refine Z.aload_n (n := 1) dX8_begin_0 rfl rfl ?_
  refine Z.iconst (n := 2) (v := 0) dX8_begin_1 rfl (by decide +kernel) ?_
  refine Z.putf (n := 5) pX8_24 dX8_begin_2 rfl W88 (Nat.le_of_ble_eq_true rfl) rfl rfl W88s_2 ?_
  refine Z.iconst (n := 6) (v := 0) dX8_begin_5 rfl (by decide +kernel) ?_
  refine Z.istore_n (n := 7) dX8_begin_6 rfl (by decide) rfl ?_
  exact zX8_begin_7 hJ _ _ _ hf
def fX8_highest_5 : Nat → Int32 → Int32 → Int32 → HT → Option (Int32 × HT)
  | 0, _, _, _, _ => none
  | n + 1, l2, l3, l4, h =>
  if l2 ≤ l4 then (some (l3, h))
  else (Option.bind (ck 7 l4) fun j2 =>
  Option.bind (ck 7 (h 90 j2)) fun j3 =>
  fX8_highest_5  n l2 (if l3 < (h 40 j3) then (h 40 j3) else l3) (l4 + 1) h)
set_option maxHeartbeats 4000000 in
theorem zX8_highest_5 {g : GP} {a : Nat → Nat} {P : PT} {J : JT} {z : Int32 × HT} (hJ : JX g 1 0 0 (PoI g a P z) J) : ∀ (n : Nat) (l2 : Int32) (l3 : Int32) (l4 : Int32) (h : HT), fX8_highest_5 n l2 l3 l4 h = some z → Z g mX8_highest J 0 0 5 [some (.ref (a 88)), some (.ref (a 40)), some (.int l2), some (.int l3), some (.int l4)] [] (WD g a h P) := by
  intro n
  induction n with
  | zero =>
    intro _ _ _ _ hf
    cases hf
  | succ n ih =>
    intro l2 l3 l4 h hf
    unfold fX8_highest_5 at hf
    refine Z.iload (n := 7) dX8_highest_5 rfl rfl ?_
    refine Z.iload_n (n := 8) dX8_highest_7 rfl rfl ?_
    refine Z.icmp_ge (tgt := 31) (n := 11) dX8_highest_8 rfl rfl (fun c1 => ?_) (fun c1 => ?_)
    · rw [if_pos c1] at hf
      refine Z.iload_n (n := 32) dX8_highest_31 rfl rfl ?_
      have hz := Option.some.inj hf
      subst hz
      exact Z.iret hJ dX8_highest_32 rfl (Nat.le_refl _) (Nat.le_refl _) ⟨rfl, rfl⟩
    · rw [if_neg c1] at hf
      refine Z.iload_n (n := 12) dX8_highest_11 rfl rfl ?_
      refine Z.aload_n (n := 13) dX8_highest_12 rfl rfl ?_
      refine Z.aload_n (n := 14) dX8_highest_13 rfl rfl ?_
      refine Z.getf (n := 17) fX8_20 dX8_highest_14 rfl W88 rfl ?_
      refine Z.iload (n := 19) dX8_highest_17 rfl rfl ?_
      obtain ⟨j2, ej2, hf⟩ := Option.bind_eq_some_iff.mp hf
      obtain ⟨hij2, hlj2⟩ := ck_spec ej2
      refine Z.iald (j := j2) (n := 20) dX8_highest_19 rfl W90 hij2 hlj2 (by decide) ?_
      obtain ⟨j3, ej3, hf⟩ := Option.bind_eq_some_iff.mp hf
      obtain ⟨hij3, hlj3⟩ := ck_spec ej3
      refine Z.iald (j := j3) (n := 21) dX8_highest_20 rfl W40 hij3 hlj3 (by decide) ?_
      refine Z.mmax (n := 24) wX8_70 w_max2 w_math3 w_max4 hJ.rm (Nat.le_of_ble_eq_true rfl) (Nat.le_refl _) (Nat.le_refl _) (Nat.le_of_ble_eq_true rfl) dX8_highest_21 rfl rfl ?_
      refine Z.istore_n (n := 25) dX8_highest_24 rfl (by decide) rfl ?_
      refine Z.iinc (n := 28) (v := l4 + 1) dX8_highest_25 rfl rfl rfl (by decide) rfl ?_
      refine Z.goto (tgt := 5) dX8_highest_28 rfl ?_
      exact ih _ _ _ _ hf
def fX8_highest (l2 : Int32) (h : HT) : Option (Int32 × HT) :=
  fX8_highest_5 1000 l2 0 0 h
set_option maxHeartbeats 4000000 in
theorem ctX8_highest {g : GP} {a : Nat → Nat} {P : PT} {h : HT} {z : Int32 × HT} {l2 : Int32} (hf : fX8_highest l2 h = some z) : Ct g 1 0 0 mX8_highest [.ref (a 88), .ref (a 40), .int l2] (WD g a h P) (PoI g a P z) := by
  refine Ct.of (by decide +kernel) (Nat.le_of_ble_eq_true rfl) fun J hJ => ?_
  show Z g mX8_highest J 0 0 0 [some (.ref (a 88)), some (.ref (a 40)), some (.int l2), none, none] [] (WD g a h P)
  unfold fX8_highest at hf
  refine Z.iconst (n := 1) (v := 0) dX8_highest_0 rfl (by decide +kernel) ?_
  refine Z.istore_n (n := 2) dX8_highest_1 rfl (by decide) rfl ?_
  refine Z.iconst (n := 3) (v := 0) dX8_highest_2 rfl (by decide +kernel) ?_
  refine Z.istore (n := 5) dX8_highest_3 rfl (by decide) rfl ?_
  exact zX8_highest_5 hJ _ _ _ _ _ hf
def fX8_advance_7 : Nat → Int32 → HT → Option (Int32 × HT)
  | 0, _, _ => none
  | n + 1, l2, h =>
  if l2 ≤ 0 then (some (0, h))
  else (Option.bind (ck 7 l2) fun j2 =>
  Option.bind (ck 7 (h 90 j2)) fun j3 =>
  Option.bind (fX8_highest l2 h) fun z4 =>
  if z4.1 < (h 40 j3) then (Option.bind (ck 7 l2) fun j6 =>
  Option.bind (ck 7 (z4.2 90 j6)) fun j7 =>
  fX8_advance_7  n (l2 + (-1)) (hu z4.2 40 j7 0))
  else (Option.bind (ck 7 l2) fun j8 =>
  Option.bind (ck 7 (z4.2 90 j8)) fun j9 =>
  Option.bind (ck 7 (z4.2 90 j8)) fun j10 =>
  some (1, hu z4.2 40 j10 ((z4.2 40 j9) + (1 : Int32)))))
set_option maxHeartbeats 4000000 in
theorem zX8_advance_7 {g : GP} {a : Nat → Nat} {P : PT} {J : JT} {z : Int32 × HT} (hJ : JX g 2 0 0 (PoI g a P z) J) : ∀ (n : Nat) (l2 : Int32) (h : HT), fX8_advance_7 n l2 h = some z → Z g mX8_advance J 0 0 7 [some (.ref (a 88)), some (.ref (a 40)), some (.int l2)] [] (WD g a h P) := by
  intro n
  induction n with
  | zero =>
    intro _ _ hf
    cases hf
  | succ n ih =>
    intro l2 h hf
    unfold fX8_advance_7 at hf
    refine Z.iload_n (n := 8) dX8_advance_7 rfl rfl ?_
    refine Z.if_le (tgt := 57) (n := 11) dX8_advance_8 rfl rfl (fun c1 => ?_) (fun c1 => ?_)
    · rw [if_pos c1] at hf
      refine Z.iconst (n := 58) (v := 0) dX8_advance_57 rfl (by decide +kernel) ?_
      have hz := Option.some.inj hf
      subst hz
      exact Z.zret hJ dX8_advance_58 rfl rfl (Nat.le_refl _) (Nat.le_refl _) ⟨rfl, rfl⟩
    · rw [if_neg c1] at hf
      refine Z.aload_n (n := 12) dX8_advance_11 rfl rfl ?_
      refine Z.aload_n (n := 13) dX8_advance_12 rfl rfl ?_
      refine Z.getf (n := 16) fX8_20 dX8_advance_13 rfl W88 rfl ?_
      refine Z.iload_n (n := 17) dX8_advance_16 rfl rfl ?_
      obtain ⟨j2, ej2, hf⟩ := Option.bind_eq_some_iff.mp hf
      obtain ⟨hij2, hlj2⟩ := ck_spec ej2
      refine Z.iald (j := j2) (n := 18) dX8_advance_17 rfl W90 hij2 hlj2 (by decide) ?_
      obtain ⟨j3, ej3, hf⟩ := Option.bind_eq_some_iff.mp hf
      obtain ⟨hij3, hlj3⟩ := ck_spec ej3
      refine Z.iald (j := j3) (n := 19) dX8_advance_18 rfl W40 hij3 hlj3 (by decide) ?_
      refine Z.aload_n (n := 20) dX8_advance_19 rfl rfl ?_
      refine Z.aload_n (n := 21) dX8_advance_20 rfl rfl ?_
      refine Z.iload_n (n := 22) dX8_advance_21 rfl rfl ?_
      obtain ⟨z4, ez4, hf⟩ := Option.bind_eq_some_iff.mp hf
      refine Z.callV (n := 25) vX8_66 (ctX8_highest ez4) hJ.rm (Nat.le_of_ble_eq_true rfl) rfl rfl (Nat.le_refl _) (Nat.le_refl _) rfl W88 rfl rfl (Nat.le_of_ble_eq_true rfl) rfl dX8_advance_22 rfl (fun v w hw => ?_)
      obtain ⟨rfl, rfl⟩ := hw
      show Z _ _ _ _ _ _ _ [.int z4.1, .int (h 40 j3)] _
      refine Z.icmp_gt (tgt := 42) (n := 28) dX8_advance_25 rfl rfl (fun c5 => ?_) (fun c5 => ?_)
      · rw [if_pos c5] at hf
        refine Z.aload_n (n := 43) dX8_advance_42 rfl rfl ?_
        refine Z.aload_n (n := 44) dX8_advance_43 rfl rfl ?_
        refine Z.getf (n := 47) fX8_20 dX8_advance_44 rfl W88 rfl ?_
        refine Z.iload_n (n := 48) dX8_advance_47 rfl rfl ?_
        obtain ⟨j6, ej6, hf⟩ := Option.bind_eq_some_iff.mp hf
        obtain ⟨hij6, hlj6⟩ := ck_spec ej6
        refine Z.iald (j := j6) (n := 49) dX8_advance_48 rfl W90 hij6 hlj6 (by decide) ?_
        refine Z.iconst (n := 50) (v := 0) dX8_advance_49 rfl (by decide +kernel) ?_
        obtain ⟨j7, ej7, hf⟩ := Option.bind_eq_some_iff.mp hf
        obtain ⟨hij7, hlj7⟩ := ck_spec ej7
        refine Z.iast (j := j7) (n := 51) dX8_advance_50 rfl W40 hij7 hlj7 (by decide) W40s ?_
        refine Z.iinc (n := 54) (v := l2 + (-1)) dX8_advance_51 rfl rfl rfl (by decide) rfl ?_
        refine Z.goto (tgt := 7) dX8_advance_54 rfl ?_
        exact ih _ _ hf
      · rw [if_neg c5] at hf
        refine Z.aload_n (n := 29) dX8_advance_28 rfl rfl ?_
        refine Z.aload_n (n := 30) dX8_advance_29 rfl rfl ?_
        refine Z.getf (n := 33) fX8_20 dX8_advance_30 rfl W88 rfl ?_
        refine Z.iload_n (n := 34) dX8_advance_33 rfl rfl ?_
        obtain ⟨j8, ej8, hf⟩ := Option.bind_eq_some_iff.mp hf
        obtain ⟨hij8, hlj8⟩ := ck_spec ej8
        refine Z.iald (j := j8) (n := 35) dX8_advance_34 rfl W90 hij8 hlj8 (by decide) ?_
        refine Z.dup2 (n := 36) dX8_advance_35 rfl rfl rfl ?_
        obtain ⟨j9, ej9, hf⟩ := Option.bind_eq_some_iff.mp hf
        obtain ⟨hij9, hlj9⟩ := ck_spec ej9
        refine Z.iald (j := j9) (n := 37) dX8_advance_36 rfl W40 hij9 hlj9 (by decide) ?_
        refine Z.iconst (n := 38) (v := 1) dX8_advance_37 rfl (by decide +kernel) ?_
        refine Z.iadd (n := 39) dX8_advance_38 rfl ?_
        obtain ⟨j10, ej10, hf⟩ := Option.bind_eq_some_iff.mp hf
        obtain ⟨hij10, hlj10⟩ := ck_spec ej10
        refine Z.iast (j := j10) (n := 40) dX8_advance_39 rfl W40 hij10 hlj10 (by decide) W40s ?_
        refine Z.iconst (n := 41) (v := 1) dX8_advance_40 rfl (by decide +kernel) ?_
        have hz := Option.some.inj hf
        subst hz
        exact Z.zret hJ dX8_advance_41 rfl rfl (Nat.le_refl _) (Nat.le_refl _) ⟨rfl, rfl⟩
def fX8_advance (h : HT) : Option (Int32 × HT) :=
  fX8_advance_7 1000 ((h 88 2) - (1 : Int32)) h
set_option maxHeartbeats 4000000 in
theorem ctX8_advance {g : GP} {a : Nat → Nat} {P : PT} {h : HT} {z : Int32 × HT} (hf : fX8_advance h = some z) : Ct g 2 0 0 mX8_advance [.ref (a 88), .ref (a 40)] (WD g a h P) (PoI g a P z) := by
  refine Ct.of (by decide +kernel) (Nat.le_of_ble_eq_true rfl) fun J hJ => ?_
  show Z g mX8_advance J 0 0 0 [some (.ref (a 88)), some (.ref (a 40)), none] [] (WD g a h P)
  unfold fX8_advance at hf
  refine Z.aload_n (n := 1) dX8_advance_0 rfl rfl ?_
  refine Z.getf (n := 4) fX8_24 dX8_advance_1 rfl W88 rfl ?_
  refine Z.iconst (n := 5) (v := 1) dX8_advance_4 rfl (by decide +kernel) ?_
  refine Z.isub (n := 6) dX8_advance_5 rfl ?_
  refine Z.istore_n (n := 7) dX8_advance_6 rfl (by decide) rfl ?_
  exact zX8_advance_7 hJ _ _ _ hf
theorem uS_X8_76_X4 {c : Nat} (hc : SCX4 c) : ∃ q : vw_C, vwCl[c]? = some q ∧ CU RX8 76 q.1 mX5_prey 2 := by
  rcases hc with rfl | rfl
  · exact ⟨_, rfl, uX8_76_X4⟩
  · exact ⟨_, rfl, uX8_76_X2⟩
def fX8_steady_103 (k23_ : Int32 → Int32 → HT → Option (Int32 × HT)) (l3 : Int32) (l4 : Int32) (l5 : Int32) (l6 : Int32) (l7 : Int32) (h : HT) : Option (Int32 × HT) :=
  Option.bind (ck 7 l5) fun j6 =>
  if l7 = 0 then (k23_ l3 (l4 + 1) (hu h 40 j6 l6))
  else (some (0, hu h 40 j6 l6))
set_option maxHeartbeats 4000000 in
theorem zX8_steady_103 {g : GP} {a : Nat → Nat} {P : PT} {J : JT} {z : Int32 × HT} {k23_ : Int32 → Int32 → HT → Option (Int32 × HT)} (hJ : JX g 6 0 0 (PoI g a P z) J) (hk23 : ∀ (l3 : Int32) (l4 : Int32) (h : HT), k23_ l3 l4 h = some z → Z g mX8_steady J 0 0 23 [some (.ref (a 88)), some (.ref (a 1)), some (.ref (a 40)), some (.int l3), some (.int l4), none, none, none, none] [] (WD g a h P)) (l3 : Int32) (l4 : Int32) (l5 : Int32) (l6 : Int32) (l7 : Int32) (h : HT) (hf : fX8_steady_103 k23_ l3 l4 l5 l6 l7 h = some z) : Z g mX8_steady J 0 0 103 [some (.ref (a 88)), some (.ref (a 1)), some (.ref (a 40)), some (.int l3), some (.int l4), some (.int l5), some (.int l6), some (.int l7), none] [] (WD g a h P) := by
  unfold fX8_steady_103 at hf
  refine Z.aload_n (n := 104) dX8_steady_103 rfl rfl ?_
  refine Z.iload (n := 106) dX8_steady_104 rfl rfl ?_
  refine Z.iload (n := 108) dX8_steady_106 rfl rfl ?_
  obtain ⟨j6, ej6, hf⟩ := Option.bind_eq_some_iff.mp hf
  obtain ⟨hij6, hlj6⟩ := ck_spec ej6
  refine Z.iast (j := j6) (n := 109) dX8_steady_108 rfl W40 hij6 hlj6 (by decide) W40s ?_
  refine Z.iload (n := 111) dX8_steady_109 rfl rfl ?_
  refine Z.if_eq (tgt := 116) (n := 114) dX8_steady_111 rfl rfl (fun c7 => ?_) (fun c7 => ?_)
  · rw [if_pos c7] at hf
    refine Z.iinc (n := 119) (v := l4 + 1) dX8_steady_116 rfl rfl rfl (by decide) rfl ?_
    refine Z.goto (tgt := 23) dX8_steady_119 rfl ?_
    refine Z.fg [5, 6, 7] ?_
    exact hk23 _ _ _ hf
  · rw [if_neg c7] at hf
    refine Z.iconst (n := 115) (v := 0) dX8_steady_114 rfl (by decide +kernel) ?_
    have hz := Option.some.inj hf
    subst hz
    exact Z.zret hJ dX8_steady_115 rfl rfl (Nat.le_refl _) (Nat.le_refl _) ⟨rfl, rfl⟩
def fX8_steady_95 (k23_ : Int32 → Int32 → HT → Option (Int32 × HT)) (k53_ : Int32 → Int32 → Int32 → Int32 → Int32 → Int32 → HT → Option (Int32 × HT)) (l3 : Int32) (l4 : Int32) (l5 : Int32) (l6 : Int32) (l8 : Int32) (s0 : Int32) (h : HT) : Option (Int32 × HT) :=
  k53_ l3 l4 l5 l6 s0 (l8 + 1) h
set_option maxHeartbeats 4000000 in
theorem zX8_steady_95 {g : GP} {a : Nat → Nat} {P : PT} {J : JT} {z : Int32 × HT} {k23_ : Int32 → Int32 → HT → Option (Int32 × HT)} {k53_ : Int32 → Int32 → Int32 → Int32 → Int32 → Int32 → HT → Option (Int32 × HT)} (hJ : JX g 6 0 0 (PoI g a P z) J) (hk23 : ∀ (l3 : Int32) (l4 : Int32) (h : HT), k23_ l3 l4 h = some z → Z g mX8_steady J 0 0 23 [some (.ref (a 88)), some (.ref (a 1)), some (.ref (a 40)), some (.int l3), some (.int l4), none, none, none, none] [] (WD g a h P)) (hk53 : ∀ (l3 : Int32) (l4 : Int32) (l5 : Int32) (l6 : Int32) (l7 : Int32) (l8 : Int32) (h : HT), k53_ l3 l4 l5 l6 l7 l8 h = some z → Z g mX8_steady J 0 0 53 [some (.ref (a 88)), some (.ref (a 1)), some (.ref (a 40)), some (.int l3), some (.int l4), some (.int l5), some (.int l6), some (.int l7), some (.int l8)] [] (WD g a h P)) (l3 : Int32) (l4 : Int32) (l5 : Int32) (l6 : Int32) (l8 : Int32) (s0 : Int32) (h : HT) (hf : fX8_steady_95 k23_ k53_ l3 l4 l5 l6 l8 s0 h = some z) : Z g mX8_steady J 0 0 95 [some (.ref (a 88)), some (.ref (a 1)), some (.ref (a 40)), some (.int l3), some (.int l4), some (.int l5), some (.int l6), none, some (.int l8)] [.int s0] (WD g a h P) := by
  unfold fX8_steady_95 at hf
  refine Z.istore (n := 97) dX8_steady_95 rfl (by decide) rfl ?_
  refine Z.iinc (n := 100) (v := l8 + 1) dX8_steady_97 rfl rfl rfl (by decide) rfl ?_
  refine Z.goto (tgt := 53) dX8_steady_100 rfl ?_
  exact hk53 _ _ _ _ _ _ _ hf
def fX8_steady_94 (k23_ : Int32 → Int32 → HT → Option (Int32 × HT)) (k53_ : Int32 → Int32 → Int32 → Int32 → Int32 → Int32 → HT → Option (Int32 × HT)) (l3 : Int32) (l4 : Int32) (l5 : Int32) (l6 : Int32) (l8 : Int32) (h : HT) : Option (Int32 × HT) :=
  fX8_steady_95 k23_ k53_ l3 l4 l5 l6 l8 0 h
set_option maxHeartbeats 4000000 in
theorem zX8_steady_94 {g : GP} {a : Nat → Nat} {P : PT} {J : JT} {z : Int32 × HT} {k23_ : Int32 → Int32 → HT → Option (Int32 × HT)} {k53_ : Int32 → Int32 → Int32 → Int32 → Int32 → Int32 → HT → Option (Int32 × HT)} (hJ : JX g 6 0 0 (PoI g a P z) J) (hk23 : ∀ (l3 : Int32) (l4 : Int32) (h : HT), k23_ l3 l4 h = some z → Z g mX8_steady J 0 0 23 [some (.ref (a 88)), some (.ref (a 1)), some (.ref (a 40)), some (.int l3), some (.int l4), none, none, none, none] [] (WD g a h P)) (hk53 : ∀ (l3 : Int32) (l4 : Int32) (l5 : Int32) (l6 : Int32) (l7 : Int32) (l8 : Int32) (h : HT), k53_ l3 l4 l5 l6 l7 l8 h = some z → Z g mX8_steady J 0 0 53 [some (.ref (a 88)), some (.ref (a 1)), some (.ref (a 40)), some (.int l3), some (.int l4), some (.int l5), some (.int l6), some (.int l7), some (.int l8)] [] (WD g a h P)) (l3 : Int32) (l4 : Int32) (l5 : Int32) (l6 : Int32) (l8 : Int32) (h : HT) (hf : fX8_steady_94 k23_ k53_ l3 l4 l5 l6 l8 h = some z) : Z g mX8_steady J 0 0 94 [some (.ref (a 88)), some (.ref (a 1)), some (.ref (a 40)), some (.int l3), some (.int l4), some (.int l5), some (.int l6), none, some (.int l8)] [] (WD g a h P) := by
  unfold fX8_steady_94 at hf
  refine Z.iconst (n := 95) (v := 0) dX8_steady_94 rfl (by decide +kernel) ?_
  exact zX8_steady_95 hJ hk23 hk53 _ _ _ _ _ _ _ hf
def fX8_steady_53 (k23_ : Int32 → Int32 → HT → Option (Int32 × HT)) : Nat → Int32 → Int32 → Int32 → Int32 → Int32 → Int32 → HT → Option (Int32 × HT)
  | 0, _, _, _, _, _, _, _ => none
  | n + 1, l3, l4, l5, l6, l7, l8, h =>
  if l3 < l8 then (fX8_steady_103 k23_ l3 l4 l5 l6 l7 h)
  else (if l7 = 0 then (Option.bind (ck 7 l5) fun j9 =>
  if l8 = l6 then (fX8_steady_94 k23_ (fX8_steady_53 k23_ n) l3 l4 l5 l6 l8 (hu h 40 j9 l8))
  else (Option.bind (fX5_prey ((4, 8, 0) : SR) l5 (hu h 40 j9 l8)) fun z11 =>
  if z11.1 = 0 then (fX8_steady_94 k23_ (fX8_steady_53 k23_ n) l3 l4 l5 l6 l8 z11.2)
  else (fX8_steady_95 k23_ (fX8_steady_53 k23_ n) l3 l4 l5 l6 l8 1 z11.2)))
  else (fX8_steady_103 k23_ l3 l4 l5 l6 l7 h))
set_option maxHeartbeats 4000000 in
theorem zX8_steady_53 {g : GP} {a : Nat → Nat} {P : PT} {J : JT} {z : Int32 × HT} {k23_ : Int32 → Int32 → HT → Option (Int32 × HT)} (hJ : JX g 6 0 0 (PoI g a P z) J) (hk23 : ∀ (l3 : Int32) (l4 : Int32) (h : HT), k23_ l3 l4 h = some z → Z g mX8_steady J 0 0 23 [some (.ref (a 88)), some (.ref (a 1)), some (.ref (a 40)), some (.int l3), some (.int l4), none, none, none, none] [] (WD g a h P)) : ∀ (n : Nat) (l3 : Int32) (l4 : Int32) (l5 : Int32) (l6 : Int32) (l7 : Int32) (l8 : Int32) (h : HT), fX8_steady_53 k23_ n l3 l4 l5 l6 l7 l8 h = some z → Z g mX8_steady J 0 0 53 [some (.ref (a 88)), some (.ref (a 1)), some (.ref (a 40)), some (.int l3), some (.int l4), some (.int l5), some (.int l6), some (.int l7), some (.int l8)] [] (WD g a h P) := by
  intro n
  induction n with
  | zero =>
    intro _ _ _ _ _ _ _ hf
    cases hf
  | succ n ih =>
    intro l3 l4 l5 l6 l7 l8 h hf
    unfold fX8_steady_53 at hf
    refine Z.iload (n := 55) dX8_steady_53 rfl rfl ?_
    refine Z.iload_n (n := 56) dX8_steady_55 rfl rfl ?_
    refine Z.icmp_gt (tgt := 103) (n := 59) dX8_steady_56 rfl rfl (fun c5 => ?_) (fun c5 => ?_)
    · rw [if_pos c5] at hf
      refine Z.fg [8] ?_
      exact zX8_steady_103 hJ hk23 _ _ _ _ _ _ hf
    · rw [if_neg c5] at hf
      refine Z.iload (n := 61) dX8_steady_59 rfl rfl ?_
      refine Z.if_ne (tgt := 103) (n := 64) dX8_steady_61 rfl rfl (fun c8 => ?_) (fun c8 => ?_)
      · rw [if_neg c8] at hf
        refine Z.fg [8] ?_
        exact zX8_steady_103 hJ hk23 _ _ _ _ _ _ hf
      · rw [if_pos c8] at hf
        refine Z.aload_n (n := 65) dX8_steady_64 rfl rfl ?_
        refine Z.iload (n := 67) dX8_steady_65 rfl rfl ?_
        refine Z.iload (n := 69) dX8_steady_67 rfl rfl ?_
        obtain ⟨j9, ej9, hf⟩ := Option.bind_eq_some_iff.mp hf
        obtain ⟨hij9, hlj9⟩ := ck_spec ej9
        refine Z.iast (j := j9) (n := 70) dX8_steady_69 rfl W40 hij9 hlj9 (by decide) W40s ?_
        refine Z.iload (n := 72) dX8_steady_70 rfl rfl ?_
        refine Z.iload (n := 74) dX8_steady_72 rfl rfl ?_
        refine Z.icmp_eq (tgt := 94) (n := 77) dX8_steady_74 rfl rfl (fun c10 => ?_) (fun c10 => ?_)
        · rw [if_pos c10] at hf
          refine Z.fg [7] ?_
          exact zX8_steady_94 hJ hk23 ih _ _ _ _ _ _ hf
        · rw [if_neg c10] at hf
          refine Z.aload_n (n := 78) dX8_steady_77 rfl rfl ?_
          refine Z.getf (n := 81) fX8_16 dX8_steady_78 rfl W88 rfl ?_
          refine Z.aload_n (n := 82) dX8_steady_81 rfl rfl ?_
          refine Z.iload (n := 84) dX8_steady_82 rfl rfl ?_
          obtain ⟨z11, ez11, hf⟩ := Option.bind_eq_some_iff.mp hf
          obtain ⟨q9, hq9, hu9⟩ := uS_X8_76_X4 (Or.inl rfl)
          refine Z.callU (n := 87) hu9 (ctX5_prey 89 At.spare (SCX4_X5 (Or.inl rfl)) ez11) hJ.rm (Nat.le_of_ble_eq_true rfl) rfl rfl (Nat.le_refl _) (Nat.le_refl _) rfl (At.spare _) hq9 (Nat.le_of_ble_eq_true rfl) rfl dX8_steady_84 rfl (fun v w hw => ?_)
          obtain ⟨rfl, rfl⟩ := hw
          show Z _ _ _ _ _ _ _ [.int z11.1] _
          refine Z.if_eq (tgt := 94) (n := 90) dX8_steady_87 rfl rfl (fun c12 => ?_) (fun c12 => ?_)
          · rw [if_pos c12] at hf
            refine Z.fg [7] ?_
            exact zX8_steady_94 hJ hk23 ih _ _ _ _ _ _ hf
          · rw [if_neg c12] at hf
            refine Z.iconst (n := 91) (v := 1) dX8_steady_90 rfl (by decide +kernel) ?_
            refine Z.goto (tgt := 95) dX8_steady_91 rfl ?_
            refine Z.fg [7] ?_
            exact zX8_steady_95 hJ hk23 ih _ _ _ _ _ _ _ hf
def fX8_steady_23 : Nat → Int32 → Int32 → HT → Option (Int32 × HT)
  | 0, _, _, _ => none
  | n + 1, l3, l4, h =>
  if (h 88 2) ≤ l4 then (some (1, h))
  else (Option.bind (ck 7 l4) fun j3 =>
  Option.bind (ck 7 (h 90 j3)) fun j4 =>
  fX8_steady_53 (fX8_steady_23  n) 1000 l3 l4 (h 90 j3) (h 40 j4) 0 0 h)
set_option maxHeartbeats 4000000 in
theorem zX8_steady_23 {g : GP} {a : Nat → Nat} {P : PT} {J : JT} {z : Int32 × HT} (hJ : JX g 6 0 0 (PoI g a P z) J) : ∀ (n : Nat) (l3 : Int32) (l4 : Int32) (h : HT), fX8_steady_23 n l3 l4 h = some z → Z g mX8_steady J 0 0 23 [some (.ref (a 88)), some (.ref (a 1)), some (.ref (a 40)), some (.int l3), some (.int l4), none, none, none, none] [] (WD g a h P) := by
  intro n
  induction n with
  | zero =>
    intro _ _ _ hf
    cases hf
  | succ n ih =>
    intro l3 l4 h hf
    unfold fX8_steady_23 at hf
    refine Z.iload (n := 25) dX8_steady_23 rfl rfl ?_
    refine Z.aload_n (n := 26) dX8_steady_25 rfl rfl ?_
    refine Z.getf (n := 29) fX8_24 dX8_steady_26 rfl W88 rfl ?_
    refine Z.icmp_ge (tgt := 122) (n := 32) dX8_steady_29 rfl rfl (fun c2 => ?_) (fun c2 => ?_)
    · rw [if_pos c2] at hf
      refine Z.iconst (n := 123) (v := 1) dX8_steady_122 rfl (by decide +kernel) ?_
      have hz := Option.some.inj hf
      subst hz
      exact Z.zret hJ dX8_steady_123 rfl rfl (Nat.le_refl _) (Nat.le_refl _) ⟨rfl, rfl⟩
    · rw [if_neg c2] at hf
      refine Z.aload_n (n := 33) dX8_steady_32 rfl rfl ?_
      refine Z.getf (n := 36) fX8_20 dX8_steady_33 rfl W88 rfl ?_
      refine Z.iload (n := 38) dX8_steady_36 rfl rfl ?_
      obtain ⟨j3, ej3, hf⟩ := Option.bind_eq_some_iff.mp hf
      obtain ⟨hij3, hlj3⟩ := ck_spec ej3
      refine Z.iald (j := j3) (n := 39) dX8_steady_38 rfl W90 hij3 hlj3 (by decide) ?_
      refine Z.istore (n := 41) dX8_steady_39 rfl (by decide) rfl ?_
      refine Z.aload_n (n := 42) dX8_steady_41 rfl rfl ?_
      refine Z.iload (n := 44) dX8_steady_42 rfl rfl ?_
      obtain ⟨j4, ej4, hf⟩ := Option.bind_eq_some_iff.mp hf
      obtain ⟨hij4, hlj4⟩ := ck_spec ej4
      refine Z.iald (j := j4) (n := 45) dX8_steady_44 rfl W40 hij4 hlj4 (by decide) ?_
      refine Z.istore (n := 47) dX8_steady_45 rfl (by decide) rfl ?_
      refine Z.iconst (n := 48) (v := 0) dX8_steady_47 rfl (by decide +kernel) ?_
      refine Z.istore (n := 50) dX8_steady_48 rfl (by decide) rfl ?_
      refine Z.iconst (n := 51) (v := 0) dX8_steady_50 rfl (by decide +kernel) ?_
      refine Z.istore (n := 53) dX8_steady_51 rfl (by decide) rfl ?_
      exact zX8_steady_53 hJ ih _ _ _ _ _ _ _ _ hf
def fX8_steady (h : HT) : Option (Int32 × HT) :=
  Option.bind (fX8_highest (h 88 2) h) fun z1 =>
  fX8_steady_23 1000 (z1.1 + (1 : Int32)) 0 z1.2
set_option maxHeartbeats 4000000 in
theorem ctX8_steady {g : GP} {a : Nat → Nat} {P : PT} {h : HT} {z : Int32 × HT} (hf : fX8_steady h = some z) : Ct g 6 0 0 mX8_steady [.ref (a 88), .ref (a 1)] (WD g a h P) (PoI g a P z) := by
  refine Ct.of (by decide +kernel) (Nat.le_of_ble_eq_true rfl) fun J hJ => ?_
  show Z g mX8_steady J 0 0 0 [some (.ref (a 88)), some (.ref (a 1)), none, none, none, none, none, none, none] [] (WD g a h P)
  unfold fX8_steady at hf
  refine Z.aload_n (n := 1) dX8_steady_0 rfl rfl ?_
  refine Z.getf (n := 4) fX8_39 dX8_steady_1 rfl W1 rfl ?_
  refine Z.bipush (n := 6) (v := 8) dX8_steady_4 rfl (by decide +kernel) ?_
  refine Z.aald (j := 8) (ty := 3) (n := 7) dX8_steady_6 rfl W31 rfl rfl (by decide +kernel) (by decide) (by decide) ?_
  rw [if_pos (by decide)]
  show Z _ _ _ _ _ _ _ (.ref (a 40) :: _) _
  refine Z.astore_n (n := 8) dX8_steady_7 rfl (by decide) rfl ?_
  refine Z.aload_n (n := 9) dX8_steady_8 rfl rfl ?_
  refine Z.aload_n (n := 10) dX8_steady_9 rfl rfl ?_
  refine Z.aload_n (n := 11) dX8_steady_10 rfl rfl ?_
  refine Z.getf (n := 14) fX8_24 dX8_steady_11 rfl W88 rfl ?_
  obtain ⟨z1, ez1, hf⟩ := Option.bind_eq_some_iff.mp hf
  refine Z.callV (n := 17) vX8_66 (ctX8_highest ez1) hJ.rm (Nat.le_of_ble_eq_true rfl) rfl rfl (Nat.le_refl _) (Nat.le_refl _) rfl W88 rfl rfl (Nat.le_of_ble_eq_true rfl) rfl dX8_steady_14 rfl (fun v w hw => ?_)
  obtain ⟨rfl, rfl⟩ := hw
  show Z _ _ _ _ _ _ _ [.int z1.1] _
  refine Z.iconst (n := 18) (v := 1) dX8_steady_17 rfl (by decide +kernel) ?_
  refine Z.iadd (n := 19) dX8_steady_18 rfl ?_
  refine Z.istore_n (n := 20) dX8_steady_19 rfl (by decide) rfl ?_
  refine Z.iconst (n := 21) (v := 0) dX8_steady_20 rfl (by decide +kernel) ?_
  refine Z.istore (n := 23) dX8_steady_21 rfl (by decide) rfl ?_
  exact zX8_steady_23 hJ _ _ _ _ hf
theorem uS_X8_47_X4 {c : Nat} (hc : SCX4 c) : ∃ q : vw_C, vwCl[c]? = some q ∧ CU RX8 47 q.1 mX5_firstWar 1 := by
  rcases hc with rfl | rfl
  · exact ⟨_, rfl, uX8_47_X4⟩
  · exact ⟨_, rfl, uX8_47_X2⟩
def fX8_number_72 (l4 : Int32) (h : HT) : Option (Int32 × HT) :=
  some (l4, h)
set_option maxHeartbeats 4000000 in
theorem zX8_number_72 {g : GP} {a : Nat → Nat} {P : PT} {J : JT} {z : Int32 × HT} (hJ : JX g 7 0 0 (PoI g a P z) J) (l4 : Int32) (h : HT) (hf : fX8_number_72 l4 h = some z) : Z g mX8_number J 0 0 72 [none, none, none, none, some (.int l4), none] [] (WD g a h P) := by
  unfold fX8_number_72 at hf
  refine Z.iload (n := 74) dX8_number_72 rfl rfl ?_
  have hz := Option.some.inj hf
  subst hz
  exact Z.iret hJ dX8_number_74 rfl (Nat.le_refl _) (Nat.le_refl _) ⟨rfl, rfl⟩
def fX8_number_49 (k11_ : Int32 → Int32 → Int32 → Int32 → HT → Option (Int32 × HT)) (l2 : Int32) (l3 : Int32) (l4 : Int32) (l5 : Int32) (h : HT) : Option (Int32 × HT) :=
  Option.bind (fX8_advance  h) fun z5 =>
  if z5.1 = 0 then (fX8_number_72 l4 z5.2)
  else (k11_ l2 l3 l4 (l5 + 1) z5.2)
set_option maxHeartbeats 4000000 in
theorem zX8_number_49 {g : GP} {a : Nat → Nat} {P : PT} {J : JT} {z : Int32 × HT} {k11_ : Int32 → Int32 → Int32 → Int32 → HT → Option (Int32 × HT)} (hJ : JX g 7 0 0 (PoI g a P z) J) (hk11 : ∀ (l2 : Int32) (l3 : Int32) (l4 : Int32) (l5 : Int32) (h : HT), k11_ l2 l3 l4 l5 h = some z → Z g mX8_number J 0 0 11 [some (.ref (a 88)), some (.ref (a 1)), some (.int l2), some (.int l3), some (.int l4), some (.int l5)] [] (WD g a h P)) (l2 : Int32) (l3 : Int32) (l4 : Int32) (l5 : Int32) (h : HT) (hf : fX8_number_49 k11_ l2 l3 l4 l5 h = some z) : Z g mX8_number J 0 0 49 [some (.ref (a 88)), some (.ref (a 1)), some (.int l2), some (.int l3), some (.int l4), some (.int l5)] [] (WD g a h P) := by
  unfold fX8_number_49 at hf
  refine Z.aload_n (n := 50) dX8_number_49 rfl rfl ?_
  refine Z.aload_n (n := 51) dX8_number_50 rfl rfl ?_
  refine Z.getf (n := 54) fX8_39 dX8_number_51 rfl W1 rfl ?_
  refine Z.bipush (n := 56) (v := 8) dX8_number_54 rfl (by decide +kernel) ?_
  refine Z.aald (j := 8) (ty := 3) (n := 57) dX8_number_56 rfl W31 rfl rfl (by decide +kernel) (by decide) (by decide) ?_
  rw [if_pos (by decide)]
  show Z _ _ _ _ _ _ _ (.ref (a 40) :: _) _
  obtain ⟨z5, ez5, hf⟩ := Option.bind_eq_some_iff.mp hf
  refine Z.callV (n := 60) vX8_55 (ctX8_advance ez5) hJ.rm (Nat.le_of_ble_eq_true rfl) rfl rfl (Nat.le_refl _) (Nat.le_refl _) rfl W88 rfl rfl (Nat.le_of_ble_eq_true rfl) rfl dX8_number_57 rfl (fun v w hw => ?_)
  obtain ⟨rfl, rfl⟩ := hw
  show Z _ _ _ _ _ _ _ [.int z5.1] _
  refine Z.if_ne (tgt := 66) (n := 63) dX8_number_60 rfl rfl (fun c6 => ?_) (fun c6 => ?_)
  · rw [if_neg c6] at hf
    refine Z.iinc (n := 69) (v := l5 + 1) dX8_number_66 rfl rfl rfl (by decide) rfl ?_
    refine Z.goto (tgt := 11) dX8_number_69 rfl ?_
    exact hk11 _ _ _ _ _ hf
  · rw [if_pos c6] at hf
    refine Z.goto (tgt := 72) dX8_number_63 rfl ?_
    refine Z.fg [0, 1, 2, 3, 5] ?_
    exact zX8_number_72 hJ _ _ hf
def fX8_number_46 (k11_ : Int32 → Int32 → Int32 → Int32 → HT → Option (Int32 × HT)) (l2 : Int32) (l3 : Int32) (l4 : Int32) (l5 : Int32) (h : HT) : Option (Int32 × HT) :=
  fX8_number_49 k11_ l2 l3 (l4 + 1) l5 h
set_option maxHeartbeats 4000000 in
theorem zX8_number_46 {g : GP} {a : Nat → Nat} {P : PT} {J : JT} {z : Int32 × HT} {k11_ : Int32 → Int32 → Int32 → Int32 → HT → Option (Int32 × HT)} (hJ : JX g 7 0 0 (PoI g a P z) J) (hk11 : ∀ (l2 : Int32) (l3 : Int32) (l4 : Int32) (l5 : Int32) (h : HT), k11_ l2 l3 l4 l5 h = some z → Z g mX8_number J 0 0 11 [some (.ref (a 88)), some (.ref (a 1)), some (.int l2), some (.int l3), some (.int l4), some (.int l5)] [] (WD g a h P)) (l2 : Int32) (l3 : Int32) (l4 : Int32) (l5 : Int32) (h : HT) (hf : fX8_number_46 k11_ l2 l3 l4 l5 h = some z) : Z g mX8_number J 0 0 46 [some (.ref (a 88)), some (.ref (a 1)), some (.int l2), some (.int l3), some (.int l4), some (.int l5)] [] (WD g a h P) := by
  unfold fX8_number_46 at hf
  refine Z.iinc (n := 49) (v := l4 + 1) dX8_number_46 rfl rfl rfl (by decide) rfl ?_
  exact zX8_number_49 hJ hk11 _ _ _ _ _ hf
def fX8_number_34 (k11_ : Int32 → Int32 → Int32 → Int32 → HT → Option (Int32 × HT)) (l2 : Int32) (l3 : Int32) (l4 : Int32) (l5 : Int32) (h : HT) : Option (Int32 × HT) :=
  if l3 = 0 then (fX8_number_46 k11_ l2 l3 l4 l5 h)
  else (Option.bind (fX8_steady  h) fun z7 =>
  if z7.1 = 0 then (fX8_number_49 k11_ l2 l3 l4 l5 z7.2)
  else (fX8_number_46 k11_ l2 l3 l4 l5 z7.2))
set_option maxHeartbeats 4000000 in
theorem zX8_number_34 {g : GP} {a : Nat → Nat} {P : PT} {J : JT} {z : Int32 × HT} {k11_ : Int32 → Int32 → Int32 → Int32 → HT → Option (Int32 × HT)} (hJ : JX g 7 0 0 (PoI g a P z) J) (hk11 : ∀ (l2 : Int32) (l3 : Int32) (l4 : Int32) (l5 : Int32) (h : HT), k11_ l2 l3 l4 l5 h = some z → Z g mX8_number J 0 0 11 [some (.ref (a 88)), some (.ref (a 1)), some (.int l2), some (.int l3), some (.int l4), some (.int l5)] [] (WD g a h P)) (l2 : Int32) (l3 : Int32) (l4 : Int32) (l5 : Int32) (h : HT) (hf : fX8_number_34 k11_ l2 l3 l4 l5 h = some z) : Z g mX8_number J 0 0 34 [some (.ref (a 88)), some (.ref (a 1)), some (.int l2), some (.int l3), some (.int l4), some (.int l5)] [] (WD g a h P) := by
  unfold fX8_number_34 at hf
  refine Z.iload_n (n := 35) dX8_number_34 rfl rfl ?_
  refine Z.if_eq (tgt := 46) (n := 38) dX8_number_35 rfl rfl (fun c4 => ?_) (fun c4 => ?_)
  · rw [if_pos c4] at hf
    exact zX8_number_46 hJ hk11 _ _ _ _ _ hf
  · rw [if_neg c4] at hf
    refine Z.aload_n (n := 39) dX8_number_38 rfl rfl ?_
    refine Z.aload_n (n := 40) dX8_number_39 rfl rfl ?_
    obtain ⟨z7, ez7, hf⟩ := Option.bind_eq_some_iff.mp hf
    refine Z.callV (n := 43) vX8_51 (ctX8_steady ez7) hJ.rm (Nat.le_of_ble_eq_true rfl) rfl rfl (Nat.le_refl _) (Nat.le_refl _) rfl W88 rfl rfl (Nat.le_of_ble_eq_true rfl) rfl dX8_number_40 rfl (fun v w hw => ?_)
    obtain ⟨rfl, rfl⟩ := hw
    show Z _ _ _ _ _ _ _ [.int z7.1] _
    refine Z.if_eq (tgt := 49) (n := 46) dX8_number_43 rfl rfl (fun c8 => ?_) (fun c8 => ?_)
    · rw [if_pos c8] at hf
      exact zX8_number_49 hJ hk11 _ _ _ _ _ hf
    · rw [if_neg c8] at hf
      exact zX8_number_46 hJ hk11 _ _ _ _ _ hf
def fX8_number_11 : Nat → Int32 → Int32 → Int32 → Int32 → HT → Option (Int32 × HT)
  | 0, _, _, _, _, _ => none
  | n + 1, l2, l3, l4, l5, h =>
  if 203 ≤ l5 then (fX8_number_72 l4 h)
  else (if l2 = 0 then (fX8_number_34 (fX8_number_11  n) l2 l3 l4 l5 h)
  else (Option.bind (fX5_firstWar ((4, 8, 0) : SR) h) fun z9 =>
  if 0 ≤ z9.1 then (fX8_number_49 (fX8_number_11  n) l2 l3 l4 l5 z9.2)
  else (fX8_number_34 (fX8_number_11  n) l2 l3 l4 l5 z9.2)))
set_option maxHeartbeats 4000000 in
theorem zX8_number_11 {g : GP} {a : Nat → Nat} {P : PT} {J : JT} {z : Int32 × HT} (hJ : JX g 7 0 0 (PoI g a P z) J) : ∀ (n : Nat) (l2 : Int32) (l3 : Int32) (l4 : Int32) (l5 : Int32) (h : HT), fX8_number_11 n l2 l3 l4 l5 h = some z → Z g mX8_number J 0 0 11 [some (.ref (a 88)), some (.ref (a 1)), some (.int l2), some (.int l3), some (.int l4), some (.int l5)] [] (WD g a h P) := by
  intro n
  induction n with
  | zero =>
    intro _ _ _ _ _ hf
    cases hf
  | succ n ih =>
    intro l2 l3 l4 l5 h hf
    unfold fX8_number_11 at hf
    refine Z.iload (n := 13) dX8_number_11 rfl rfl ?_
    refine Z.sipush (n := 16) (v := 203) dX8_number_13 rfl (by decide +kernel) ?_
    refine Z.icmp_ge (tgt := 72) (n := 19) dX8_number_16 rfl rfl (fun c2 => ?_) (fun c2 => ?_)
    · rw [if_pos c2] at hf
      refine Z.fg [0, 1, 2, 3, 5] ?_
      exact zX8_number_72 hJ _ _ hf
    · rw [if_neg c2] at hf
      refine Z.iload_n (n := 20) dX8_number_19 rfl rfl ?_
      refine Z.if_eq (tgt := 34) (n := 23) dX8_number_20 rfl rfl (fun c3 => ?_) (fun c3 => ?_)
      · rw [if_pos c3] at hf
        exact zX8_number_34 hJ ih _ _ _ _ _ hf
      · rw [if_neg c3] at hf
        refine Z.aload_n (n := 24) dX8_number_23 rfl rfl ?_
        refine Z.getf (n := 27) fX8_16 dX8_number_24 rfl W88 rfl ?_
        refine Z.aload_n (n := 28) dX8_number_27 rfl rfl ?_
        obtain ⟨z9, ez9, hf⟩ := Option.bind_eq_some_iff.mp hf
        obtain ⟨q9, hq9, hu9⟩ := uS_X8_47_X4 (Or.inl rfl)
        refine Z.callU (n := 31) hu9 (ctX5_firstWar 89 At.spare (SCX4_X5 (Or.inl rfl)) ez9) hJ.rm (Nat.le_of_ble_eq_true rfl) rfl rfl (Nat.le_refl _) (Nat.le_refl _) rfl (At.spare _) hq9 (Nat.le_of_ble_eq_true rfl) rfl dX8_number_28 rfl (fun v w hw => ?_)
        obtain ⟨rfl, rfl⟩ := hw
        show Z _ _ _ _ _ _ _ [.int z9.1] _
        refine Z.if_ge (tgt := 49) (n := 34) dX8_number_31 rfl rfl (fun c10 => ?_) (fun c10 => ?_)
        · rw [if_pos c10] at hf
          exact zX8_number_49 hJ ih _ _ _ _ _ hf
        · rw [if_neg c10] at hf
          exact zX8_number_34 hJ ih _ _ _ _ _ hf
def fX8_number (l2 : Int32) (l3 : Int32) (h : HT) : Option (Int32 × HT) :=
  Option.bind (fX8_begin  h) fun z1 =>
  fX8_number_11 1000 l2 l3 0 0 z1.2
set_option maxHeartbeats 4000000 in
theorem ctX8_number {g : GP} {a : Nat → Nat} {P : PT} {h : HT} {z : Int32 × HT} {l2 : Int32} {l3 : Int32} (hf : fX8_number l2 l3 h = some z) : Ct g 7 0 0 mX8_number [.ref (a 88), .ref (a 1), .int l2, .int l3] (WD g a h P) (PoI g a P z) := by
  refine Ct.of (by decide +kernel) (Nat.le_of_ble_eq_true rfl) fun J hJ => ?_
  show Z g mX8_number J 0 0 0 [some (.ref (a 88)), some (.ref (a 1)), some (.int l2), some (.int l3), none, none] [] (WD g a h P)
  unfold fX8_number at hf
  refine Z.iconst (n := 1) (v := 0) dX8_number_0 rfl (by decide +kernel) ?_
  refine Z.istore (n := 3) dX8_number_1 rfl (by decide) rfl ?_
  refine Z.aload_n (n := 4) dX8_number_3 rfl rfl ?_
  refine Z.aload_n (n := 5) dX8_number_4 rfl rfl ?_
  obtain ⟨z1, ez1, hf⟩ := Option.bind_eq_some_iff.mp hf
  refine Z.callV (n := 8) vX8_43 (ctX8_begin ez1) hJ.rm (Nat.le_of_ble_eq_true rfl) rfl rfl (Nat.le_refl _) (Nat.le_refl _) rfl W88 rfl rfl (Nat.le_of_ble_eq_true rfl) rfl dX8_number_5 rfl (fun v w hw => ?_)
  obtain ⟨rfl, rfl⟩ := hw
  show Z _ _ _ _ _ _ _ [] _
  refine Z.iconst (n := 9) (v := 0) dX8_number_8 rfl (by decide +kernel) ?_
  refine Z.istore (n := 11) dX8_number_9 rfl (by decide) rfl ?_
  exact zX8_number_11 hJ _ _ _ _ _ _ hf
def fX8_find_76 (h : HT) : Option (Int32 × HT) :=
  some (0, h)
set_option maxHeartbeats 4000000 in
theorem zX8_find_76 {g : GP} {a : Nat → Nat} {P : PT} {J : JT} {z : Int32 × HT} (hJ : JX g 7 0 0 (PoI g a P z) J) (h : HT) (hf : fX8_find_76 h = some z) : Z g mX8_find J 0 0 76 [none, none, none, none, none, none] [] (WD g a h P) := by
  unfold fX8_find_76 at hf
  refine Z.iconst (n := 77) (v := 0) dX8_find_76 rfl (by decide +kernel) ?_
  have hz := Option.some.inj hf
  subst hz
  exact Z.zret hJ dX8_find_77 rfl rfl (Nat.le_refl _) (Nat.le_refl _) ⟨rfl, rfl⟩
def fX8_find_53 (k11_ : Int32 → Int32 → Int32 → Int32 → HT → Option (Int32 × HT)) (l2 : Int32) (l3 : Int32) (l4 : Int32) (l5 : Int32) (h : HT) : Option (Int32 × HT) :=
  Option.bind (fX8_advance  h) fun z5 =>
  if z5.1 = 0 then (fX8_find_76 z5.2)
  else (k11_ l2 l3 l4 (l5 + 1) z5.2)
set_option maxHeartbeats 4000000 in
theorem zX8_find_53 {g : GP} {a : Nat → Nat} {P : PT} {J : JT} {z : Int32 × HT} {k11_ : Int32 → Int32 → Int32 → Int32 → HT → Option (Int32 × HT)} (hJ : JX g 7 0 0 (PoI g a P z) J) (hk11 : ∀ (l2 : Int32) (l3 : Int32) (l4 : Int32) (l5 : Int32) (h : HT), k11_ l2 l3 l4 l5 h = some z → Z g mX8_find J 0 0 11 [some (.ref (a 88)), some (.ref (a 1)), some (.int l2), some (.int l3), some (.int l4), some (.int l5)] [] (WD g a h P)) (l2 : Int32) (l3 : Int32) (l4 : Int32) (l5 : Int32) (h : HT) (hf : fX8_find_53 k11_ l2 l3 l4 l5 h = some z) : Z g mX8_find J 0 0 53 [some (.ref (a 88)), some (.ref (a 1)), some (.int l2), some (.int l3), some (.int l4), some (.int l5)] [] (WD g a h P) := by
  unfold fX8_find_53 at hf
  refine Z.aload_n (n := 54) dX8_find_53 rfl rfl ?_
  refine Z.aload_n (n := 55) dX8_find_54 rfl rfl ?_
  refine Z.getf (n := 58) fX8_39 dX8_find_55 rfl W1 rfl ?_
  refine Z.bipush (n := 60) (v := 8) dX8_find_58 rfl (by decide +kernel) ?_
  refine Z.aald (j := 8) (ty := 3) (n := 61) dX8_find_60 rfl W31 rfl rfl (by decide +kernel) (by decide) (by decide) ?_
  rw [if_pos (by decide)]
  show Z _ _ _ _ _ _ _ (.ref (a 40) :: _) _
  obtain ⟨z5, ez5, hf⟩ := Option.bind_eq_some_iff.mp hf
  refine Z.callV (n := 64) vX8_55 (ctX8_advance ez5) hJ.rm (Nat.le_of_ble_eq_true rfl) rfl rfl (Nat.le_refl _) (Nat.le_refl _) rfl W88 rfl rfl (Nat.le_of_ble_eq_true rfl) rfl dX8_find_61 rfl (fun v w hw => ?_)
  obtain ⟨rfl, rfl⟩ := hw
  show Z _ _ _ _ _ _ _ [.int z5.1] _
  refine Z.if_ne (tgt := 70) (n := 67) dX8_find_64 rfl rfl (fun c6 => ?_) (fun c6 => ?_)
  · rw [if_neg c6] at hf
    refine Z.iinc (n := 73) (v := l5 + 1) dX8_find_70 rfl rfl rfl (by decide) rfl ?_
    refine Z.goto (tgt := 11) dX8_find_73 rfl ?_
    exact hk11 _ _ _ _ _ hf
  · rw [if_pos c6] at hf
    refine Z.goto (tgt := 76) dX8_find_67 rfl ?_
    refine Z.fg [0, 1, 2, 3, 4, 5] ?_
    exact zX8_find_76 hJ _ hf
def fX8_find_42 (k11_ : Int32 → Int32 → Int32 → Int32 → HT → Option (Int32 × HT)) (l2 : Int32) (l3 : Int32) (l4 : Int32) (l5 : Int32) (h : HT) : Option (Int32 × HT) :=
  if l4 = l2 then (some (1, h))
  else (fX8_find_53 k11_ l2 l3 (l4 + 1) l5 h)
set_option maxHeartbeats 4000000 in
theorem zX8_find_42 {g : GP} {a : Nat → Nat} {P : PT} {J : JT} {z : Int32 × HT} {k11_ : Int32 → Int32 → Int32 → Int32 → HT → Option (Int32 × HT)} (hJ : JX g 7 0 0 (PoI g a P z) J) (hk11 : ∀ (l2 : Int32) (l3 : Int32) (l4 : Int32) (l5 : Int32) (h : HT), k11_ l2 l3 l4 l5 h = some z → Z g mX8_find J 0 0 11 [some (.ref (a 88)), some (.ref (a 1)), some (.int l2), some (.int l3), some (.int l4), some (.int l5)] [] (WD g a h P)) (l2 : Int32) (l3 : Int32) (l4 : Int32) (l5 : Int32) (h : HT) (hf : fX8_find_42 k11_ l2 l3 l4 l5 h = some z) : Z g mX8_find J 0 0 42 [some (.ref (a 88)), some (.ref (a 1)), some (.int l2), some (.int l3), some (.int l4), some (.int l5)] [] (WD g a h P) := by
  unfold fX8_find_42 at hf
  refine Z.iload (n := 44) dX8_find_42 rfl rfl ?_
  refine Z.iload_n (n := 45) dX8_find_44 rfl rfl ?_
  refine Z.icmp_ne (tgt := 50) (n := 48) dX8_find_45 rfl rfl (fun c8 => ?_) (fun c8 => ?_)
  · rw [if_neg c8] at hf
    refine Z.iinc (n := 53) (v := l4 + 1) dX8_find_50 rfl rfl rfl (by decide) rfl ?_
    exact zX8_find_53 hJ hk11 _ _ _ _ _ hf
  · rw [if_pos c8] at hf
    refine Z.iconst (n := 49) (v := 1) dX8_find_48 rfl (by decide +kernel) ?_
    have hz := Option.some.inj hf
    subst hz
    exact Z.zret hJ dX8_find_49 rfl rfl (Nat.le_refl _) (Nat.le_refl _) ⟨rfl, rfl⟩
def fX8_find_11 : Nat → Int32 → Int32 → Int32 → Int32 → HT → Option (Int32 × HT)
  | 0, _, _, _, _, _ => none
  | n + 1, l2, l3, l4, l5, h =>
  if 203 ≤ l5 then (fX8_find_76 h)
  else (Option.bind (fX5_firstWar ((4, 8, 0) : SR) h) fun z3 =>
  if 0 ≤ z3.1 then (fX8_find_53 (fX8_find_11  n) l2 l3 l4 l5 z3.2)
  else (if l3 = 0 then (fX8_find_42 (fX8_find_11  n) l2 l3 l4 l5 z3.2)
  else (Option.bind (fX8_steady  z3.2) fun z9 =>
  if z9.1 = 0 then (fX8_find_53 (fX8_find_11  n) l2 l3 l4 l5 z9.2)
  else (fX8_find_42 (fX8_find_11  n) l2 l3 l4 l5 z9.2))))
set_option maxHeartbeats 4000000 in
theorem zX8_find_11 {g : GP} {a : Nat → Nat} {P : PT} {J : JT} {z : Int32 × HT} (hJ : JX g 7 0 0 (PoI g a P z) J) : ∀ (n : Nat) (l2 : Int32) (l3 : Int32) (l4 : Int32) (l5 : Int32) (h : HT), fX8_find_11 n l2 l3 l4 l5 h = some z → Z g mX8_find J 0 0 11 [some (.ref (a 88)), some (.ref (a 1)), some (.int l2), some (.int l3), some (.int l4), some (.int l5)] [] (WD g a h P) := by
  intro n
  induction n with
  | zero =>
    intro _ _ _ _ _ hf
    cases hf
  | succ n ih =>
    intro l2 l3 l4 l5 h hf
    unfold fX8_find_11 at hf
    refine Z.iload (n := 13) dX8_find_11 rfl rfl ?_
    refine Z.sipush (n := 16) (v := 203) dX8_find_13 rfl (by decide +kernel) ?_
    refine Z.icmp_ge (tgt := 76) (n := 19) dX8_find_16 rfl rfl (fun c2 => ?_) (fun c2 => ?_)
    · rw [if_pos c2] at hf
      refine Z.fg [0, 1, 2, 3, 4, 5] ?_
      exact zX8_find_76 hJ _ hf
    · rw [if_neg c2] at hf
      refine Z.aload_n (n := 20) dX8_find_19 rfl rfl ?_
      refine Z.getf (n := 23) fX8_16 dX8_find_20 rfl W88 rfl ?_
      refine Z.aload_n (n := 24) dX8_find_23 rfl rfl ?_
      obtain ⟨z3, ez3, hf⟩ := Option.bind_eq_some_iff.mp hf
      obtain ⟨q9, hq9, hu9⟩ := uS_X8_47_X4 (Or.inl rfl)
      refine Z.callU (n := 27) hu9 (ctX5_firstWar 89 At.spare (SCX4_X5 (Or.inl rfl)) ez3) hJ.rm (Nat.le_of_ble_eq_true rfl) rfl rfl (Nat.le_refl _) (Nat.le_refl _) rfl (At.spare _) hq9 (Nat.le_of_ble_eq_true rfl) rfl dX8_find_24 rfl (fun v w hw => ?_)
      obtain ⟨rfl, rfl⟩ := hw
      show Z _ _ _ _ _ _ _ [.int z3.1] _
      refine Z.if_ge (tgt := 53) (n := 30) dX8_find_27 rfl rfl (fun c4 => ?_) (fun c4 => ?_)
      · rw [if_pos c4] at hf
        exact zX8_find_53 hJ ih _ _ _ _ _ hf
      · rw [if_neg c4] at hf
        refine Z.iload_n (n := 31) dX8_find_30 rfl rfl ?_
        refine Z.if_eq (tgt := 42) (n := 34) dX8_find_31 rfl rfl (fun c7 => ?_) (fun c7 => ?_)
        · rw [if_pos c7] at hf
          exact zX8_find_42 hJ ih _ _ _ _ _ hf
        · rw [if_neg c7] at hf
          refine Z.aload_n (n := 35) dX8_find_34 rfl rfl ?_
          refine Z.aload_n (n := 36) dX8_find_35 rfl rfl ?_
          obtain ⟨z9, ez9, hf⟩ := Option.bind_eq_some_iff.mp hf
          refine Z.callV (n := 39) vX8_51 (ctX8_steady ez9) hJ.rm (Nat.le_of_ble_eq_true rfl) rfl rfl (Nat.le_refl _) (Nat.le_refl _) rfl W88 rfl rfl (Nat.le_of_ble_eq_true rfl) rfl dX8_find_36 rfl (fun v w hw => ?_)
          obtain ⟨rfl, rfl⟩ := hw
          show Z _ _ _ _ _ _ _ [.int z9.1] _
          refine Z.if_eq (tgt := 53) (n := 42) dX8_find_39 rfl rfl (fun c10 => ?_) (fun c10 => ?_)
          · rw [if_pos c10] at hf
            exact zX8_find_53 hJ ih _ _ _ _ _ hf
          · rw [if_neg c10] at hf
            exact zX8_find_42 hJ ih _ _ _ _ _ hf
def fX8_find (l2 : Int32) (l3 : Int32) (h : HT) : Option (Int32 × HT) :=
  Option.bind (fX8_begin  h) fun z1 =>
  fX8_find_11 1000 l2 l3 0 0 z1.2
set_option maxHeartbeats 4000000 in
theorem ctX8_find {g : GP} {a : Nat → Nat} {P : PT} {h : HT} {z : Int32 × HT} {l2 : Int32} {l3 : Int32} (hf : fX8_find l2 l3 h = some z) : Ct g 7 0 0 mX8_find [.ref (a 88), .ref (a 1), .int l2, .int l3] (WD g a h P) (PoI g a P z) := by
  refine Ct.of (by decide +kernel) (Nat.le_of_ble_eq_true rfl) fun J hJ => ?_
  show Z g mX8_find J 0 0 0 [some (.ref (a 88)), some (.ref (a 1)), some (.int l2), some (.int l3), none, none] [] (WD g a h P)
  unfold fX8_find at hf
  refine Z.iconst (n := 1) (v := 0) dX8_find_0 rfl (by decide +kernel) ?_
  refine Z.istore (n := 3) dX8_find_1 rfl (by decide) rfl ?_
  refine Z.aload_n (n := 4) dX8_find_3 rfl rfl ?_
  refine Z.aload_n (n := 5) dX8_find_4 rfl rfl ?_
  obtain ⟨z1, ez1, hf⟩ := Option.bind_eq_some_iff.mp hf
  refine Z.callV (n := 8) vX8_43 (ctX8_begin ez1) hJ.rm (Nat.le_of_ble_eq_true rfl) rfl rfl (Nat.le_refl _) (Nat.le_refl _) rfl W88 rfl rfl (Nat.le_of_ble_eq_true rfl) rfl dX8_find_5 rfl (fun v w hw => ?_)
  obtain ⟨rfl, rfl⟩ := hw
  show Z _ _ _ _ _ _ _ [] _
  refine Z.iconst (n := 9) (v := 0) dX8_find_8 rfl (by decide +kernel) ?_
  refine Z.istore (n := 11) dX8_find_9 rfl (by decide) rfl ?_
  exact zX8_find_11 hJ _ _ _ _ _ _ hf
