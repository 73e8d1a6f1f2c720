/-! walks, by program: 11.realm.lean.txt -/
def fX11_outside_14 (s0 : Int32) (h : HT) : Option (Int32 × HT) :=
  Option.bind (cb s0) fun u2 =>
  some (s0, h)
set_option maxHeartbeats 4000000 in
theorem zX11_outside_14 {g : GP} {a : Nat → Nat} {P : PT} {J : JT} {z : Int32 × HT} (hJ : JX g 1 0 0 (PoI g a P z) J) (s0 : Int32) (h : HT) (hf : fX11_outside_14 s0 h = some z) : Z g mX11_outside J 0 0 14 [none, none] [.int s0] (WD g a h P) := by
  unfold fX11_outside_14 at hf
  obtain ⟨u2, eu2, hf⟩ := Option.bind_eq_some_iff.mp hf
  have hz := Option.some.inj hf
  subst hz
  exact Z.zret hJ dX11_outside_14 rfl (cb_nar eu2) (Nat.le_refl _) (Nat.le_refl _) ⟨rfl, rfl⟩
def fX11_outside_9 (h : HT) : Option (Int32 × HT) :=
  fX11_outside_14 1 h
set_option maxHeartbeats 4000000 in
theorem zX11_outside_9 {g : GP} {a : Nat → Nat} {P : PT} {J : JT} {z : Int32 × HT} (hJ : JX g 1 0 0 (PoI g a P z) J) (h : HT) (hf : fX11_outside_9 h = some z) : Z g mX11_outside J 0 0 9 [none, none] [] (WD g a h P) := by
  unfold fX11_outside_9 at hf
  refine Z.iconst (n := 10) (v := 1) dX11_outside_9 rfl (by decide +kernel) ?_
  refine Z.goto (tgt := 14) dX11_outside_10 rfl ?_
  exact zX11_outside_14 hJ _ _ hf
def fX11_outside (l0 : Int32) (l1 : Int32) (h : HT) : Option (Int32 × HT) :=
  if l0 < 0 then (fX11_outside_9 h)
  else (if l0 ≤ l1 then (fX11_outside_14 0 h)
  else (fX11_outside_9 h))
set_option maxHeartbeats 4000000 in
theorem ctX11_outside {g : GP} {a : Nat → Nat} {P : PT} {h : HT} {z : Int32 × HT} {l0 : Int32} {l1 : Int32} (hf : fX11_outside l0 l1 h = some z) : Ct g 1 0 0 mX11_outside [.int l0, .int l1] (WD g a h P) (PoI g a P z) := by
  refine Ct.of (by decide +kernel) (Nat.le_of_ble_eq_true rfl) fun J hJ => ?_
  show Z g mX11_outside J 0 0 0 [some (.int l0), some (.int l1)] [] (WD g a h P)
  unfold fX11_outside at hf
  refine Z.iload_n (n := 1) dX11_outside_0 rfl rfl ?_
  refine Z.if_lt (tgt := 9) (n := 4) dX11_outside_1 rfl rfl (fun c1 => ?_) (fun c1 => ?_)
  · rw [if_pos c1] at hf
    refine Z.fg [0, 1] ?_
    exact zX11_outside_9 hJ _ hf
  · rw [if_neg c1] at hf
    refine Z.iload_n (n := 5) dX11_outside_4 rfl rfl ?_
    refine Z.iload_n (n := 6) dX11_outside_5 rfl rfl ?_
    refine Z.icmp_le (tgt := 13) (n := 9) dX11_outside_6 rfl rfl (fun c3 => ?_) (fun c3 => ?_)
    · rw [if_pos c3] at hf
      refine Z.iconst (n := 14) (v := 0) dX11_outside_13 rfl (by decide +kernel) ?_
      refine Z.fg [0, 1] ?_
      exact zX11_outside_14 hJ _ _ hf
    · rw [if_neg c3] at hf
      refine Z.fg [0, 1] ?_
      exact zX11_outside_9 hJ _ hf
def fX3_has_17 (s0 : Int32) (h : HT) : Option (Int32 × HT) :=
  Option.bind (cb s0) fun u2 =>
  some (s0, h)
set_option maxHeartbeats 4000000 in
theorem zX3_has_17 {g : GP} {a : Nat → Nat} {P : PT} {J : JT} {z : Int32 × HT} (hJ : JX g 1 0 0 (PoI g a P z) J) (s0 : Int32) (h : HT) (hf : fX3_has_17 s0 h = some z) : Z g mX3_has J 0 0 17 [none, none] [.int s0] (WD g a h P) := by
  unfold fX3_has_17 at hf
  obtain ⟨u2, eu2, hf⟩ := Option.bind_eq_some_iff.mp hf
  have hz := Option.some.inj hf
  subst hz
  exact Z.zret hJ dX3_has_17 rfl (cb_nar eu2) (Nat.le_refl _) (Nat.le_refl _) ⟨rfl, rfl⟩
def fX3_has_16 (h : HT) : Option (Int32 × HT) :=
  fX3_has_17 0 h
set_option maxHeartbeats 4000000 in
theorem zX3_has_16 {g : GP} {a : Nat → Nat} {P : PT} {J : JT} {z : Int32 × HT} (hJ : JX g 1 0 0 (PoI g a P z) J) (h : HT) (hf : fX3_has_16 h = some z) : Z g mX3_has J 0 0 16 [none, none] [] (WD g a h P) := by
  unfold fX3_has_16 at hf
  refine Z.iconst (n := 17) (v := 0) dX3_has_16 rfl (by decide +kernel) ?_
  exact zX3_has_17 hJ _ _ hf
def fX3_has (l1 : Int32) (h : HT) : Option (Int32 × HT) :=
  if l1 < 0 then (fX3_has_16 h)
  else (if (h 1 0) ≤ l1 then (fX3_has_16 h)
  else (fX3_has_17 1 h))
set_option maxHeartbeats 4000000 in
theorem ctX3_has {g : GP} {a : Nat → Nat} {P : PT} {h : HT} {z : Int32 × HT} {l1 : Int32} (hf : fX3_has l1 h = some z) : Ct g 1 0 0 mX3_has [.ref (a 1), .int l1] (WD g a h P) (PoI g a P z) := by
  refine Ct.of (by decide +kernel) (Nat.le_of_ble_eq_true rfl) fun J hJ => ?_
  show Z g mX3_has J 0 0 0 [some (.ref (a 1)), some (.int l1)] [] (WD g a h P)
  unfold fX3_has at hf
  refine Z.iload_n (n := 1) dX3_has_0 rfl rfl ?_
  refine Z.if_lt (tgt := 16) (n := 4) dX3_has_1 rfl rfl (fun c1 => ?_) (fun c1 => ?_)
  · rw [if_pos c1] at hf
    refine Z.fg [0, 1] ?_
    exact zX3_has_16 hJ _ hf
  · rw [if_neg c1] at hf
    refine Z.iload_n (n := 5) dX3_has_4 rfl rfl ?_
    refine Z.aload_n (n := 6) dX3_has_5 rfl rfl ?_
    refine Z.getf (n := 9) fX3_9 dX3_has_6 rfl W1 rfl ?_
    refine Z.icmp_ge (tgt := 16) (n := 12) dX3_has_9 rfl rfl (fun c3 => ?_) (fun c3 => ?_)
    · rw [if_pos c3] at hf
      refine Z.fg [0, 1] ?_
      exact zX3_has_16 hJ _ hf
    · rw [if_neg c3] at hf
      refine Z.iconst (n := 13) (v := 1) dX3_has_12 rfl (by decide +kernel) ?_
      refine Z.goto (tgt := 17) dX3_has_13 rfl ?_
      refine Z.fg [0, 1] ?_
      exact zX3_has_17 hJ _ _ hf
def fX3_lives_16 (s0 : Int32) (h : HT) : Option (Int32 × HT) :=
  Option.bind (cb s0) fun u2 =>
  some (s0, h)
set_option maxHeartbeats 4000000 in
theorem zX3_lives_16 {g : GP} {a : Nat → Nat} {P : PT} {J : JT} {z : Int32 × HT} (hJ : JX g 1 0 0 (PoI g a P z) J) (s0 : Int32) (h : HT) (hf : fX3_lives_16 s0 h = some z) : Z g mX3_lives J 0 0 16 [none, none] [.int s0] (WD g a h P) := by
  unfold fX3_lives_16 at hf
  obtain ⟨u2, eu2, hf⟩ := Option.bind_eq_some_iff.mp hf
  have hz := Option.some.inj hf
  subst hz
  exact Z.zret hJ dX3_lives_16 rfl (cb_nar eu2) (Nat.le_refl _) (Nat.le_refl _) ⟨rfl, rfl⟩
def fX3_lives (l1 : Int32) (h : HT) : Option (Int32 × HT) :=
  if (((h 1 1) >>> (l1 &&& 31)) &&& (1 : Int32)) = 0 then (fX3_lives_16 0 h)
  else (fX3_lives_16 1 h)
set_option maxHeartbeats 4000000 in
theorem ctX3_lives {g : GP} {a : Nat → Nat} {P : PT} {h : HT} {z : Int32 × HT} {l1 : Int32} (hf : fX3_lives l1 h = some z) : Ct g 1 0 0 mX3_lives [.ref (a 1), .int l1] (WD g a h P) (PoI g a P z) := by
  refine Ct.of (by decide +kernel) (Nat.le_of_ble_eq_true rfl) fun J hJ => ?_
  show Z g mX3_lives J 0 0 0 [some (.ref (a 1)), some (.int l1)] [] (WD g a h P)
  unfold fX3_lives at hf
  refine Z.aload_n (n := 1) dX3_lives_0 rfl rfl ?_
  refine Z.getf (n := 4) fX3_15 dX3_lives_1 rfl W1 rfl ?_
  refine Z.iload_n (n := 5) dX3_lives_4 rfl rfl ?_
  refine Z.ishr (n := 6) dX3_lives_5 rfl ?_
  refine Z.iconst (n := 7) (v := 1) dX3_lives_6 rfl (by decide +kernel) ?_
  refine Z.iand (n := 8) dX3_lives_7 rfl ?_
  refine Z.if_eq (tgt := 15) (n := 11) dX3_lives_8 rfl rfl (fun c1 => ?_) (fun c1 => ?_)
  · rw [if_pos c1] at hf
    refine Z.iconst (n := 16) (v := 0) dX3_lives_15 rfl (by decide +kernel) ?_
    refine Z.fg [0, 1] ?_
    exact zX3_lives_16 hJ _ _ hf
  · rw [if_neg c1] at hf
    refine Z.iconst (n := 12) (v := 1) dX3_lives_11 rfl (by decide +kernel) ?_
    refine Z.goto (tgt := 16) dX3_lives_12 rfl ?_
    refine Z.fg [0, 1] ?_
    exact zX3_lives_16 hJ _ _ hf
def fX3_standingAt_22 (s0 : Int32) (h : HT) : Option (Int32 × HT) :=
  some (s0, h)
set_option maxHeartbeats 4000000 in
theorem zX3_standingAt_22 {g : GP} {a : Nat → Nat} {P : PT} {J : JT} {z : Int32 × HT} (hJ : JX g 1 0 0 (PoR g a P z) J) (s0 : Int32) (h : HT) (hf : fX3_standingAt_22 s0 h = some z) : Z g mX3_standingAt J 0 0 22 [none, none] [va_rf ((dq s0).map (fun t => a (102 + t)))] (WD g a h P) := by
  unfold fX3_standingAt_22 at hf
  have hz := Option.some.inj hf
  subst hz
  exact Z.aret hJ dX3_standingAt_22 rfl (Or.inl ⟨_, rfl⟩) (by cases dq s0 <;> first | exact Or.inl rfl | exact Or.inr ⟨_, rfl⟩) (Nat.le_refl _) (Nat.le_refl _) ⟨rfl, rfl⟩
def fX3_standingAt_21 (h : HT) : Option (Int32 × HT) :=
  fX3_standingAt_22 0 h
set_option maxHeartbeats 4000000 in
theorem zX3_standingAt_21 {g : GP} {a : Nat → Nat} {P : PT} {J : JT} {z : Int32 × HT} (hJ : JX g 1 0 0 (PoR g a P z) J) (h : HT) (hf : fX3_standingAt_21 h = some z) : Z g mX3_standingAt J 0 0 21 [none, none] [] (WD g a h P) := by
  unfold fX3_standingAt_21 at hf
  refine Z.aconst_null (n := 22) dX3_standingAt_21 rfl ?_
  exact zX3_standingAt_22 hJ _ _ hf
def fX3_standingAt (l1 : Int32) (h : HT) : Option (Int32 × HT) :=
  if l1 < 0 then (fX3_standingAt_21 h)
  else (if (h 1 3) ≤ l1 then (fX3_standingAt_21 h)
  else (Option.bind (ck 8 l1) fun j3 =>
  fX3_standingAt_22 (h 30 j3) h))
set_option maxHeartbeats 4000000 in
theorem ctX3_standingAt {g : GP} {a : Nat → Nat} {P : PT} {h : HT} {z : Int32 × HT} {l1 : Int32} (hf : fX3_standingAt l1 h = some z) : Ct g 1 0 0 mX3_standingAt [.ref (a 1), .int l1] (WD g a h P) (PoR g a P z) := by
  refine Ct.of (by decide +kernel) (Nat.le_of_ble_eq_true rfl) fun J hJ => ?_
  show Z g mX3_standingAt J 0 0 0 [some (.ref (a 1)), some (.int l1)] [] (WD g a h P)
  unfold fX3_standingAt at hf
  refine Z.iload_n (n := 1) dX3_standingAt_0 rfl rfl ?_
  refine Z.if_lt (tgt := 21) (n := 4) dX3_standingAt_1 rfl rfl (fun c1 => ?_) (fun c1 => ?_)
  · rw [if_pos c1] at hf
    refine Z.fg [0, 1] ?_
    exact zX3_standingAt_21 hJ _ hf
  · rw [if_neg c1] at hf
    refine Z.iload_n (n := 5) dX3_standingAt_4 rfl rfl ?_
    refine Z.aload_n (n := 6) dX3_standingAt_5 rfl rfl ?_
    refine Z.getf (n := 9) fX3_21 dX3_standingAt_6 rfl W1 rfl ?_
    refine Z.icmp_ge (tgt := 21) (n := 12) dX3_standingAt_9 rfl rfl (fun c2 => ?_) (fun c2 => ?_)
    · rw [if_pos c2] at hf
      refine Z.fg [0, 1] ?_
      exact zX3_standingAt_21 hJ _ hf
    · rw [if_neg c2] at hf
      refine Z.aload_n (n := 13) dX3_standingAt_12 rfl rfl ?_
      refine Z.getf (n := 16) fX3_61 dX3_standingAt_13 rfl W1 rfl ?_
      refine Z.iload_n (n := 17) dX3_standingAt_16 rfl rfl ?_
      obtain ⟨j3, ej3, hf⟩ := Option.bind_eq_some_iff.mp hf
      obtain ⟨hij3, hlj3⟩ := ck_spec ej3
      refine Z.aald (j := j3) (ty := 2) (n := 18) dX3_standingAt_17 rfl W30 rfl rfl hij3 hlj3 (by decide) ?_
      refine Z.goto (tgt := 22) dX3_standingAt_18 rfl ?_
      refine Z.fg [0, 1] ?_
      exact zX3_standingAt_22 hJ _ _ hf
def fX3_forceAt (l1 : Int32) (l2 : Int32) (h : HT) : Option (Int32 × HT) :=
  Option.bind (ck 7 l1) fun j1 =>
  Option.bind (ck 7 l1) fun j2 =>
  some (if (0 : Int32) < (((h 2 j1) * (1000 : Int32)) - ((h 23 1) * (if 0 ≤ ((h 3 j2) - l2) then ((h 3 j2) - l2) else 0 - ((h 3 j2) - l2)))) then (((h 2 j1) * (1000 : Int32)) - ((h 23 1) * (if 0 ≤ ((h 3 j2) - l2) then ((h 3 j2) - l2) else 0 - ((h 3 j2) - l2)))) else (0 : Int32), h)
set_option maxHeartbeats 4000000 in
theorem ctX3_forceAt {g : GP} {a : Nat → Nat} {P : PT} {h : HT} {z : Int32 × HT} {l1 : Int32} {l2 : Int32} (hf : fX3_forceAt l1 l2 h = some z) : Ct g 1 0 0 mX3_forceAt [.ref (a 1), .int l1, .int l2] (WD g a h P) (PoI g a P z) := by
  refine Ct.of (by decide +kernel) (Nat.le_of_ble_eq_true rfl) fun J hJ => ?_
  show Z g mX3_forceAt J 0 0 0 [some (.ref (a 1)), some (.int l1), some (.int l2)] [] (WD g a h P)
  unfold fX3_forceAt at hf
  refine Z.iconst (n := 1) (v := 0) dX3_forceAt_0 rfl (by decide +kernel) ?_
  refine Z.aload_n (n := 2) dX3_forceAt_1 rfl rfl ?_
  refine Z.getf (n := 5) fX3_27 dX3_forceAt_2 rfl W1 rfl ?_
  refine Z.iload_n (n := 6) dX3_forceAt_5 rfl rfl ?_
  obtain ⟨j1, ej1, hf⟩ := Option.bind_eq_some_iff.mp hf
  obtain ⟨hij1, hlj1⟩ := ck_spec ej1
  refine Z.iald (j := j1) (n := 7) dX3_forceAt_6 rfl W2 hij1 hlj1 (by decide) ?_
  refine Z.sipush (n := 10) (v := 1000) dX3_forceAt_7 rfl (by decide +kernel) ?_
  refine Z.imul (n := 11) dX3_forceAt_10 rfl ?_
  refine Z.aload_n (n := 12) dX3_forceAt_11 rfl rfl ?_
  refine Z.getf (n := 15) fX3_55 dX3_forceAt_12 rfl W1 rfl ?_
  refine Z.getf (n := 18) fX3_81 dX3_forceAt_15 rfl W23 rfl ?_
  refine Z.aload_n (n := 19) dX3_forceAt_18 rfl rfl ?_
  refine Z.getf (n := 22) fX3_31 dX3_forceAt_19 rfl W1 rfl ?_
  refine Z.iload_n (n := 23) dX3_forceAt_22 rfl rfl ?_
  obtain ⟨j2, ej2, hf⟩ := Option.bind_eq_some_iff.mp hf
  obtain ⟨hij2, hlj2⟩ := ck_spec ej2
  refine Z.iald (j := j2) (n := 24) dX3_forceAt_23 rfl W3 hij2 hlj2 (by decide) ?_
  refine Z.iload_n (n := 25) dX3_forceAt_24 rfl rfl ?_
  refine Z.isub (n := 26) dX3_forceAt_25 rfl ?_
  refine Z.mabs (n := 29) wX3_84 w_abs2 w_math3 w_abs4 hJ.rm (Nat.le_of_ble_eq_true rfl) (Nat.le_refl _) (Nat.le_refl _) (Nat.le_of_ble_eq_true rfl) dX3_forceAt_26 rfl rfl ?_
  refine Z.imul (n := 30) dX3_forceAt_29 rfl ?_
  refine Z.isub (n := 31) dX3_forceAt_30 rfl ?_
  refine Z.mmax (n := 34) wX3_90 w_max2 w_math3 w_max4 hJ.rm (Nat.le_of_ble_eq_true rfl) (Nat.le_refl _) (Nat.le_refl _) (Nat.le_of_ble_eq_true rfl) dX3_forceAt_31 rfl rfl ?_
  have hz := Option.some.inj hf
  subst hz
  exact Z.iret hJ dX3_forceAt_34 rfl (Nat.le_refl _) (Nat.le_refl _) ⟨rfl, rfl⟩
def fX3_forcesAt_33 (k5_ : Int32 → Int32 → Int32 → Int32 → HT → Option (Int32 × HT)) (l1 : Int32) (l2 : Int32) (l3 : Int32) (l4 : Int32) (h : HT) : Option (Int32 × HT) :=
  k5_ l1 l2 l3 (l4 + 1) h
set_option maxHeartbeats 4000000 in
theorem zX3_forcesAt_33 {g : GP} {a : Nat → Nat} {P : PT} {J : JT} {z : Int32 × HT} {k5_ : Int32 → Int32 → Int32 → Int32 → HT → Option (Int32 × HT)} (hJ : JX g 2 0 0 (PoI g a P z) J) (hk5 : ∀ (l1 : Int32) (l2 : Int32) (l3 : Int32) (l4 : Int32) (h : HT), k5_ l1 l2 l3 l4 h = some z → Z g mX3_forcesAt J 0 0 5 [some (.ref (a 1)), some (.int l1), some (.int l2), some (.int l3), some (.int l4)] [] (WD g a h P)) (l1 : Int32) (l2 : Int32) (l3 : Int32) (l4 : Int32) (h : HT) (hf : fX3_forcesAt_33 k5_ l1 l2 l3 l4 h = some z) : Z g mX3_forcesAt J 0 0 33 [some (.ref (a 1)), some (.int l1), some (.int l2), some (.int l3), some (.int l4)] [] (WD g a h P) := by
  unfold fX3_forcesAt_33 at hf
  refine Z.iinc (n := 36) (v := l4 + 1) dX3_forcesAt_33 rfl rfl rfl (by decide) rfl ?_
  refine Z.goto (tgt := 5) dX3_forcesAt_36 rfl ?_
  exact hk5 _ _ _ _ _ hf
def fX3_forcesAt_5 : Nat → Int32 → Int32 → Int32 → Int32 → HT → Option (Int32 × HT)
  | 0, _, _, _, _, _ => none
  | n + 1, l1, l2, l3, l4, h =>
  if (h 1 0) ≤ l4 then (some (l3, h))
  else (if ((l1 >>> (l4 &&& 31)) &&& (1 : Int32)) = 0 then (fX3_forcesAt_33 (fX3_forcesAt_5  n) l1 l2 l3 l4 h)
  else (Option.bind (fX3_forceAt l4 l2 h) fun z3 =>
  fX3_forcesAt_33 (fX3_forcesAt_5  n) l1 l2 (l3 + z3.1) l4 z3.2))
set_option maxHeartbeats 4000000 in
theorem zX3_forcesAt_5 {g : GP} {a : Nat → Nat} {P : PT} {J : JT} {z : Int32 × HT} (hJ : JX g 2 0 0 (PoI g a P z) J) : ∀ (n : Nat) (l1 : Int32) (l2 : Int32) (l3 : Int32) (l4 : Int32) (h : HT), fX3_forcesAt_5 n l1 l2 l3 l4 h = some z → Z g mX3_forcesAt J 0 0 5 [some (.ref (a 1)), some (.int l1), some (.int l2), some (.int l3), some (.int l4)] [] (WD g a h P) := by
  intro n
  induction n with
  | zero =>
    intro _ _ _ _ _ hf
    cases hf
  | succ n ih =>
    intro l1 l2 l3 l4 h hf
    unfold fX3_forcesAt_5 at hf
    refine Z.iload (n := 7) dX3_forcesAt_5 rfl rfl ?_
    refine Z.aload_n (n := 8) dX3_forcesAt_7 rfl rfl ?_
    refine Z.getf (n := 11) fX3_9 dX3_forcesAt_8 rfl W1 rfl ?_
    refine Z.icmp_ge (tgt := 39) (n := 14) dX3_forcesAt_11 rfl rfl (fun c1 => ?_) (fun c1 => ?_)
    · rw [if_pos c1] at hf
      refine Z.iload_n (n := 40) dX3_forcesAt_39 rfl rfl ?_
      have hz := Option.some.inj hf
      subst hz
      exact Z.iret hJ dX3_forcesAt_40 rfl (Nat.le_refl _) (Nat.le_refl _) ⟨rfl, rfl⟩
    · rw [if_neg c1] at hf
      refine Z.iload_n (n := 15) dX3_forcesAt_14 rfl rfl ?_
      refine Z.iload (n := 17) dX3_forcesAt_15 rfl rfl ?_
      refine Z.ishr (n := 18) dX3_forcesAt_17 rfl ?_
      refine Z.iconst (n := 19) (v := 1) dX3_forcesAt_18 rfl (by decide +kernel) ?_
      refine Z.iand (n := 20) dX3_forcesAt_19 rfl ?_
      refine Z.if_eq (tgt := 33) (n := 23) dX3_forcesAt_20 rfl rfl (fun c2 => ?_) (fun c2 => ?_)
      · rw [if_pos c2] at hf
        exact zX3_forcesAt_33 hJ ih _ _ _ _ _ hf
      · rw [if_neg c2] at hf
        refine Z.iload_n (n := 24) dX3_forcesAt_23 rfl rfl ?_
        refine Z.aload_n (n := 25) dX3_forcesAt_24 rfl rfl ?_
        refine Z.iload (n := 27) dX3_forcesAt_25 rfl rfl ?_
        refine Z.iload_n (n := 28) dX3_forcesAt_27 rfl rfl ?_
        obtain ⟨z3, ez3, hf⟩ := Option.bind_eq_some_iff.mp hf
        refine Z.callV (n := 31) vX3_94 (ctX3_forceAt ez3) hJ.rm (Nat.le_of_ble_eq_true rfl) rfl rfl (Nat.le_refl _) (Nat.le_refl _) rfl W1 rfl rfl (Nat.le_of_ble_eq_true rfl) rfl dX3_forcesAt_28 rfl (fun v w hw => ?_)
        obtain ⟨rfl, rfl⟩ := hw
        show Z _ _ _ _ _ _ _ [.int z3.1, .int l3] _
        refine Z.iadd (n := 32) dX3_forcesAt_31 rfl ?_
        refine Z.istore_n (n := 33) dX3_forcesAt_32 rfl (by decide) rfl ?_
        exact zX3_forcesAt_33 hJ ih _ _ _ _ _ hf
def fX3_forcesAt (l1 : Int32) (l2 : Int32) (h : HT) : Option (Int32 × HT) :=
  fX3_forcesAt_5 1000 l1 l2 0 0 h
set_option maxHeartbeats 4000000 in
theorem ctX3_forcesAt {g : GP} {a : Nat → Nat} {P : PT} {h : HT} {z : Int32 × HT} {l1 : Int32} {l2 : Int32} (hf : fX3_forcesAt l1 l2 h = some z) : Ct g 2 0 0 mX3_forcesAt [.ref (a 1), .int l1, .int l2] (WD g a h P) (PoI g a P z) := by
  refine Ct.of (by decide +kernel) (Nat.le_of_ble_eq_true rfl) fun J hJ => ?_
  show Z g mX3_forcesAt J 0 0 0 [some (.ref (a 1)), some (.int l1), some (.int l2), none, none] [] (WD g a h P)
  unfold fX3_forcesAt at hf
  refine Z.iconst (n := 1) (v := 0) dX3_forcesAt_0 rfl (by decide +kernel) ?_
  refine Z.istore_n (n := 2) dX3_forcesAt_1 rfl (by decide) rfl ?_
  refine Z.iconst (n := 3) (v := 0) dX3_forcesAt_2 rfl (by decide +kernel) ?_
  refine Z.istore (n := 5) dX3_forcesAt_3 rfl (by decide) rfl ?_
  exact zX3_forcesAt_5 hJ _ _ _ _ _ _ hf
def fX3_strengthOf_29 (k4_ : Int32 → Int32 → Int32 → HT → Option (Int32 × HT)) (l1 : Int32) (l2 : Int32) (l3 : Int32) (h : HT) : Option (Int32 × HT) :=
  k4_ l1 l2 (l3 + 1) h
set_option maxHeartbeats 4000000 in
theorem zX3_strengthOf_29 {g : GP} {a : Nat → Nat} {P : PT} {J : JT} {z : Int32 × HT} {k4_ : Int32 → Int32 → Int32 → HT → Option (Int32 × HT)} (hJ : JX g 1 0 0 (PoI g a P z) J) (hk4 : ∀ (l1 : Int32) (l2 : Int32) (l3 : Int32) (h : HT), k4_ l1 l2 l3 h = some z → Z g mX3_strengthOf J 0 0 4 [some (.ref (a 1)), some (.int l1), some (.int l2), some (.int l3)] [] (WD g a h P)) (l1 : Int32) (l2 : Int32) (l3 : Int32) (h : HT) (hf : fX3_strengthOf_29 k4_ l1 l2 l3 h = some z) : Z g mX3_strengthOf J 0 0 29 [some (.ref (a 1)), some (.int l1), some (.int l2), some (.int l3)] [] (WD g a h P) := by
  unfold fX3_strengthOf_29 at hf
  refine Z.iinc (n := 32) (v := l3 + 1) dX3_strengthOf_29 rfl rfl rfl (by decide) rfl ?_
  refine Z.goto (tgt := 4) dX3_strengthOf_32 rfl ?_
  exact hk4 _ _ _ _ hf
def fX3_strengthOf_4 : Nat → Int32 → Int32 → Int32 → HT → Option (Int32 × HT)
  | 0, _, _, _, _ => none
  | n + 1, l1, l2, l3, h =>
  if (h 1 0) ≤ l3 then (some (l2, h))
  else (if ((l1 >>> (l3 &&& 31)) &&& (1 : Int32)) = 0 then (fX3_strengthOf_29 (fX3_strengthOf_4  n) l1 l2 l3 h)
  else (Option.bind (ck 7 l3) fun j3 =>
  fX3_strengthOf_29 (fX3_strengthOf_4  n) l1 (l2 + (h 2 j3)) l3 h))
set_option maxHeartbeats 4000000 in
theorem zX3_strengthOf_4 {g : GP} {a : Nat → Nat} {P : PT} {J : JT} {z : Int32 × HT} (hJ : JX g 1 0 0 (PoI g a P z) J) : ∀ (n : Nat) (l1 : Int32) (l2 : Int32) (l3 : Int32) (h : HT), fX3_strengthOf_4 n l1 l2 l3 h = some z → Z g mX3_strengthOf J 0 0 4 [some (.ref (a 1)), some (.int l1), some (.int l2), some (.int l3)] [] (WD g a h P) := by
  intro n
  induction n with
  | zero =>
    intro _ _ _ _ hf
    cases hf
  | succ n ih =>
    intro l1 l2 l3 h hf
    unfold fX3_strengthOf_4 at hf
    refine Z.iload_n (n := 5) dX3_strengthOf_4 rfl rfl ?_
    refine Z.aload_n (n := 6) dX3_strengthOf_5 rfl rfl ?_
    refine Z.getf (n := 9) fX3_9 dX3_strengthOf_6 rfl W1 rfl ?_
    refine Z.icmp_ge (tgt := 35) (n := 12) dX3_strengthOf_9 rfl rfl (fun c1 => ?_) (fun c1 => ?_)
    · rw [if_pos c1] at hf
      refine Z.iload_n (n := 36) dX3_strengthOf_35 rfl rfl ?_
      have hz := Option.some.inj hf
      subst hz
      exact Z.iret hJ dX3_strengthOf_36 rfl (Nat.le_refl _) (Nat.le_refl _) ⟨rfl, rfl⟩
    · rw [if_neg c1] at hf
      refine Z.iload_n (n := 13) dX3_strengthOf_12 rfl rfl ?_
      refine Z.iload_n (n := 14) dX3_strengthOf_13 rfl rfl ?_
      refine Z.ishr (n := 15) dX3_strengthOf_14 rfl ?_
      refine Z.iconst (n := 16) (v := 1) dX3_strengthOf_15 rfl (by decide +kernel) ?_
      refine Z.iand (n := 17) dX3_strengthOf_16 rfl ?_
      refine Z.if_eq (tgt := 29) (n := 20) dX3_strengthOf_17 rfl rfl (fun c2 => ?_) (fun c2 => ?_)
      · rw [if_pos c2] at hf
        exact zX3_strengthOf_29 hJ ih _ _ _ _ hf
      · rw [if_neg c2] at hf
        refine Z.iload_n (n := 21) dX3_strengthOf_20 rfl rfl ?_
        refine Z.aload_n (n := 22) dX3_strengthOf_21 rfl rfl ?_
        refine Z.getf (n := 25) fX3_27 dX3_strengthOf_22 rfl W1 rfl ?_
        refine Z.iload_n (n := 26) dX3_strengthOf_25 rfl rfl ?_
        obtain ⟨j3, ej3, hf⟩ := Option.bind_eq_some_iff.mp hf
        obtain ⟨hij3, hlj3⟩ := ck_spec ej3
        refine Z.iald (j := j3) (n := 27) dX3_strengthOf_26 rfl W2 hij3 hlj3 (by decide) ?_
        refine Z.iadd (n := 28) dX3_strengthOf_27 rfl ?_
        refine Z.istore_n (n := 29) dX3_strengthOf_28 rfl (by decide) rfl ?_
        exact zX3_strengthOf_29 hJ ih _ _ _ _ hf
def fX3_strengthOf (l1 : Int32) (h : HT) : Option (Int32 × HT) :=
  fX3_strengthOf_4 1000 l1 0 0 h
set_option maxHeartbeats 4000000 in
theorem ctX3_strengthOf {g : GP} {a : Nat → Nat} {P : PT} {h : HT} {z : Int32 × HT} {l1 : Int32} (hf : fX3_strengthOf l1 h = some z) : Ct g 1 0 0 mX3_strengthOf [.ref (a 1), .int l1] (WD g a h P) (PoI g a P z) := by
  refine Ct.of (by decide +kernel) (Nat.le_of_ble_eq_true rfl) fun J hJ => ?_
  show Z g mX3_strengthOf J 0 0 0 [some (.ref (a 1)), some (.int l1), none, none] [] (WD g a h P)
  unfold fX3_strengthOf at hf
  refine Z.iconst (n := 1) (v := 0) dX3_strengthOf_0 rfl (by decide +kernel) ?_
  refine Z.istore_n (n := 2) dX3_strengthOf_1 rfl (by decide) rfl ?_
  refine Z.iconst (n := 3) (v := 0) dX3_strengthOf_2 rfl (by decide +kernel) ?_
  refine Z.istore_n (n := 4) dX3_strengthOf_3 rfl (by decide) rfl ?_
  exact zX3_strengthOf_4 hJ _ _ _ _ _ hf
def fX3_standsWith_29 (s0 : Int32) (h : HT) : Option (Int32 × HT) :=
  Option.bind (cb s0) fun u4 =>
  some (s0, h)
set_option maxHeartbeats 4000000 in
theorem zX3_standsWith_29 {g : GP} {a : Nat → Nat} {P : PT} {J : JT} {z : Int32 × HT} (hJ : JX g 1 0 0 (PoI g a P z) J) (s0 : Int32) (h : HT) (hf : fX3_standsWith_29 s0 h = some z) : Z g mX3_standsWith J 0 0 29 [none, none, none] [.int s0] (WD g a h P) := by
  unfold fX3_standsWith_29 at hf
  obtain ⟨u4, eu4, hf⟩ := Option.bind_eq_some_iff.mp hf
  have hz := Option.some.inj hf
  subst hz
  exact Z.zret hJ dX3_standsWith_29 rfl (cb_nar eu4) (Nat.le_refl _) (Nat.le_refl _) ⟨rfl, rfl⟩
def fX3_standsWith_24 (h : HT) : Option (Int32 × HT) :=
  fX3_standsWith_29 1 h
set_option maxHeartbeats 4000000 in
theorem zX3_standsWith_24 {g : GP} {a : Nat → Nat} {P : PT} {J : JT} {z : Int32 × HT} (hJ : JX g 1 0 0 (PoI g a P z) J) (h : HT) (hf : fX3_standsWith_24 h = some z) : Z g mX3_standsWith J 0 0 24 [none, none, none] [] (WD g a h P) := by
  unfold fX3_standsWith_24 at hf
  refine Z.iconst (n := 25) (v := 1) dX3_standsWith_24 rfl (by decide +kernel) ?_
  refine Z.goto (tgt := 29) dX3_standsWith_25 rfl ?_
  exact zX3_standsWith_29 hJ _ _ hf
def fX3_standsWith (l1 : Int32) (l2 : Int32) (h : HT) : Option (Int32 × HT) :=
  Option.bind (ck 7 l1) fun j1 =>
  Option.bind (ck 7 l2) fun j2 =>
  if (h (14 + j1) j2) = 1 then (fX3_standsWith_24 h)
  else (Option.bind (ck 7 l1) fun j5 =>
  Option.bind (ck 7 l2) fun j6 =>
  if (h (14 + j5) j6) = 2 then (fX3_standsWith_24 h)
  else (fX3_standsWith_29 0 h))
set_option maxHeartbeats 4000000 in
theorem ctX3_standsWith {g : GP} {a : Nat → Nat} {P : PT} {h : HT} {z : Int32 × HT} {l1 : Int32} {l2 : Int32} (hf : fX3_standsWith l1 l2 h = some z) : Ct g 1 0 0 mX3_standsWith [.ref (a 1), .int l1, .int l2] (WD g a h P) (PoI g a P z) := by
  refine Ct.of (by decide +kernel) (Nat.le_of_ble_eq_true rfl) fun J hJ => ?_
  show Z g mX3_standsWith J 0 0 0 [some (.ref (a 1)), some (.int l1), some (.int l2)] [] (WD g a h P)
  unfold fX3_standsWith at hf
  refine Z.aload_n (n := 1) dX3_standsWith_0 rfl rfl ?_
  refine Z.getf (n := 4) fX3_42 dX3_standsWith_1 rfl W1 rfl ?_
  refine Z.iload_n (n := 5) dX3_standsWith_4 rfl rfl ?_
  obtain ⟨j1, ej1, hf⟩ := Option.bind_eq_some_iff.mp hf
  obtain ⟨hij1, hlj1⟩ := ck_spec ej1
  refine Z.aald (j := j1) (ty := 3) (n := 6) dX3_standsWith_5 rfl W13 rfl rfl hij1 hlj1 (by decide) ?_
  rw [if_pos hlj1]
  show Z _ _ _ _ _ _ _ (.ref (a (14 + j1)) :: _) _
  refine Z.iload_n (n := 7) dX3_standsWith_6 rfl rfl ?_
  obtain ⟨j2, ej2, hf⟩ := Option.bind_eq_some_iff.mp hf
  obtain ⟨hij2, hlj2⟩ := ck_spec ej2
  refine Z.iald (j := j2) (n := 8) dX3_standsWith_7 rfl (Wpa (r := j1) hlj1) hij2 hlj2 (by decide) ?_
  refine Z.iconst (n := 9) (v := 1) dX3_standsWith_8 rfl (by decide +kernel) ?_
  refine Z.icmp_eq (tgt := 24) (n := 12) dX3_standsWith_9 rfl rfl (fun c3 => ?_) (fun c3 => ?_)
  · rw [if_pos c3] at hf
    refine Z.fg [0, 1, 2] ?_
    exact zX3_standsWith_24 hJ _ hf
  · rw [if_neg c3] at hf
    refine Z.aload_n (n := 13) dX3_standsWith_12 rfl rfl ?_
    refine Z.getf (n := 16) fX3_42 dX3_standsWith_13 rfl W1 rfl ?_
    refine Z.iload_n (n := 17) dX3_standsWith_16 rfl rfl ?_
    obtain ⟨j5, ej5, hf⟩ := Option.bind_eq_some_iff.mp hf
    obtain ⟨hij5, hlj5⟩ := ck_spec ej5
    refine Z.aald (j := j5) (ty := 3) (n := 18) dX3_standsWith_17 rfl W13 rfl rfl hij5 hlj5 (by decide) ?_
    rw [if_pos hlj5]
    show Z _ _ _ _ _ _ _ (.ref (a (14 + j5)) :: _) _
    refine Z.iload_n (n := 19) dX3_standsWith_18 rfl rfl ?_
    obtain ⟨j6, ej6, hf⟩ := Option.bind_eq_some_iff.mp hf
    obtain ⟨hij6, hlj6⟩ := ck_spec ej6
    refine Z.iald (j := j6) (n := 20) dX3_standsWith_19 rfl (Wpa (r := j5) hlj5) hij6 hlj6 (by decide) ?_
    refine Z.iconst (n := 21) (v := 2) dX3_standsWith_20 rfl (by decide +kernel) ?_
    refine Z.icmp_ne (tgt := 28) (n := 24) dX3_standsWith_21 rfl rfl (fun c7 => ?_) (fun c7 => ?_)
    · rw [if_neg c7] at hf
      refine Z.iconst (n := 29) (v := 0) dX3_standsWith_28 rfl (by decide +kernel) ?_
      refine Z.fg [0, 1, 2] ?_
      exact zX3_standsWith_29 hJ _ _ hf
    · rw [if_pos c7] at hf
      refine Z.fg [0, 1, 2] ?_
      exact zX3_standsWith_24 hJ _ hf
def fX10_costOf_278 (l4 : Int32) (h : HT) : Option (Int32 × HT) :=
  some (l4, h)
set_option maxHeartbeats 4000000 in
theorem zX10_costOf_278 {g : GP} {a : Nat → Nat} {P : PT} {J : JT} {z : Int32 × HT} (hJ : JX g 1 0 0 (PoI g a P z) J) (l4 : Int32) (h : HT) (hf : fX10_costOf_278 l4 h = some z) : Z g mX10_costOf J 0 0 278 [none, none, none, none, some (.int l4), none, none, none, none, none] [] (WD g a h P) := by
  unfold fX10_costOf_278 at hf
  refine Z.iload (n := 280) dX10_costOf_278 rfl rfl ?_
  have hz := Option.some.inj hf
  subst hz
  exact Z.iret hJ dX10_costOf_280 rfl (Nat.le_refl _) (Nat.le_refl _) ⟨rfl, rfl⟩
def fX10_costOf_272 (k62_ : Int32 → Int32 → Int32 → HT → Option (Int32 × HT)) (l4 : Int32) (l5 : Int32) (l6 : Int32) (h : HT) : Option (Int32 × HT) :=
  k62_ l4 l5 (l6 + 1) h
set_option maxHeartbeats 4000000 in
theorem zX10_costOf_272 {g : GP} {a : Nat → Nat} {P : PT} {J : JT} {z : Int32 × HT} {k62_ : Int32 → Int32 → Int32 → HT → Option (Int32 × HT)} (hJ : JX g 1 0 0 (PoI g a P z) J) (hk62 : ∀ (l4 : Int32) (l5 : Int32) (l6 : Int32) (h : HT), k62_ l4 l5 l6 h = some z → Z g mX10_costOf J 0 0 62 [some (.ref (a 23)), none, none, none, some (.int l4), some (.int l5), some (.int l6), none, none, none] [] (WD g a h P)) (l4 : Int32) (l5 : Int32) (l6 : Int32) (h : HT) (hf : fX10_costOf_272 k62_ l4 l5 l6 h = some z) : Z g mX10_costOf J 0 0 272 [some (.ref (a 23)), none, none, none, some (.int l4), some (.int l5), some (.int l6), none, none, none] [] (WD g a h P) := by
  unfold fX10_costOf_272 at hf
  refine Z.iinc (n := 275) (v := l6 + 1) dX10_costOf_272 rfl rfl rfl (by decide) rfl ?_
  refine Z.goto (tgt := 62) dX10_costOf_275 rfl ?_
  exact hk62 _ _ _ _ hf
def fX10_costOf_253 (k62_ : Int32 → Int32 → Int32 → HT → Option (Int32 × HT)) (l4 : Int32) (l5 : Int32) (l6 : Int32) (l7 : Int32) (h : HT) : Option (Int32 × HT) :=
  if (l7 &&& (1 : Int32)) = 0 then (fX10_costOf_272 k62_ l4 l5 l6 h)
  else (Option.bind (ck 10 l6) fun j10 =>
  fX10_costOf_272 k62_ (l4 + (h 24 j10)) l5 l6 h)
set_option maxHeartbeats 4000000 in
theorem zX10_costOf_253 {g : GP} {a : Nat → Nat} {P : PT} {J : JT} {z : Int32 × HT} {k62_ : Int32 → Int32 → Int32 → HT → Option (Int32 × HT)} (hJ : JX g 1 0 0 (PoI g a P z) J) (hk62 : ∀ (l4 : Int32) (l5 : Int32) (l6 : Int32) (h : HT), k62_ l4 l5 l6 h = some z → Z g mX10_costOf J 0 0 62 [some (.ref (a 23)), none, none, none, some (.int l4), some (.int l5), some (.int l6), none, none, none] [] (WD g a h P)) (l4 : Int32) (l5 : Int32) (l6 : Int32) (l7 : Int32) (h : HT) (hf : fX10_costOf_253 k62_ l4 l5 l6 l7 h = some z) : Z g mX10_costOf J 0 0 253 [some (.ref (a 23)), none, none, none, some (.int l4), some (.int l5), some (.int l6), some (.int l7), none, none] [] (WD g a h P) := by
  unfold fX10_costOf_253 at hf
  refine Z.iload (n := 255) dX10_costOf_253 rfl rfl ?_
  refine Z.iconst (n := 256) (v := 1) dX10_costOf_255 rfl (by decide +kernel) ?_
  refine Z.iand (n := 257) dX10_costOf_256 rfl ?_
  refine Z.if_eq (tgt := 272) (n := 260) dX10_costOf_257 rfl rfl (fun c9 => ?_) (fun c9 => ?_)
  · rw [if_pos c9] at hf
    refine Z.fg [7] ?_
    exact zX10_costOf_272 hJ hk62 _ _ _ _ hf
  · rw [if_neg c9] at hf
    refine Z.iload (n := 262) dX10_costOf_260 rfl rfl ?_
    refine Z.aload_n (n := 263) dX10_costOf_262 rfl rfl ?_
    refine Z.getf (n := 266) fX10_27 dX10_costOf_263 rfl W23 rfl ?_
    refine Z.iload (n := 268) dX10_costOf_266 rfl rfl ?_
    obtain ⟨j10, ej10, hf⟩ := Option.bind_eq_some_iff.mp hf
    obtain ⟨hij10, hlj10⟩ := ck_spec ej10
    refine Z.iald (j := j10) (n := 269) dX10_costOf_268 rfl W24 hij10 hlj10 (by decide) ?_
    refine Z.iadd (n := 270) dX10_costOf_269 rfl ?_
    refine Z.istore (n := 272) dX10_costOf_270 rfl (by decide) rfl ?_
    refine Z.fg [7] ?_
    exact zX10_costOf_272 hJ hk62 _ _ _ _ hf
def fX10_costOf_247 (k62_ : Int32 → Int32 → Int32 → HT → Option (Int32 × HT)) (k81_ : Int32 → Int32 → Int32 → Int32 → HT → Option (Int32 × HT)) (l4 : Int32) (l5 : Int32) (l6 : Int32) (l7 : Int32) (h : HT) : Option (Int32 × HT) :=
  k81_ l4 (l5 + 1) l6 l7 h
set_option maxHeartbeats 4000000 in
theorem zX10_costOf_247 {g : GP} {a : Nat → Nat} {P : PT} {J : JT} {z : Int32 × HT} {k62_ : Int32 → Int32 → Int32 → HT → Option (Int32 × HT)} {k81_ : Int32 → Int32 → Int32 → Int32 → HT → Option (Int32 × HT)} (hJ : JX g 1 0 0 (PoI g a P z) J) (hk62 : ∀ (l4 : Int32) (l5 : Int32) (l6 : Int32) (h : HT), k62_ l4 l5 l6 h = some z → Z g mX10_costOf J 0 0 62 [some (.ref (a 23)), none, none, none, some (.int l4), some (.int l5), some (.int l6), none, none, none] [] (WD g a h P)) (hk81 : ∀ (l4 : Int32) (l5 : Int32) (l6 : Int32) (l7 : Int32) (h : HT), k81_ l4 l5 l6 l7 h = some z → Z g mX10_costOf J 0 0 81 [some (.ref (a 23)), none, none, none, some (.int l4), some (.int l5), some (.int l6), some (.int l7), none, none] [] (WD g a h P)) (l4 : Int32) (l5 : Int32) (l6 : Int32) (l7 : Int32) (h : HT) (hf : fX10_costOf_247 k62_ k81_ l4 l5 l6 l7 h = some z) : Z g mX10_costOf J 0 0 247 [some (.ref (a 23)), none, none, none, some (.int l4), some (.int l5), some (.int l6), some (.int l7), none, none] [] (WD g a h P) := by
  unfold fX10_costOf_247 at hf
  refine Z.iinc (n := 250) (v := l5 + 1) dX10_costOf_247 rfl rfl rfl (by decide) rfl ?_
  refine Z.goto (tgt := 81) dX10_costOf_250 rfl ?_
  exact hk81 _ _ _ _ _ hf
def fX10_costOf_244 (k62_ : Int32 → Int32 → Int32 → HT → Option (Int32 × HT)) (k81_ : Int32 → Int32 → Int32 → Int32 → HT → Option (Int32 × HT)) (l4 : Int32) (l5 : Int32) (l6 : Int32) (s0 : Int32) (s1 : Int32) (h : HT) : Option (Int32 × HT) :=
  fX10_costOf_247 k62_ k81_ l4 l5 l6 (s1 ||| s0) h
set_option maxHeartbeats 4000000 in
theorem zX10_costOf_244 {g : GP} {a : Nat → Nat} {P : PT} {J : JT} {z : Int32 × HT} {k62_ : Int32 → Int32 → Int32 → HT → Option (Int32 × HT)} {k81_ : Int32 → Int32 → Int32 → Int32 → HT → Option (Int32 × HT)} (hJ : JX g 1 0 0 (PoI g a P z) J) (hk62 : ∀ (l4 : Int32) (l5 : Int32) (l6 : Int32) (h : HT), k62_ l4 l5 l6 h = some z → Z g mX10_costOf J 0 0 62 [some (.ref (a 23)), none, none, none, some (.int l4), some (.int l5), some (.int l6), none, none, none] [] (WD g a h P)) (hk81 : ∀ (l4 : Int32) (l5 : Int32) (l6 : Int32) (l7 : Int32) (h : HT), k81_ l4 l5 l6 l7 h = some z → Z g mX10_costOf J 0 0 81 [some (.ref (a 23)), none, none, none, some (.int l4), some (.int l5), some (.int l6), some (.int l7), none, none] [] (WD g a h P)) (l4 : Int32) (l5 : Int32) (l6 : Int32) (s0 : Int32) (s1 : Int32) (h : HT) (hf : fX10_costOf_244 k62_ k81_ l4 l5 l6 s0 s1 h = some z) : Z g mX10_costOf J 0 0 244 [some (.ref (a 23)), none, none, none, some (.int l4), some (.int l5), some (.int l6), none, none, none] [.int s0, .int s1] (WD g a h P) := by
  unfold fX10_costOf_244 at hf
  refine Z.ior (n := 245) dX10_costOf_244 rfl ?_
  refine Z.istore (n := 247) dX10_costOf_245 rfl (by decide) rfl ?_
  exact zX10_costOf_247 hJ hk62 hk81 _ _ _ _ _ hf
def fX10_costOf_221 (k62_ : Int32 → Int32 → Int32 → HT → Option (Int32 × HT)) (k81_ : Int32 → Int32 → Int32 → Int32 → HT → Option (Int32 × HT)) (l4 : Int32) (l5 : Int32) (l6 : Int32) (l7 : Int32) (s0 : Int32) (h : HT) : Option (Int32 × HT) :=
  Option.bind (ck 120 l5) fun j22 =>
  if s0 = (h 27 j22) then (fX10_costOf_244 k62_ k81_ l4 l5 l6 1 (l7 <<< ((1 : Int32) &&& 31)) h)
  else (fX10_costOf_244 k62_ k81_ l4 l5 l6 0 (l7 <<< ((1 : Int32) &&& 31)) h)
set_option maxHeartbeats 4000000 in
theorem zX10_costOf_221 {g : GP} {a : Nat → Nat} {P : PT} {J : JT} {z : Int32 × HT} {k62_ : Int32 → Int32 → Int32 → HT → Option (Int32 × HT)} {k81_ : Int32 → Int32 → Int32 → Int32 → HT → Option (Int32 × HT)} (hJ : JX g 1 0 0 (PoI g a P z) J) (hk62 : ∀ (l4 : Int32) (l5 : Int32) (l6 : Int32) (h : HT), k62_ l4 l5 l6 h = some z → Z g mX10_costOf J 0 0 62 [some (.ref (a 23)), none, none, none, some (.int l4), some (.int l5), some (.int l6), none, none, none] [] (WD g a h P)) (hk81 : ∀ (l4 : Int32) (l5 : Int32) (l6 : Int32) (l7 : Int32) (h : HT), k81_ l4 l5 l6 l7 h = some z → Z g mX10_costOf J 0 0 81 [some (.ref (a 23)), none, none, none, some (.int l4), some (.int l5), some (.int l6), some (.int l7), none, none] [] (WD g a h P)) (l4 : Int32) (l5 : Int32) (l6 : Int32) (l7 : Int32) (s0 : Int32) (h : HT) (hf : fX10_costOf_221 k62_ k81_ l4 l5 l6 l7 s0 h = some z) : Z g mX10_costOf J 0 0 221 [some (.ref (a 23)), none, none, none, some (.int l4), some (.int l5), some (.int l6), some (.int l7), none, none] [.int s0] (WD g a h P) := by
  unfold fX10_costOf_221 at hf
  refine Z.istore (n := 223) dX10_costOf_221 rfl (by decide) rfl ?_
  refine Z.iload (n := 225) dX10_costOf_223 rfl rfl ?_
  refine Z.iconst (n := 226) (v := 1) dX10_costOf_225 rfl (by decide +kernel) ?_
  refine Z.ishl (n := 227) dX10_costOf_226 rfl ?_
  refine Z.iload (n := 229) dX10_costOf_227 rfl rfl ?_
  refine Z.aload_n (n := 230) dX10_costOf_229 rfl rfl ?_
  refine Z.getf (n := 233) fX10_37 dX10_costOf_230 rfl W23 rfl ?_
  refine Z.iload (n := 235) dX10_costOf_233 rfl rfl ?_
  obtain ⟨j22, ej22, hf⟩ := Option.bind_eq_some_iff.mp hf
  obtain ⟨hij22, hlj22⟩ := ck_spec ej22
  refine Z.iald (j := j22) (n := 236) dX10_costOf_235 rfl W27 hij22 hlj22 (by decide) ?_
  refine Z.icmp_ne (tgt := 243) (n := 239) dX10_costOf_236 rfl rfl (fun c23 => ?_) (fun c23 => ?_)
  · rw [if_neg c23] at hf
    refine Z.iconst (n := 244) (v := 0) dX10_costOf_243 rfl (by decide +kernel) ?_
    refine Z.fg [7, 9] ?_
    exact zX10_costOf_244 hJ hk62 hk81 _ _ _ _ _ _ hf
  · rw [if_pos c23] at hf
    refine Z.iconst (n := 240) (v := 1) dX10_costOf_239 rfl (by decide +kernel) ?_
    refine Z.goto (tgt := 244) dX10_costOf_240 rfl ?_
    refine Z.fg [7, 9] ?_
    exact zX10_costOf_244 hJ hk62 hk81 _ _ _ _ _ _ hf
def fX10_costOf_81 (k62_ : Int32 → Int32 → Int32 → HT → Option (Int32 × HT)) : Nat → Int32 → Int32 → Int32 → Int32 → HT → Option (Int32 × HT)
  | 0, _, _, _, _, _ => none
  | n + 1, l4, l5, l6, l7, h =>
  Option.bind (ck 10 l6) fun j7 =>
  if (h 25 j7) ≤ l5 then (fX10_costOf_253 k62_ l4 l5 l6 l7 h)
  else (if 120 ≤ l5 then (fX10_costOf_253 k62_ l4 l5 l6 l7 h)
  else (Option.bind (ck 120 l5) fun j12 =>
  if (h 26 j12) = 4 then (fX10_costOf_247 k62_ (fX10_costOf_81 k62_ n) l4 l5 l6 (l7 ^^^ (1 : Int32)) h)
  else if (h 26 j12) = 5 then (fX10_costOf_247 k62_ (fX10_costOf_81 k62_ n) l4 l5 l6 ((l7 >>> ((1 : Int32) &&& 31)) &&& ((l7 &&& (1 : Int32)) ||| (-2 : Int32))) h)
  else if (h 26 j12) = 6 then (fX10_costOf_247 k62_ (fX10_costOf_81 k62_ n) l4 l5 l6 ((l7 >>> ((1 : Int32) &&& 31)) ||| (l7 &&& (1 : Int32))) h)
  else (Option.bind (ck 120 l5) fun j16 =>
  Option.bind (ck 4 ((h 26 j16) &&& (3 : Int32))) fun j17 =>
  Option.bind (ck 120 l5) fun j18 =>
  if (h 28 j18) ≤ (h 29 j17) then (Option.bind (ck 120 l5) fun j20 =>
  if (h 29 j17) ≤ (h 28 j20) then (fX10_costOf_221 k62_ (fX10_costOf_81 k62_ n) l4 l5 l6 l7 1 h)
  else (fX10_costOf_221 k62_ (fX10_costOf_81 k62_ n) l4 l5 l6 l7 2 h))
  else (fX10_costOf_221 k62_ (fX10_costOf_81 k62_ n) l4 l5 l6 l7 0 h))))
set_option maxHeartbeats 4000000 in
theorem zX10_costOf_81 {g : GP} {a : Nat → Nat} {P : PT} {J : JT} {z : Int32 × HT} {k62_ : Int32 → Int32 → Int32 → HT → Option (Int32 × HT)} (hJ : JX g 1 0 0 (PoI g a P z) J) (hk62 : ∀ (l4 : Int32) (l5 : Int32) (l6 : Int32) (h : HT), k62_ l4 l5 l6 h = some z → Z g mX10_costOf J 0 0 62 [some (.ref (a 23)), none, none, none, some (.int l4), some (.int l5), some (.int l6), none, none, none] [] (WD g a h P)) : ∀ (n : Nat) (l4 : Int32) (l5 : Int32) (l6 : Int32) (l7 : Int32) (h : HT), fX10_costOf_81 k62_ n l4 l5 l6 l7 h = some z → Z g mX10_costOf J 0 0 81 [some (.ref (a 23)), none, none, none, some (.int l4), some (.int l5), some (.int l6), some (.int l7), none, none] [] (WD g a h P) := by
  intro n
  induction n with
  | zero =>
    intro _ _ _ _ _ hf
    cases hf
  | succ n ih =>
    intro l4 l5 l6 l7 h hf
    unfold fX10_costOf_81 at hf
    refine Z.iload (n := 83) dX10_costOf_81 rfl rfl ?_
    refine Z.aload_n (n := 84) dX10_costOf_83 rfl rfl ?_
    refine Z.getf (n := 87) fX10_31 dX10_costOf_84 rfl W23 rfl ?_
    refine Z.iload (n := 89) dX10_costOf_87 rfl rfl ?_
    obtain ⟨j7, ej7, hf⟩ := Option.bind_eq_some_iff.mp hf
    obtain ⟨hij7, hlj7⟩ := ck_spec ej7
    refine Z.iald (j := j7) (n := 90) dX10_costOf_89 rfl W25 hij7 hlj7 (by decide) ?_
    refine Z.icmp_ge (tgt := 253) (n := 93) dX10_costOf_90 rfl rfl (fun c8 => ?_) (fun c8 => ?_)
    · rw [if_pos c8] at hf
      exact zX10_costOf_253 hJ hk62 _ _ _ _ _ hf
    · rw [if_neg c8] at hf
      refine Z.iload (n := 95) dX10_costOf_93 rfl rfl ?_
      refine Z.bipush (n := 97) (v := 120) dX10_costOf_95 rfl (by decide +kernel) ?_
      refine Z.icmp_ge (tgt := 253) (n := 100) dX10_costOf_97 rfl rfl (fun c11 => ?_) (fun c11 => ?_)
      · rw [if_pos c11] at hf
        exact zX10_costOf_253 hJ hk62 _ _ _ _ _ hf
      · rw [if_neg c11] at hf
        refine Z.aload_n (n := 101) dX10_costOf_100 rfl rfl ?_
        refine Z.getf (n := 104) fX10_34 dX10_costOf_101 rfl W23 rfl ?_
        refine Z.iload (n := 106) dX10_costOf_104 rfl rfl ?_
        obtain ⟨j12, ej12, hf⟩ := Option.bind_eq_some_iff.mp hf
        obtain ⟨hij12, hlj12⟩ := ck_spec ej12
        refine Z.iald (j := j12) (n := 107) dX10_costOf_106 rfl W26 hij12 hlj12 (by decide) ?_
        by_cases c13 : (h 26 j12) = 4
        · rw [if_pos c13] at hf
          refine Z.tswI (off := 25) (tgt := 132) dX10_costOf_107 c13 (by decide +kernel) (by decide +kernel) (by decide +kernel) rfl ?_
          refine Z.iload (n := 134) dX10_costOf_132 rfl rfl ?_
          refine Z.iconst (n := 135) (v := 1) dX10_costOf_134 rfl (by decide +kernel) ?_
          refine Z.ixor (n := 136) dX10_costOf_135 rfl ?_
          refine Z.istore (n := 138) dX10_costOf_136 rfl (by decide) rfl ?_
          refine Z.goto (tgt := 247) dX10_costOf_138 rfl ?_
          exact zX10_costOf_247 hJ hk62 ih _ _ _ _ _ hf
        rw [if_neg c13] at hf
        by_cases c14 : (h 26 j12) = 5
        · rw [if_pos c14] at hf
          refine Z.tswI (off := 34) (tgt := 141) dX10_costOf_107 c14 (by decide +kernel) (by decide +kernel) (by decide +kernel) rfl ?_
          refine Z.iload (n := 143) dX10_costOf_141 rfl rfl ?_
          refine Z.iconst (n := 144) (v := 1) dX10_costOf_143 rfl (by decide +kernel) ?_
          refine Z.ishr (n := 145) dX10_costOf_144 rfl ?_
          refine Z.iload (n := 147) dX10_costOf_145 rfl rfl ?_
          refine Z.iconst (n := 148) (v := 1) dX10_costOf_147 rfl (by decide +kernel) ?_
          refine Z.iand (n := 149) dX10_costOf_148 rfl ?_
          refine Z.bipush (n := 151) (v := -2) dX10_costOf_149 rfl (by decide +kernel) ?_
          refine Z.ior (n := 152) dX10_costOf_151 rfl ?_
          refine Z.iand (n := 153) dX10_costOf_152 rfl ?_
          refine Z.istore (n := 155) dX10_costOf_153 rfl (by decide) rfl ?_
          refine Z.goto (tgt := 247) dX10_costOf_155 rfl ?_
          exact zX10_costOf_247 hJ hk62 ih _ _ _ _ _ hf
        rw [if_neg c14] at hf
        by_cases c15 : (h 26 j12) = 6
        · rw [if_pos c15] at hf
          refine Z.tswI (off := 51) (tgt := 158) dX10_costOf_107 c15 (by decide +kernel) (by decide +kernel) (by decide +kernel) rfl ?_
          refine Z.iload (n := 160) dX10_costOf_158 rfl rfl ?_
          refine Z.iconst (n := 161) (v := 1) dX10_costOf_160 rfl (by decide +kernel) ?_
          refine Z.ishr (n := 162) dX10_costOf_161 rfl ?_
          refine Z.iload (n := 164) dX10_costOf_162 rfl rfl ?_
          refine Z.iconst (n := 165) (v := 1) dX10_costOf_164 rfl (by decide +kernel) ?_
          refine Z.iand (n := 166) dX10_costOf_165 rfl ?_
          refine Z.ior (n := 167) dX10_costOf_166 rfl ?_
          refine Z.istore (n := 169) dX10_costOf_167 rfl (by decide) rfl ?_
          refine Z.goto (tgt := 247) dX10_costOf_169 rfl ?_
          exact zX10_costOf_247 hJ hk62 ih _ _ _ _ _ hf
        rw [if_neg c15] at hf
        have tc13 := lv_neT (k := 4) c13 (a := 4) (by decide +kernel)
        have tc14 := lv_neT (k := 5) c14 (a := 5) (by decide +kernel)
        have tc15 := lv_neT (k := 6) c15 (a := 6) (by decide +kernel)
        refine Z.tswO (tgt := 172) dX10_costOf_107 (by omega) rfl ?_
        refine Z.aload_n (n := 173) dX10_costOf_172 rfl rfl ?_
        refine Z.getf (n := 176) fX10_43 dX10_costOf_173 rfl W23 rfl ?_
        refine Z.aload_n (n := 177) dX10_costOf_176 rfl rfl ?_
        refine Z.getf (n := 180) fX10_34 dX10_costOf_177 rfl W23 rfl ?_
        refine Z.iload (n := 182) dX10_costOf_180 rfl rfl ?_
        obtain ⟨j16, ej16, hf⟩ := Option.bind_eq_some_iff.mp hf
        obtain ⟨hij16, hlj16⟩ := ck_spec ej16
        refine Z.iald (j := j16) (n := 183) dX10_costOf_182 rfl W26 hij16 hlj16 (by decide) ?_
        refine Z.iconst (n := 184) (v := 3) dX10_costOf_183 rfl (by decide +kernel) ?_
        refine Z.iand (n := 185) dX10_costOf_184 rfl ?_
        obtain ⟨j17, ej17, hf⟩ := Option.bind_eq_some_iff.mp hf
        obtain ⟨hij17, hlj17⟩ := ck_spec ej17
        refine Z.iald (j := j17) (n := 186) dX10_costOf_185 rfl W29 hij17 hlj17 (by decide) ?_
        refine Z.istore (n := 188) dX10_costOf_186 rfl (by decide) rfl ?_
        refine Z.iload (n := 190) dX10_costOf_188 rfl rfl ?_
        refine Z.aload_n (n := 191) dX10_costOf_190 rfl rfl ?_
        refine Z.getf (n := 194) fX10_40 dX10_costOf_191 rfl W23 rfl ?_
        refine Z.iload (n := 196) dX10_costOf_194 rfl rfl ?_
        obtain ⟨j18, ej18, hf⟩ := Option.bind_eq_some_iff.mp hf
        obtain ⟨hij18, hlj18⟩ := ck_spec ej18
        refine Z.iald (j := j18) (n := 197) dX10_costOf_196 rfl W28 hij18 hlj18 (by decide) ?_
        refine Z.icmp_ge (tgt := 204) (n := 200) dX10_costOf_197 rfl rfl (fun c19 => ?_) (fun c19 => ?_)
        · rw [if_pos c19] at hf
          refine Z.iload (n := 206) dX10_costOf_204 rfl rfl ?_
          refine Z.aload_n (n := 207) dX10_costOf_206 rfl rfl ?_
          refine Z.getf (n := 210) fX10_40 dX10_costOf_207 rfl W23 rfl ?_
          refine Z.iload (n := 212) dX10_costOf_210 rfl rfl ?_
          obtain ⟨j20, ej20, hf⟩ := Option.bind_eq_some_iff.mp hf
          obtain ⟨hij20, hlj20⟩ := ck_spec ej20
          refine Z.iald (j := j20) (n := 213) dX10_costOf_212 rfl W28 hij20 hlj20 (by decide) ?_
          refine Z.icmp_le (tgt := 220) (n := 216) dX10_costOf_213 rfl rfl (fun c21 => ?_) (fun c21 => ?_)
          · rw [if_pos c21] at hf
            refine Z.iconst (n := 221) (v := 1) dX10_costOf_220 rfl (by decide +kernel) ?_
            refine Z.fg [8] ?_
            exact zX10_costOf_221 hJ hk62 ih _ _ _ _ _ _ hf
          · rw [if_neg c21] at hf
            refine Z.iconst (n := 217) (v := 2) dX10_costOf_216 rfl (by decide +kernel) ?_
            refine Z.goto (tgt := 221) dX10_costOf_217 rfl ?_
            refine Z.fg [8] ?_
            exact zX10_costOf_221 hJ hk62 ih _ _ _ _ _ _ hf
        · rw [if_neg c19] at hf
          refine Z.iconst (n := 201) (v := 0) dX10_costOf_200 rfl (by decide +kernel) ?_
          refine Z.goto (tgt := 221) dX10_costOf_201 rfl ?_
          refine Z.fg [8] ?_
          exact zX10_costOf_221 hJ hk62 ih _ _ _ _ _ _ hf
def fX10_costOf_62 : Nat → Int32 → Int32 → Int32 → HT → Option (Int32 × HT)
  | 0, _, _, _, _ => none
  | n + 1, l4, l5, l6, h =>
  if (h 23 3) ≤ l6 then (fX10_costOf_278 l4 h)
  else (if 10 ≤ l6 then (fX10_costOf_278 l4 h)
  else (fX10_costOf_81 (fX10_costOf_62  n) 1000 l4 l5 l6 0 h))
set_option maxHeartbeats 4000000 in
theorem zX10_costOf_62 {g : GP} {a : Nat → Nat} {P : PT} {J : JT} {z : Int32 × HT} (hJ : JX g 1 0 0 (PoI g a P z) J) : ∀ (n : Nat) (l4 : Int32) (l5 : Int32) (l6 : Int32) (h : HT), fX10_costOf_62 n l4 l5 l6 h = some z → Z g mX10_costOf J 0 0 62 [some (.ref (a 23)), none, none, none, some (.int l4), some (.int l5), some (.int l6), none, none, none] [] (WD g a h P) := by
  intro n
  induction n with
  | zero =>
    intro _ _ _ _ hf
    cases hf
  | succ n ih =>
    intro l4 l5 l6 h hf
    unfold fX10_costOf_62 at hf
    refine Z.iload (n := 64) dX10_costOf_62 rfl rfl ?_
    refine Z.aload_n (n := 65) dX10_costOf_64 rfl rfl ?_
    refine Z.getf (n := 68) fX10_21 dX10_costOf_65 rfl W23 rfl ?_
    refine Z.icmp_ge (tgt := 278) (n := 71) dX10_costOf_68 rfl rfl (fun c5 => ?_) (fun c5 => ?_)
    · rw [if_pos c5] at hf
      refine Z.fg [0, 5, 6] ?_
      exact zX10_costOf_278 hJ _ _ hf
    · rw [if_neg c5] at hf
      refine Z.iload (n := 73) dX10_costOf_71 rfl rfl ?_
      refine Z.bipush (n := 75) (v := 10) dX10_costOf_73 rfl (by decide +kernel) ?_
      refine Z.icmp_ge (tgt := 278) (n := 78) dX10_costOf_75 rfl rfl (fun c6 => ?_) (fun c6 => ?_)
      · rw [if_pos c6] at hf
        refine Z.fg [0, 5, 6] ?_
        exact zX10_costOf_278 hJ _ _ hf
      · rw [if_neg c6] at hf
        refine Z.iconst (n := 79) (v := 0) dX10_costOf_78 rfl (by decide +kernel) ?_
        refine Z.istore (n := 81) dX10_costOf_79 rfl (by decide) rfl ?_
        exact zX10_costOf_81 hJ ih _ _ _ _ _ _ hf
def fX10_costOf (l2 : Int32) (l3 : Int32) (h : HT) : Option (Int32 × HT) :=
  Option.bind (ck 7 l2) fun j1 =>
  Option.bind (ck 7 l3) fun j2 =>
  Option.bind (ck 7 l2) fun j3 =>
  Option.bind (ck 7 l3) fun j4 =>
  fX10_costOf_62 1000 0 0 0 (hu (hu (hu (hu h 29 0 (if 0 ≤ ((h 3 j1) - (h 3 j2)) then ((h 3 j1) - (h 3 j2)) else 0 - ((h 3 j1) - (h 3 j2)))) 29 1 ((hu h 29 0 (if 0 ≤ ((h 3 j1) - (h 3 j2)) then ((h 3 j1) - (h 3 j2)) else 0 - ((h 3 j1) - (h 3 j2)))) 2 j3)) 29 2 ((hu (hu h 29 0 (if 0 ≤ ((h 3 j1) - (h 3 j2)) then ((h 3 j1) - (h 3 j2)) else 0 - ((h 3 j1) - (h 3 j2)))) 29 1 ((hu h 29 0 (if 0 ≤ ((h 3 j1) - (h 3 j2)) then ((h 3 j1) - (h 3 j2)) else 0 - ((h 3 j1) - (h 3 j2)))) 2 j3)) 2 j4)) 29 3 l2)
set_option maxHeartbeats 4000000 in
theorem ctX10_costOf {g : GP} {a : Nat → Nat} {P : PT} {h : HT} {z : Int32 × HT} {l2 : Int32} {l3 : Int32} (hf : fX10_costOf l2 l3 h = some z) : Ct g 1 0 0 mX10_costOf [.ref (a 23), .ref (a 1), .int l2, .int l3] (WD g a h P) (PoI g a P z) := by
  refine Ct.of (by decide +kernel) (Nat.le_of_ble_eq_true rfl) fun J hJ => ?_
  show Z g mX10_costOf J 0 0 0 [some (.ref (a 23)), some (.ref (a 1)), some (.int l2), some (.int l3), none, none, none, none, none, none] [] (WD g a h P)
  unfold fX10_costOf at hf
  refine Z.aload_n (n := 1) dX10_costOf_0 rfl rfl ?_
  refine Z.getf (n := 4) fX10_43 dX10_costOf_1 rfl W23 rfl ?_
  refine Z.iconst (n := 5) (v := 0) dX10_costOf_4 rfl (by decide +kernel) ?_
  refine Z.aload_n (n := 6) dX10_costOf_5 rfl rfl ?_
  refine Z.getf (n := 9) fX10_52 dX10_costOf_6 rfl W1 rfl ?_
  refine Z.iload_n (n := 10) dX10_costOf_9 rfl rfl ?_
  obtain ⟨j1, ej1, hf⟩ := Option.bind_eq_some_iff.mp hf
  obtain ⟨hij1, hlj1⟩ := ck_spec ej1
  refine Z.iald (j := j1) (n := 11) dX10_costOf_10 rfl W3 hij1 hlj1 (by decide) ?_
  refine Z.aload_n (n := 12) dX10_costOf_11 rfl rfl ?_
  refine Z.getf (n := 15) fX10_52 dX10_costOf_12 rfl W1 rfl ?_
  refine Z.iload_n (n := 16) dX10_costOf_15 rfl rfl ?_
  obtain ⟨j2, ej2, hf⟩ := Option.bind_eq_some_iff.mp hf
  obtain ⟨hij2, hlj2⟩ := ck_spec ej2
  refine Z.iald (j := j2) (n := 17) dX10_costOf_16 rfl W3 hij2 hlj2 (by decide) ?_
  refine Z.isub (n := 18) dX10_costOf_17 rfl ?_
  refine Z.mabs (n := 21) wX10_57 w_abs2 w_math3 w_abs4 hJ.rm (Nat.le_of_ble_eq_true rfl) (Nat.le_refl _) (Nat.le_refl _) (Nat.le_of_ble_eq_true rfl) dX10_costOf_18 rfl rfl ?_
  refine Z.iast (j := 0) (n := 22) dX10_costOf_21 rfl W29 (by decide +kernel) (by decide) (by decide) W29s ?_
  refine Z.aload_n (n := 23) dX10_costOf_22 rfl rfl ?_
  refine Z.getf (n := 26) fX10_43 dX10_costOf_23 rfl W23 rfl ?_
  refine Z.iconst (n := 27) (v := 1) dX10_costOf_26 rfl (by decide +kernel) ?_
  refine Z.aload_n (n := 28) dX10_costOf_27 rfl rfl ?_
  refine Z.getf (n := 31) fX10_63 dX10_costOf_28 rfl W1 rfl ?_
  refine Z.iload_n (n := 32) dX10_costOf_31 rfl rfl ?_
  obtain ⟨j3, ej3, hf⟩ := Option.bind_eq_some_iff.mp hf
  obtain ⟨hij3, hlj3⟩ := ck_spec ej3
  refine Z.iald (j := j3) (n := 33) dX10_costOf_32 rfl W2 hij3 hlj3 (by decide) ?_
  refine Z.iast (j := 1) (n := 34) dX10_costOf_33 rfl W29 (by decide +kernel) (by decide) (by decide) W29s ?_
  refine Z.aload_n (n := 35) dX10_costOf_34 rfl rfl ?_
  refine Z.getf (n := 38) fX10_43 dX10_costOf_35 rfl W23 rfl ?_
  refine Z.iconst (n := 39) (v := 2) dX10_costOf_38 rfl (by decide +kernel) ?_
  refine Z.aload_n (n := 40) dX10_costOf_39 rfl rfl ?_
  refine Z.getf (n := 43) fX10_63 dX10_costOf_40 rfl W1 rfl ?_
  refine Z.iload_n (n := 44) dX10_costOf_43 rfl rfl ?_
  obtain ⟨j4, ej4, hf⟩ := Option.bind_eq_some_iff.mp hf
  obtain ⟨hij4, hlj4⟩ := ck_spec ej4
  refine Z.iald (j := j4) (n := 45) dX10_costOf_44 rfl W2 hij4 hlj4 (by decide) ?_
  refine Z.iast (j := 2) (n := 46) dX10_costOf_45 rfl W29 (by decide +kernel) (by decide) (by decide) W29s ?_
  refine Z.aload_n (n := 47) dX10_costOf_46 rfl rfl ?_
  refine Z.getf (n := 50) fX10_43 dX10_costOf_47 rfl W23 rfl ?_
  refine Z.iconst (n := 51) (v := 3) dX10_costOf_50 rfl (by decide +kernel) ?_
  refine Z.iload_n (n := 52) dX10_costOf_51 rfl rfl ?_
  refine Z.iast (j := 3) (n := 53) dX10_costOf_52 rfl W29 (by decide +kernel) (by decide) (by decide) W29s ?_
  refine Z.iconst (n := 54) (v := 0) dX10_costOf_53 rfl (by decide +kernel) ?_
  refine Z.istore (n := 56) dX10_costOf_54 rfl (by decide) rfl ?_
  refine Z.iconst (n := 57) (v := 0) dX10_costOf_56 rfl (by decide +kernel) ?_
  refine Z.istore (n := 59) dX10_costOf_57 rfl (by decide) rfl ?_
  refine Z.iconst (n := 60) (v := 0) dX10_costOf_59 rfl (by decide +kernel) ?_
  refine Z.istore (n := 62) dX10_costOf_60 rfl (by decide) rfl ?_
  refine Z.fg [1, 2, 3] ?_
  exact zX10_costOf_62 hJ _ _ _ _ _ hf
def fX3_bears_25 (s0 : Int32) (h : HT) : Option (Int32 × HT) :=
  Option.bind (cb s0) fun u3 =>
  some (s0, h)
set_option maxHeartbeats 4000000 in
theorem zX3_bears_25 {g : GP} {a : Nat → Nat} {P : PT} {J : JT} {z : Int32 × HT} (hJ : JX g 2 0 0 (PoI g a P z) J) (s0 : Int32) (h : HT) (hf : fX3_bears_25 s0 h = some z) : Z g mX3_bears J 0 0 25 [none, none, none] [.int s0] (WD g a h P) := by
  unfold fX3_bears_25 at hf
  obtain ⟨u3, eu3, hf⟩ := Option.bind_eq_some_iff.mp hf
  have hz := Option.some.inj hf
  subst hz
  exact Z.zret hJ dX3_bears_25 rfl (cb_nar eu3) (Nat.le_refl _) (Nat.le_refl _) ⟨rfl, rfl⟩
def fX3_bears (l1 : Int32) (l2 : Int32) (h : HT) : Option (Int32 × HT) :=
  Option.bind (fX10_costOf l1 l2 h) fun z1 =>
  if (z1.2 23 0) < z1.1 then (fX3_bears_25 0 z1.2)
  else (fX3_bears_25 1 z1.2)
set_option maxHeartbeats 4000000 in
theorem ctX3_bears {g : GP} {a : Nat → Nat} {P : PT} {h : HT} {z : Int32 × HT} {l1 : Int32} {l2 : Int32} (hf : fX3_bears l1 l2 h = some z) : Ct g 2 0 0 mX3_bears [.ref (a 1), .int l1, .int l2] (WD g a h P) (PoI g a P z) := by
  refine Ct.of (by decide +kernel) (Nat.le_of_ble_eq_true rfl) fun J hJ => ?_
  show Z g mX3_bears J 0 0 0 [some (.ref (a 1)), some (.int l1), some (.int l2)] [] (WD g a h P)
  unfold fX3_bears at hf
  refine Z.aload_n (n := 1) dX3_bears_0 rfl rfl ?_
  refine Z.getf (n := 4) fX3_55 dX3_bears_1 rfl W1 rfl ?_
  refine Z.aload_n (n := 5) dX3_bears_4 rfl rfl ?_
  refine Z.iload_n (n := 6) dX3_bears_5 rfl rfl ?_
  refine Z.iload_n (n := 7) dX3_bears_6 rfl rfl ?_
  obtain ⟨z1, ez1, hf⟩ := Option.bind_eq_some_iff.mp hf
  refine Z.callV (n := 10) vX3_97 (ctX10_costOf ez1) hJ.rm (Nat.le_of_ble_eq_true rfl) rfl rfl (Nat.le_refl _) (Nat.le_refl _) rfl W23 rfl rfl (Nat.le_of_ble_eq_true rfl) rfl dX3_bears_7 rfl (fun v w hw => ?_)
  obtain ⟨rfl, rfl⟩ := hw
  show Z _ _ _ _ _ _ _ [.int z1.1] _
  refine Z.aload_n (n := 11) dX3_bears_10 rfl rfl ?_
  refine Z.getf (n := 14) fX3_55 dX3_bears_11 rfl W1 rfl ?_
  refine Z.getf (n := 17) fX3_101 dX3_bears_14 rfl W23 rfl ?_
  refine Z.icmp_gt (tgt := 24) (n := 20) dX3_bears_17 rfl rfl (fun c2 => ?_) (fun c2 => ?_)
  · rw [if_pos c2] at hf
    refine Z.iconst (n := 25) (v := 0) dX3_bears_24 rfl (by decide +kernel) ?_
    refine Z.fg [0, 1, 2] ?_
    exact zX3_bears_25 hJ _ _ hf
  · rw [if_neg c2] at hf
    refine Z.iconst (n := 21) (v := 1) dX3_bears_20 rfl (by decide +kernel) ?_
    refine Z.goto (tgt := 25) dX3_bears_21 rfl ?_
    refine Z.fg [0, 1, 2] ?_
    exact zX3_bears_25 hJ _ _ hf
def fX3_bearsOneBut_48 (k18_ : Int32 → Int32 → Int32 → HT → Option (Int32 × HT)) (l1 : Int32) (l3 : Int32) (l4 : Int32) (h : HT) : Option (Int32 × HT) :=
  k18_ l1 l3 (l4 + 1) h
set_option maxHeartbeats 4000000 in
theorem zX3_bearsOneBut_48 {g : GP} {a : Nat → Nat} {P : PT} {J : JT} {z : Int32 × HT} {k18_ : Int32 → Int32 → Int32 → HT → Option (Int32 × HT)} (hJ : JX g 3 0 0 (PoI g a P z) J) (hk18 : ∀ (l1 : Int32) (l3 : Int32) (l4 : Int32) (h : HT), k18_ l1 l3 l4 h = some z → Z g mX3_bearsOneBut J 0 0 18 [some (.ref (a 1)), some (.int l1), none, some (.int l3), some (.int l4)] [] (WD g a h P)) (l1 : Int32) (l3 : Int32) (l4 : Int32) (h : HT) (hf : fX3_bearsOneBut_48 k18_ l1 l3 l4 h = some z) : Z g mX3_bearsOneBut J 0 0 48 [some (.ref (a 1)), some (.int l1), none, some (.int l3), some (.int l4)] [] (WD g a h P) := by
  unfold fX3_bearsOneBut_48 at hf
  refine Z.iinc (n := 51) (v := l4 + 1) dX3_bearsOneBut_48 rfl rfl rfl (by decide) rfl ?_
  refine Z.goto (tgt := 18) dX3_bearsOneBut_51 rfl ?_
  exact hk18 _ _ _ _ hf
def fX3_bearsOneBut_18 : Nat → Int32 → Int32 → Int32 → HT → Option (Int32 × HT)
  | 0, _, _, _, _ => none
  | n + 1, l1, l3, l4, h =>
  if (h 1 0) ≤ l4 then (some (0, h))
  else (if ((l3 >>> (l4 &&& 31)) &&& (1 : Int32)) = 0 then (fX3_bearsOneBut_48 (fX3_bearsOneBut_18  n) l1 l3 l4 h)
  else (Option.bind (fX3_bears l1 l4 h) fun z3 =>
  if z3.1 = 0 then (fX3_bearsOneBut_48 (fX3_bearsOneBut_18  n) l1 l3 l4 z3.2)
  else (some (1, z3.2))))
set_option maxHeartbeats 4000000 in
theorem zX3_bearsOneBut_18 {g : GP} {a : Nat → Nat} {P : PT} {J : JT} {z : Int32 × HT} (hJ : JX g 3 0 0 (PoI g a P z) J) : ∀ (n : Nat) (l1 : Int32) (l3 : Int32) (l4 : Int32) (h : HT), fX3_bearsOneBut_18 n l1 l3 l4 h = some z → Z g mX3_bearsOneBut J 0 0 18 [some (.ref (a 1)), some (.int l1), none, some (.int l3), some (.int l4)] [] (WD g a h P) := by
  intro n
  induction n with
  | zero =>
    intro _ _ _ _ hf
    cases hf
  | succ n ih =>
    intro l1 l3 l4 h hf
    unfold fX3_bearsOneBut_18 at hf
    refine Z.iload (n := 20) dX3_bearsOneBut_18 rfl rfl ?_
    refine Z.aload_n (n := 21) dX3_bearsOneBut_20 rfl rfl ?_
    refine Z.getf (n := 24) fX3_9 dX3_bearsOneBut_21 rfl W1 rfl ?_
    refine Z.icmp_ge (tgt := 54) (n := 27) dX3_bearsOneBut_24 rfl rfl (fun c1 => ?_) (fun c1 => ?_)
    · rw [if_pos c1] at hf
      refine Z.iconst (n := 55) (v := 0) dX3_bearsOneBut_54 rfl (by decide +kernel) ?_
      have hz := Option.some.inj hf
      subst hz
      exact Z.zret hJ dX3_bearsOneBut_55 rfl rfl (Nat.le_refl _) (Nat.le_refl _) ⟨rfl, rfl⟩
    · rw [if_neg c1] at hf
      refine Z.iload_n (n := 28) dX3_bearsOneBut_27 rfl rfl ?_
      refine Z.iload (n := 30) dX3_bearsOneBut_28 rfl rfl ?_
      refine Z.ishr (n := 31) dX3_bearsOneBut_30 rfl ?_
      refine Z.iconst (n := 32) (v := 1) dX3_bearsOneBut_31 rfl (by decide +kernel) ?_
      refine Z.iand (n := 33) dX3_bearsOneBut_32 rfl ?_
      refine Z.if_eq (tgt := 48) (n := 36) dX3_bearsOneBut_33 rfl rfl (fun c2 => ?_) (fun c2 => ?_)
      · rw [if_pos c2] at hf
        exact zX3_bearsOneBut_48 hJ ih _ _ _ _ hf
      · rw [if_neg c2] at hf
        refine Z.aload_n (n := 37) dX3_bearsOneBut_36 rfl rfl ?_
        refine Z.iload_n (n := 38) dX3_bearsOneBut_37 rfl rfl ?_
        refine Z.iload (n := 40) dX3_bearsOneBut_38 rfl rfl ?_
        obtain ⟨z3, ez3, hf⟩ := Option.bind_eq_some_iff.mp hf
        refine Z.callV (n := 43) vX3_104 (ctX3_bears ez3) hJ.rm (Nat.le_of_ble_eq_true rfl) rfl rfl (Nat.le_refl _) (Nat.le_refl _) rfl W1 rfl rfl (Nat.le_of_ble_eq_true rfl) rfl dX3_bearsOneBut_40 rfl (fun v w hw => ?_)
        obtain ⟨rfl, rfl⟩ := hw
        show Z _ _ _ _ _ _ _ [.int z3.1] _
        refine Z.if_eq (tgt := 48) (n := 46) dX3_bearsOneBut_43 rfl rfl (fun c4 => ?_) (fun c4 => ?_)
        · rw [if_pos c4] at hf
          exact zX3_bearsOneBut_48 hJ ih _ _ _ _ hf
        · rw [if_neg c4] at hf
          refine Z.iconst (n := 47) (v := 1) dX3_bearsOneBut_46 rfl (by decide +kernel) ?_
          have hz := Option.some.inj hf
          subst hz
          exact Z.zret hJ dX3_bearsOneBut_47 rfl rfl (Nat.le_refl _) (Nat.le_refl _) ⟨rfl, rfl⟩
def fX3_bearsOneBut (l1 : Int32) (l2 : Int32) (h : HT) : Option (Int32 × HT) :=
  fX3_bearsOneBut_18 1000 l1 ((h 1 1) &&& ((((1 : Int32) <<< (l1 &&& 31)) ||| ((1 : Int32) <<< (l2 &&& 31))) ^^^ (-1 : Int32))) 0 h
set_option maxHeartbeats 4000000 in
theorem ctX3_bearsOneBut {g : GP} {a : Nat → Nat} {P : PT} {h : HT} {z : Int32 × HT} {l1 : Int32} {l2 : Int32} (hf : fX3_bearsOneBut l1 l2 h = some z) : Ct g 3 0 0 mX3_bearsOneBut [.ref (a 1), .int l1, .int l2] (WD g a h P) (PoI g a P z) := by
  refine Ct.of (by decide +kernel) (Nat.le_of_ble_eq_true rfl) fun J hJ => ?_
  show Z g mX3_bearsOneBut J 0 0 0 [some (.ref (a 1)), some (.int l1), some (.int l2), none, none] [] (WD g a h P)
  unfold fX3_bearsOneBut at hf
  refine Z.aload_n (n := 1) dX3_bearsOneBut_0 rfl rfl ?_
  refine Z.getf (n := 4) fX3_15 dX3_bearsOneBut_1 rfl W1 rfl ?_
  refine Z.iconst (n := 5) (v := 1) dX3_bearsOneBut_4 rfl (by decide +kernel) ?_
  refine Z.iload_n (n := 6) dX3_bearsOneBut_5 rfl rfl ?_
  refine Z.ishl (n := 7) dX3_bearsOneBut_6 rfl ?_
  refine Z.iconst (n := 8) (v := 1) dX3_bearsOneBut_7 rfl (by decide +kernel) ?_
  refine Z.iload_n (n := 9) dX3_bearsOneBut_8 rfl rfl ?_
  refine Z.ishl (n := 10) dX3_bearsOneBut_9 rfl ?_
  refine Z.ior (n := 11) dX3_bearsOneBut_10 rfl ?_
  refine Z.iconst (n := 12) (v := -1) dX3_bearsOneBut_11 rfl (by decide +kernel) ?_
  refine Z.ixor (n := 13) dX3_bearsOneBut_12 rfl ?_
  refine Z.iand (n := 14) dX3_bearsOneBut_13 rfl ?_
  refine Z.istore_n (n := 15) dX3_bearsOneBut_14 rfl (by decide) rfl ?_
  refine Z.iconst (n := 16) (v := 0) dX3_bearsOneBut_15 rfl (by decide +kernel) ?_
  refine Z.istore (n := 18) dX3_bearsOneBut_16 rfl (by decide) rfl ?_
  refine Z.fg [2] ?_
  exact zX3_bearsOneBut_18 hJ _ _ _ _ _ hf
def fX3_turns_78 (k26_ : Int32 → Int32 → Int32 → Int32 → Int32 → HT → Option (Int32 × HT)) (l1 : Int32) (l2 : Int32) (l3 : Int32) (l4 : Int32) (l5 : Int32) (h : HT) : Option (Int32 × HT) :=
  k26_ l1 l2 l3 l4 (l5 + 1) h
set_option maxHeartbeats 4000000 in
theorem zX3_turns_78 {g : GP} {a : Nat → Nat} {P : PT} {J : JT} {z : Int32 × HT} {k26_ : Int32 → Int32 → Int32 → Int32 → Int32 → HT → Option (Int32 × HT)} (hJ : JX g 2 0 0 (PoI g a P z) J) (hk26 : ∀ (l1 : Int32) (l2 : Int32) (l3 : Int32) (l4 : Int32) (l5 : Int32) (h : HT), k26_ l1 l2 l3 l4 l5 h = some z → Z g mX3_turns J 0 0 26 [some (.ref (a 1)), some (.int l1), some (.int l2), some (.int l3), some (.int l4), some (.int l5), none] [] (WD g a h P)) (l1 : Int32) (l2 : Int32) (l3 : Int32) (l4 : Int32) (l5 : Int32) (h : HT) (hf : fX3_turns_78 k26_ l1 l2 l3 l4 l5 h = some z) : Z g mX3_turns J 0 0 78 [some (.ref (a 1)), some (.int l1), some (.int l2), some (.int l3), some (.int l4), some (.int l5), none] [] (WD g a h P) := by
  unfold fX3_turns_78 at hf
  refine Z.iinc (n := 81) (v := l5 + 1) dX3_turns_78 rfl rfl rfl (by decide) rfl ?_
  refine Z.goto (tgt := 26) dX3_turns_81 rfl ?_
  exact hk26 _ _ _ _ _ _ hf
def fX3_turns_26 : Nat → Int32 → Int32 → Int32 → Int32 → Int32 → HT → Option (Int32 × HT)
  | 0, _, _, _, _, _, _ => none
  | n + 1, l1, l2, l3, l4, l5, h =>
  if l2 < l5 then (some (l4, h))
  else (if (l5 &&& l2) = l5 then (Option.bind (fX3_strengthOf l5 h) fun z4 =>
  if l3 < ((2 : Int32) * z4.1) then (fX3_turns_78 (fX3_turns_26  n) l1 l2 l3 l4 l5 z4.2)
  else (Option.bind (ck 7 l1) fun j6 =>
  if (((2 : Int32) * z4.1) + ((2 : Int32) * (z4.2 2 j6))) ≤ l3 then (fX3_turns_78 (fX3_turns_26  n) l1 l2 l3 l4 l5 z4.2)
  else (fX3_turns_78 (fX3_turns_26  n) l1 l2 l3 (l4 + 1) l5 z4.2)))
  else (fX3_turns_78 (fX3_turns_26  n) l1 l2 l3 l4 l5 h))
set_option maxHeartbeats 4000000 in
theorem zX3_turns_26 {g : GP} {a : Nat → Nat} {P : PT} {J : JT} {z : Int32 × HT} (hJ : JX g 2 0 0 (PoI g a P z) J) : ∀ (n : Nat) (l1 : Int32) (l2 : Int32) (l3 : Int32) (l4 : Int32) (l5 : Int32) (h : HT), fX3_turns_26 n l1 l2 l3 l4 l5 h = some z → Z g mX3_turns J 0 0 26 [some (.ref (a 1)), some (.int l1), some (.int l2), some (.int l3), some (.int l4), some (.int l5), none] [] (WD g a h P) := by
  intro n
  induction n with
  | zero =>
    intro _ _ _ _ _ _ hf
    cases hf
  | succ n ih =>
    intro l1 l2 l3 l4 l5 h hf
    unfold fX3_turns_26 at hf
    refine Z.iload (n := 28) dX3_turns_26 rfl rfl ?_
    refine Z.iload_n (n := 29) dX3_turns_28 rfl rfl ?_
    refine Z.icmp_gt (tgt := 84) (n := 32) dX3_turns_29 rfl rfl (fun c2 => ?_) (fun c2 => ?_)
    · rw [if_pos c2] at hf
      refine Z.iload (n := 86) dX3_turns_84 rfl rfl ?_
      have hz := Option.some.inj hf
      subst hz
      exact Z.iret hJ dX3_turns_86 rfl (Nat.le_refl _) (Nat.le_refl _) ⟨rfl, rfl⟩
    · rw [if_neg c2] at hf
      refine Z.iload (n := 34) dX3_turns_32 rfl rfl ?_
      refine Z.iload_n (n := 35) dX3_turns_34 rfl rfl ?_
      refine Z.iand (n := 36) dX3_turns_35 rfl ?_
      refine Z.iload (n := 38) dX3_turns_36 rfl rfl ?_
      refine Z.icmp_eq (tgt := 44) (n := 41) dX3_turns_38 rfl rfl (fun c3 => ?_) (fun c3 => ?_)
      · rw [if_pos c3] at hf
        refine Z.iconst (n := 45) (v := 2) dX3_turns_44 rfl (by decide +kernel) ?_
        refine Z.aload_n (n := 46) dX3_turns_45 rfl rfl ?_
        refine Z.iload (n := 48) dX3_turns_46 rfl rfl ?_
        obtain ⟨z4, ez4, hf⟩ := Option.bind_eq_some_iff.mp hf
        refine Z.callV (n := 51) vX3_108 (ctX3_strengthOf ez4) hJ.rm (Nat.le_of_ble_eq_true rfl) rfl rfl (Nat.le_refl _) (Nat.le_refl _) rfl W1 rfl rfl (Nat.le_of_ble_eq_true rfl) rfl dX3_turns_48 rfl (fun v w hw => ?_)
        obtain ⟨rfl, rfl⟩ := hw
        show Z _ _ _ _ _ _ _ [.int z4.1, .int 2] _
        refine Z.imul (n := 52) dX3_turns_51 rfl ?_
        refine Z.istore (n := 54) dX3_turns_52 rfl (by decide) rfl ?_
        refine Z.iload (n := 56) dX3_turns_54 rfl rfl ?_
        refine Z.iload_n (n := 57) dX3_turns_56 rfl rfl ?_
        refine Z.icmp_gt (tgt := 78) (n := 60) dX3_turns_57 rfl rfl (fun c5 => ?_) (fun c5 => ?_)
        · rw [if_pos c5] at hf
          refine Z.fg [6] ?_
          exact zX3_turns_78 hJ ih _ _ _ _ _ _ hf
        · rw [if_neg c5] at hf
          refine Z.iload (n := 62) dX3_turns_60 rfl rfl ?_
          refine Z.iconst (n := 63) (v := 2) dX3_turns_62 rfl (by decide +kernel) ?_
          refine Z.aload_n (n := 64) dX3_turns_63 rfl rfl ?_
          refine Z.getf (n := 67) fX3_27 dX3_turns_64 rfl W1 rfl ?_
          refine Z.iload_n (n := 68) dX3_turns_67 rfl rfl ?_
          obtain ⟨j6, ej6, hf⟩ := Option.bind_eq_some_iff.mp hf
          obtain ⟨hij6, hlj6⟩ := ck_spec ej6
          refine Z.iald (j := j6) (n := 69) dX3_turns_68 rfl W2 hij6 hlj6 (by decide) ?_
          refine Z.imul (n := 70) dX3_turns_69 rfl ?_
          refine Z.iadd (n := 71) dX3_turns_70 rfl ?_
          refine Z.iload_n (n := 72) dX3_turns_71 rfl rfl ?_
          refine Z.icmp_le (tgt := 78) (n := 75) dX3_turns_72 rfl rfl (fun c7 => ?_) (fun c7 => ?_)
          · rw [if_pos c7] at hf
            refine Z.fg [6] ?_
            exact zX3_turns_78 hJ ih _ _ _ _ _ _ hf
          · rw [if_neg c7] at hf
            refine Z.iinc (n := 78) (v := l4 + 1) dX3_turns_75 rfl rfl rfl (by decide) rfl ?_
            refine Z.fg [6] ?_
            exact zX3_turns_78 hJ ih _ _ _ _ _ _ hf
      · rw [if_neg c3] at hf
        refine Z.goto (tgt := 78) dX3_turns_41 rfl ?_
        exact zX3_turns_78 hJ ih _ _ _ _ _ _ hf
def fX3_turns (l1 : Int32) (h : HT) : Option (Int32 × HT) :=
  Option.bind (fX3_strengthOf (h 1 1) h) fun z1 =>
  fX3_turns_26 1000 l1 ((h 1 1) &&& (((1 : Int32) <<< (l1 &&& 31)) ^^^ (-1 : Int32))) z1.1 0 0 z1.2
set_option maxHeartbeats 4000000 in
theorem ctX3_turns {g : GP} {a : Nat → Nat} {P : PT} {h : HT} {z : Int32 × HT} {l1 : Int32} (hf : fX3_turns l1 h = some z) : Ct g 2 0 0 mX3_turns [.ref (a 1), .int l1] (WD g a h P) (PoI g a P z) := by
  refine Ct.of (by decide +kernel) (Nat.le_of_ble_eq_true rfl) fun J hJ => ?_
  show Z g mX3_turns J 0 0 0 [some (.ref (a 1)), some (.int l1), none, none, none, none, none] [] (WD g a h P)
  unfold fX3_turns at hf
  refine Z.aload_n (n := 1) dX3_turns_0 rfl rfl ?_
  refine Z.getf (n := 4) fX3_15 dX3_turns_1 rfl W1 rfl ?_
  refine Z.iconst (n := 5) (v := 1) dX3_turns_4 rfl (by decide +kernel) ?_
  refine Z.iload_n (n := 6) dX3_turns_5 rfl rfl ?_
  refine Z.ishl (n := 7) dX3_turns_6 rfl ?_
  refine Z.iconst (n := 8) (v := -1) dX3_turns_7 rfl (by decide +kernel) ?_
  refine Z.ixor (n := 9) dX3_turns_8 rfl ?_
  refine Z.iand (n := 10) dX3_turns_9 rfl ?_
  refine Z.istore_n (n := 11) dX3_turns_10 rfl (by decide) rfl ?_
  refine Z.aload_n (n := 12) dX3_turns_11 rfl rfl ?_
  refine Z.aload_n (n := 13) dX3_turns_12 rfl rfl ?_
  refine Z.getf (n := 16) fX3_15 dX3_turns_13 rfl W1 rfl ?_
  obtain ⟨z1, ez1, hf⟩ := Option.bind_eq_some_iff.mp hf
  refine Z.callV (n := 19) vX3_108 (ctX3_strengthOf ez1) hJ.rm (Nat.le_of_ble_eq_true rfl) rfl rfl (Nat.le_refl _) (Nat.le_refl _) rfl W1 rfl rfl (Nat.le_of_ble_eq_true rfl) rfl dX3_turns_16 rfl (fun v w hw => ?_)
  obtain ⟨rfl, rfl⟩ := hw
  show Z _ _ _ _ _ _ _ [.int z1.1] _
  refine Z.istore_n (n := 20) dX3_turns_19 rfl (by decide) rfl ?_
  refine Z.iconst (n := 21) (v := 0) dX3_turns_20 rfl (by decide +kernel) ?_
  refine Z.istore (n := 23) dX3_turns_21 rfl (by decide) rfl ?_
  refine Z.iconst (n := 24) (v := 0) dX3_turns_23 rfl (by decide +kernel) ?_
  refine Z.istore (n := 26) dX3_turns_24 rfl (by decide) rfl ?_
  exact zX3_turns_26 hJ _ _ _ _ _ _ _ hf
def fX3_halve_28 (k2_ : Int32 → Int32 → HT → Option (Int32 × HT)) (l1 : Int32) (l2 : Int32) (h : HT) : Option (Int32 × HT) :=
  k2_ l1 (l2 + 1) h
set_option maxHeartbeats 4000000 in
theorem zX3_halve_28 {g : GP} {a : Nat → Nat} {P : PT} {J : JT} {z : Int32 × HT} {k2_ : Int32 → Int32 → HT → Option (Int32 × HT)} (hJ : JX g 1 0 0 (PoV g a P z) J) (hk2 : ∀ (l1 : Int32) (l2 : Int32) (h : HT), k2_ l1 l2 h = some z → Z g mX3_halve J 0 0 2 [some (.ref (a 1)), some (.int l1), some (.int l2)] [] (WD g a h P)) (l1 : Int32) (l2 : Int32) (h : HT) (hf : fX3_halve_28 k2_ l1 l2 h = some z) : Z g mX3_halve J 0 0 28 [some (.ref (a 1)), some (.int l1), some (.int l2)] [] (WD g a h P) := by
  unfold fX3_halve_28 at hf
  refine Z.iinc (n := 31) (v := l2 + 1) dX3_halve_28 rfl rfl rfl (by decide) rfl ?_
  refine Z.goto (tgt := 2) dX3_halve_31 rfl ?_
  exact hk2 _ _ _ hf
def fX3_halve_2 : Nat → Int32 → Int32 → HT → Option (Int32 × HT)
  | 0, _, _, _ => none
  | n + 1, l1, l2, h =>
  if (h 1 0) ≤ l2 then (some (0, h))
  else (if ((l1 >>> (l2 &&& 31)) &&& (1 : Int32)) = 0 then (fX3_halve_28 (fX3_halve_2  n) l1 l2 h)
  else (Option.bind (ck 7 l2) fun j3 =>
  Option.bind (ck 7 l2) fun j4 =>
  fX3_halve_28 (fX3_halve_2  n) l1 l2 (hu h 2 j4 ((h 2 j3) / (2 : Int32)))))
set_option maxHeartbeats 4000000 in
theorem zX3_halve_2 {g : GP} {a : Nat → Nat} {P : PT} {J : JT} {z : Int32 × HT} (hJ : JX g 1 0 0 (PoV g a P z) J) : ∀ (n : Nat) (l1 : Int32) (l2 : Int32) (h : HT), fX3_halve_2 n l1 l2 h = some z → Z g mX3_halve J 0 0 2 [some (.ref (a 1)), some (.int l1), some (.int l2)] [] (WD g a h P) := by
  intro n
  induction n with
  | zero =>
    intro _ _ _ hf
    cases hf
  | succ n ih =>
    intro l1 l2 h hf
    unfold fX3_halve_2 at hf
    refine Z.iload_n (n := 3) dX3_halve_2 rfl rfl ?_
    refine Z.aload_n (n := 4) dX3_halve_3 rfl rfl ?_
    refine Z.getf (n := 7) fX3_9 dX3_halve_4 rfl W1 rfl ?_
    refine Z.icmp_ge (tgt := 34) (n := 10) dX3_halve_7 rfl rfl (fun c1 => ?_) (fun c1 => ?_)
    · rw [if_pos c1] at hf
      have hz := Option.some.inj hf
      subst hz
      exact Z.vret hJ dX3_halve_34 rfl (Nat.le_refl _) (Nat.le_refl _) ⟨rfl, rfl⟩
    · rw [if_neg c1] at hf
      refine Z.iload_n (n := 11) dX3_halve_10 rfl rfl ?_
      refine Z.iload_n (n := 12) dX3_halve_11 rfl rfl ?_
      refine Z.ishr (n := 13) dX3_halve_12 rfl ?_
      refine Z.iconst (n := 14) (v := 1) dX3_halve_13 rfl (by decide +kernel) ?_
      refine Z.iand (n := 15) dX3_halve_14 rfl ?_
      refine Z.if_eq (tgt := 28) (n := 18) dX3_halve_15 rfl rfl (fun c2 => ?_) (fun c2 => ?_)
      · rw [if_pos c2] at hf
        exact zX3_halve_28 hJ ih _ _ _ hf
      · rw [if_neg c2] at hf
        refine Z.aload_n (n := 19) dX3_halve_18 rfl rfl ?_
        refine Z.getf (n := 22) fX3_27 dX3_halve_19 rfl W1 rfl ?_
        refine Z.iload_n (n := 23) dX3_halve_22 rfl rfl ?_
        refine Z.dup2 (n := 24) dX3_halve_23 rfl rfl rfl ?_
        obtain ⟨j3, ej3, hf⟩ := Option.bind_eq_some_iff.mp hf
        obtain ⟨hij3, hlj3⟩ := ck_spec ej3
        refine Z.iald (j := j3) (n := 25) dX3_halve_24 rfl W2 hij3 hlj3 (by decide) ?_
        refine Z.iconst (n := 26) (v := 2) dX3_halve_25 rfl (by decide +kernel) ?_
        refine Z.idiv (n := 27) dX3_halve_26 rfl (by decide +kernel) ?_
        obtain ⟨j4, ej4, hf⟩ := Option.bind_eq_some_iff.mp hf
        obtain ⟨hij4, hlj4⟩ := ck_spec ej4
        refine Z.iast (j := j4) (n := 28) dX3_halve_27 rfl W2 hij4 hlj4 (by decide) W2s ?_
        exact zX3_halve_28 hJ ih _ _ _ hf
def fX3_halve (l1 : Int32) (h : HT) : Option (Int32 × HT) :=
  fX3_halve_2 1000 l1 0 h
set_option maxHeartbeats 4000000 in
theorem ctX3_halve {g : GP} {a : Nat → Nat} {P : PT} {h : HT} {z : Int32 × HT} {l1 : Int32} (hf : fX3_halve l1 h = some z) : Ct g 1 0 0 mX3_halve [.ref (a 1), .int l1] (WD g a h P) (PoV g a P z) := by
  refine Ct.of (by decide +kernel) (Nat.le_of_ble_eq_true rfl) fun J hJ => ?_
  show Z g mX3_halve J 0 0 0 [some (.ref (a 1)), some (.int l1), none] [] (WD g a h P)
  unfold fX3_halve at hf
  refine Z.iconst (n := 1) (v := 0) dX3_halve_0 rfl (by decide +kernel) ?_
  refine Z.istore_n (n := 2) dX3_halve_1 rfl (by decide) rfl ?_
  exact zX3_halve_2 hJ _ _ _ _ hf
def fX3_wear_49 (k8_ : Int32 → Int32 → Int32 → Int32 → HT → Option (Int32 × HT)) (l1 : Int32) (l2 : Int32) (l3 : Int32) (l4 : Int32) (h : HT) : Option (Int32 × HT) :=
  k8_ l1 l2 l3 (l4 + 1) h
set_option maxHeartbeats 4000000 in
theorem zX3_wear_49 {g : GP} {a : Nat → Nat} {P : PT} {J : JT} {z : Int32 × HT} {k8_ : Int32 → Int32 → Int32 → Int32 → HT → Option (Int32 × HT)} (hJ : JX g 1 0 0 (PoV g a P z) J) (hk8 : ∀ (l1 : Int32) (l2 : Int32) (l3 : Int32) (l4 : Int32) (h : HT), k8_ l1 l2 l3 l4 h = some z → Z g mX3_wear J 0 0 8 [some (.ref (a 1)), some (.int l1), some (.int l2), some (.int l3), some (.int l4)] [] (WD g a h P)) (l1 : Int32) (l2 : Int32) (l3 : Int32) (l4 : Int32) (h : HT) (hf : fX3_wear_49 k8_ l1 l2 l3 l4 h = some z) : Z g mX3_wear J 0 0 49 [some (.ref (a 1)), some (.int l1), some (.int l2), some (.int l3), some (.int l4)] [] (WD g a h P) := by
  unfold fX3_wear_49 at hf
  refine Z.iinc (n := 52) (v := l4 + 1) dX3_wear_49 rfl rfl rfl (by decide) rfl ?_
  refine Z.goto (tgt := 8) dX3_wear_52 rfl ?_
  exact hk8 _ _ _ _ _ hf
def fX3_wear_8 : Nat → Int32 → Int32 → Int32 → Int32 → HT → Option (Int32 × HT)
  | 0, _, _, _, _, _ => none
  | n + 1, l1, l2, l3, l4, h =>
  if (h 1 0) ≤ l4 then (some (0, h))
  else (if ((l1 >>> (l4 &&& 31)) &&& (1 : Int32)) = 0 then (fX3_wear_49 (fX3_wear_8  n) l1 l2 l3 l4 h)
  else (Option.bind (ck 7 l4) fun j4 =>
  Option.bind (ck 7 l4) fun j5 =>
  Option.bind (nz ((2 : Int32) * l3)) fun u6 =>
  Option.bind (ck 7 l4) fun j7 =>
  fX3_wear_49 (fX3_wear_8  n) l1 l2 l3 l4 (hu h 2 j7 ((h 2 j4) - (((h 2 j5) * l2) / ((2 : Int32) * l3))))))
set_option maxHeartbeats 4000000 in
theorem zX3_wear_8 {g : GP} {a : Nat → Nat} {P : PT} {J : JT} {z : Int32 × HT} (hJ : JX g 1 0 0 (PoV g a P z) J) : ∀ (n : Nat) (l1 : Int32) (l2 : Int32) (l3 : Int32) (l4 : Int32) (h : HT), fX3_wear_8 n l1 l2 l3 l4 h = some z → Z g mX3_wear J 0 0 8 [some (.ref (a 1)), some (.int l1), some (.int l2), some (.int l3), some (.int l4)] [] (WD g a h P) := by
  intro n
  induction n with
  | zero =>
    intro _ _ _ _ _ hf
    cases hf
  | succ n ih =>
    intro l1 l2 l3 l4 h hf
    unfold fX3_wear_8 at hf
    refine Z.iload (n := 10) dX3_wear_8 rfl rfl ?_
    refine Z.aload_n (n := 11) dX3_wear_10 rfl rfl ?_
    refine Z.getf (n := 14) fX3_9 dX3_wear_11 rfl W1 rfl ?_
    refine Z.icmp_ge (tgt := 55) (n := 17) dX3_wear_14 rfl rfl (fun c2 => ?_) (fun c2 => ?_)
    · rw [if_pos c2] at hf
      have hz := Option.some.inj hf
      subst hz
      exact Z.vret hJ dX3_wear_55 rfl (Nat.le_refl _) (Nat.le_refl _) ⟨rfl, rfl⟩
    · rw [if_neg c2] at hf
      refine Z.iload_n (n := 18) dX3_wear_17 rfl rfl ?_
      refine Z.iload (n := 20) dX3_wear_18 rfl rfl ?_
      refine Z.ishr (n := 21) dX3_wear_20 rfl ?_
      refine Z.iconst (n := 22) (v := 1) dX3_wear_21 rfl (by decide +kernel) ?_
      refine Z.iand (n := 23) dX3_wear_22 rfl ?_
      refine Z.if_eq (tgt := 49) (n := 26) dX3_wear_23 rfl rfl (fun c3 => ?_) (fun c3 => ?_)
      · rw [if_pos c3] at hf
        exact zX3_wear_49 hJ ih _ _ _ _ _ hf
      · rw [if_neg c3] at hf
        refine Z.aload_n (n := 27) dX3_wear_26 rfl rfl ?_
        refine Z.getf (n := 30) fX3_27 dX3_wear_27 rfl W1 rfl ?_
        refine Z.iload (n := 32) dX3_wear_30 rfl rfl ?_
        refine Z.dup2 (n := 33) dX3_wear_32 rfl rfl rfl ?_
        obtain ⟨j4, ej4, hf⟩ := Option.bind_eq_some_iff.mp hf
        obtain ⟨hij4, hlj4⟩ := ck_spec ej4
        refine Z.iald (j := j4) (n := 34) dX3_wear_33 rfl W2 hij4 hlj4 (by decide) ?_
        refine Z.aload_n (n := 35) dX3_wear_34 rfl rfl ?_
        refine Z.getf (n := 38) fX3_27 dX3_wear_35 rfl W1 rfl ?_
        refine Z.iload (n := 40) dX3_wear_38 rfl rfl ?_
        obtain ⟨j5, ej5, hf⟩ := Option.bind_eq_some_iff.mp hf
        obtain ⟨hij5, hlj5⟩ := ck_spec ej5
        refine Z.iald (j := j5) (n := 41) dX3_wear_40 rfl W2 hij5 hlj5 (by decide) ?_
        refine Z.iload_n (n := 42) dX3_wear_41 rfl rfl ?_
        refine Z.imul (n := 43) dX3_wear_42 rfl ?_
        refine Z.iconst (n := 44) (v := 2) dX3_wear_43 rfl (by decide +kernel) ?_
        refine Z.iload_n (n := 45) dX3_wear_44 rfl rfl ?_
        refine Z.imul (n := 46) dX3_wear_45 rfl ?_
        obtain ⟨u6, eu6, hf⟩ := Option.bind_eq_some_iff.mp hf
        refine Z.idiv (n := 47) dX3_wear_46 rfl (nz_spec eu6) ?_
        refine Z.isub (n := 48) dX3_wear_47 rfl ?_
        obtain ⟨j7, ej7, hf⟩ := Option.bind_eq_some_iff.mp hf
        obtain ⟨hij7, hlj7⟩ := ck_spec ej7
        refine Z.iast (j := j7) (n := 49) dX3_wear_48 rfl W2 hij7 hlj7 (by decide) W2s ?_
        exact zX3_wear_49 hJ ih _ _ _ _ _ hf
def fX3_wear (l1 : Int32) (l2 : Int32) (l3 : Int32) (h : HT) : Option (Int32 × HT) :=
  if 0 < l3 then (fX3_wear_8 1000 l1 l2 l3 0 h)
  else (some (0, h))
set_option maxHeartbeats 4000000 in
theorem ctX3_wear {g : GP} {a : Nat → Nat} {P : PT} {h : HT} {z : Int32 × HT} {l1 : Int32} {l2 : Int32} {l3 : Int32} (hf : fX3_wear l1 l2 l3 h = some z) : Ct g 1 0 0 mX3_wear [.ref (a 1), .int l1, .int l2, .int l3] (WD g a h P) (PoV g a P z) := by
  refine Ct.of (by decide +kernel) (Nat.le_of_ble_eq_true rfl) fun J hJ => ?_
  show Z g mX3_wear J 0 0 0 [some (.ref (a 1)), some (.int l1), some (.int l2), some (.int l3), none] [] (WD g a h P)
  unfold fX3_wear at hf
  refine Z.iload_n (n := 1) dX3_wear_0 rfl rfl ?_
  refine Z.if_gt (tgt := 5) (n := 4) dX3_wear_1 rfl rfl (fun c1 => ?_) (fun c1 => ?_)
  · rw [if_pos c1] at hf
    refine Z.iconst (n := 6) (v := 0) dX3_wear_5 rfl (by decide +kernel) ?_
    refine Z.istore (n := 8) dX3_wear_6 rfl (by decide) rfl ?_
    exact zX3_wear_8 hJ _ _ _ _ _ _ hf
  · rw [if_neg c1] at hf
    have hz := Option.some.inj hf
    subst hz
    exact Z.vret hJ dX3_wear_4 rfl (Nat.le_refl _) (Nat.le_refl _) ⟨rfl, rfl⟩
def fX3_fall (l1 : Int32) (l2 : Int32) (l3 : Int32) (h : HT) : Option (Int32 × HT) :=
  Option.bind (ck 7 l1) fun j1 =>
  Option.bind (ck 7 l1) fun j2 =>
  Option.bind (ck 7 l2) fun j3 =>
  Option.bind (ck 7 l2) fun j4 =>
  some (0, hu (hu (hu (hu h 2 j1 0) 1 1 (((hu h 2 j1 0) 1 1) &&& (((1 : Int32) <<< (l1 &&& 31)) ^^^ (-1 : Int32)))) 4 j2 l2) 2 j4 (if (((hu (hu (hu h 2 j1 0) 1 1 (((hu h 2 j1 0) 1 1) &&& (((1 : Int32) <<< (l1 &&& 31)) ^^^ (-1 : Int32)))) 4 j2 l2) 2 j3) + ((((hu (hu (hu h 2 j1 0) 1 1 (((hu h 2 j1 0) 1 1) &&& (((1 : Int32) <<< (l1 &&& 31)) ^^^ (-1 : Int32)))) 4 j2 l2) 23 2) * l3) / (100 : Int32))) < (99 : Int32) then (((hu (hu (hu h 2 j1 0) 1 1 (((hu h 2 j1 0) 1 1) &&& (((1 : Int32) <<< (l1 &&& 31)) ^^^ (-1 : Int32)))) 4 j2 l2) 2 j3) + ((((hu (hu (hu h 2 j1 0) 1 1 (((hu h 2 j1 0) 1 1) &&& (((1 : Int32) <<< (l1 &&& 31)) ^^^ (-1 : Int32)))) 4 j2 l2) 23 2) * l3) / (100 : Int32))) else (99 : Int32)))
set_option maxHeartbeats 4000000 in
theorem ctX3_fall {g : GP} {a : Nat → Nat} {P : PT} {h : HT} {z : Int32 × HT} {l1 : Int32} {l2 : Int32} {l3 : Int32} (hf : fX3_fall l1 l2 l3 h = some z) : Ct g 1 0 0 mX3_fall [.ref (a 1), .int l1, .int l2, .int l3] (WD g a h P) (PoV g a P z) := by
  refine Ct.of (by decide +kernel) (Nat.le_of_ble_eq_true rfl) fun J hJ => ?_
  show Z g mX3_fall J 0 0 0 [some (.ref (a 1)), some (.int l1), some (.int l2), some (.int l3)] [] (WD g a h P)
  unfold fX3_fall at hf
  refine Z.aload_n (n := 1) dX3_fall_0 rfl rfl ?_
  refine Z.getf (n := 4) fX3_27 dX3_fall_1 rfl W1 rfl ?_
  refine Z.iload_n (n := 5) dX3_fall_4 rfl rfl ?_
  refine Z.iconst (n := 6) (v := 0) dX3_fall_5 rfl (by decide +kernel) ?_
  obtain ⟨j1, ej1, hf⟩ := Option.bind_eq_some_iff.mp hf
  obtain ⟨hij1, hlj1⟩ := ck_spec ej1
  refine Z.iast (j := j1) (n := 7) dX3_fall_6 rfl W2 hij1 hlj1 (by decide) W2s ?_
  refine Z.aload_n (n := 8) dX3_fall_7 rfl rfl ?_
  refine Z.dup (n := 9) dX3_fall_8 rfl rfl ?_
  refine Z.getf (n := 12) fX3_15 dX3_fall_9 rfl W1 rfl ?_
  refine Z.iconst (n := 13) (v := 1) dX3_fall_12 rfl (by decide +kernel) ?_
  refine Z.iload_n (n := 14) dX3_fall_13 rfl rfl ?_
  refine Z.ishl (n := 15) dX3_fall_14 rfl ?_
  refine Z.iconst (n := 16) (v := -1) dX3_fall_15 rfl (by decide +kernel) ?_
  refine Z.ixor (n := 17) dX3_fall_16 rfl ?_
  refine Z.iand (n := 18) dX3_fall_17 rfl ?_
  refine Z.putf (n := 21) pX3_15 dX3_fall_18 rfl W1 (Nat.le_of_ble_eq_true rfl) rfl rfl W1s_1 ?_
  refine Z.aload_n (n := 22) dX3_fall_21 rfl rfl ?_
  refine Z.getf (n := 25) fX3_34 dX3_fall_22 rfl W1 rfl ?_
  refine Z.iload_n (n := 26) dX3_fall_25 rfl rfl ?_
  refine Z.iload_n (n := 27) dX3_fall_26 rfl rfl ?_
  obtain ⟨j2, ej2, hf⟩ := Option.bind_eq_some_iff.mp hf
  obtain ⟨hij2, hlj2⟩ := ck_spec ej2
  refine Z.iast (j := j2) (n := 28) dX3_fall_27 rfl W4 hij2 hlj2 (by decide) W4s ?_
  refine Z.aload_n (n := 29) dX3_fall_28 rfl rfl ?_
  refine Z.getf (n := 32) fX3_27 dX3_fall_29 rfl W1 rfl ?_
  refine Z.iload_n (n := 33) dX3_fall_32 rfl rfl ?_
  refine Z.bipush (n := 35) (v := 99) dX3_fall_33 rfl (by decide +kernel) ?_
  refine Z.aload_n (n := 36) dX3_fall_35 rfl rfl ?_
  refine Z.getf (n := 39) fX3_27 dX3_fall_36 rfl W1 rfl ?_
  refine Z.iload_n (n := 40) dX3_fall_39 rfl rfl ?_
  obtain ⟨j3, ej3, hf⟩ := Option.bind_eq_some_iff.mp hf
  obtain ⟨hij3, hlj3⟩ := ck_spec ej3
  refine Z.iald (j := j3) (n := 41) dX3_fall_40 rfl W2 hij3 hlj3 (by decide) ?_
  refine Z.aload_n (n := 42) dX3_fall_41 rfl rfl ?_
  refine Z.getf (n := 45) fX3_55 dX3_fall_42 rfl W1 rfl ?_
  refine Z.getf (n := 48) fX3_111 dX3_fall_45 rfl W23 rfl ?_
  refine Z.iload_n (n := 49) dX3_fall_48 rfl rfl ?_
  refine Z.imul (n := 50) dX3_fall_49 rfl ?_
  refine Z.bipush (n := 52) (v := 100) dX3_fall_50 rfl (by decide +kernel) ?_
  refine Z.idiv (n := 53) dX3_fall_52 rfl (by decide +kernel) ?_
  refine Z.iadd (n := 54) dX3_fall_53 rfl ?_
  refine Z.mmin (n := 57) wX3_114 w_min2 w_math3 w_min4 hJ.rm (Nat.le_of_ble_eq_true rfl) (Nat.le_refl _) (Nat.le_refl _) (Nat.le_of_ble_eq_true rfl) dX3_fall_54 rfl rfl ?_
  obtain ⟨j4, ej4, hf⟩ := Option.bind_eq_some_iff.mp hf
  obtain ⟨hij4, hlj4⟩ := ck_spec ej4
  refine Z.iast (j := j4) (n := 58) dX3_fall_57 rfl W2 hij4 hlj4 (by decide) W2s ?_
  have hz := Option.some.inj hf
  subst hz
  exact Z.vret hJ dX3_fall_58 rfl (Nat.le_refl _) (Nat.le_refl _) ⟨rfl, rfl⟩
def fX3_add (l1 : Int32) (l2 : Int32) (h : HT) : Option (Int32 × HT) :=
  Option.bind (ck 7 (h 1 0)) fun j1 =>
  Option.bind (ck 7 (h 1 0)) fun j2 =>
  some (h 1 0, hu (hu (hu (hu h 2 j1 l1) 3 j2 l2) 1 1 (((hu (hu h 2 j1 l1) 3 j2 l2) 1 1) ||| ((1 : Int32) <<< ((h 1 0) &&& 31)))) 1 0 (((hu (hu (hu h 2 j1 l1) 3 j2 l2) 1 1 (((hu (hu h 2 j1 l1) 3 j2 l2) 1 1) ||| ((1 : Int32) <<< ((h 1 0) &&& 31)))) 1 0) + (1 : Int32)))
set_option maxHeartbeats 4000000 in
theorem ctX3_add {g : GP} {a : Nat → Nat} {P : PT} {h : HT} {z : Int32 × HT} {l1 : Int32} {l2 : Int32} (hf : fX3_add l1 l2 h = some z) : Ct g 1 0 0 mX3_add [.ref (a 1), .int l1, .int l2] (WD g a h P) (PoI g a P z) := by
  refine Ct.of (by decide +kernel) (Nat.le_of_ble_eq_true rfl) fun J hJ => ?_
  show Z g mX3_add J 0 0 0 [some (.ref (a 1)), some (.int l1), some (.int l2), none] [] (WD g a h P)
  unfold fX3_add at hf
  refine Z.aload_n (n := 1) dX3_add_0 rfl rfl ?_
  refine Z.getf (n := 4) fX3_9 dX3_add_1 rfl W1 rfl ?_
  refine Z.istore_n (n := 5) dX3_add_4 rfl (by decide) rfl ?_
  refine Z.aload_n (n := 6) dX3_add_5 rfl rfl ?_
  refine Z.getf (n := 9) fX3_27 dX3_add_6 rfl W1 rfl ?_
  refine Z.iload_n (n := 10) dX3_add_9 rfl rfl ?_
  refine Z.iload_n (n := 11) dX3_add_10 rfl rfl ?_
  obtain ⟨j1, ej1, hf⟩ := Option.bind_eq_some_iff.mp hf
  obtain ⟨hij1, hlj1⟩ := ck_spec ej1
  refine Z.iast (j := j1) (n := 12) dX3_add_11 rfl W2 hij1 hlj1 (by decide) W2s ?_
  refine Z.aload_n (n := 13) dX3_add_12 rfl rfl ?_
  refine Z.getf (n := 16) fX3_31 dX3_add_13 rfl W1 rfl ?_
  refine Z.iload_n (n := 17) dX3_add_16 rfl rfl ?_
  refine Z.iload_n (n := 18) dX3_add_17 rfl rfl ?_
  obtain ⟨j2, ej2, hf⟩ := Option.bind_eq_some_iff.mp hf
  obtain ⟨hij2, hlj2⟩ := ck_spec ej2
  refine Z.iast (j := j2) (n := 19) dX3_add_18 rfl W3 hij2 hlj2 (by decide) W3s ?_
  refine Z.aload_n (n := 20) dX3_add_19 rfl rfl ?_
  refine Z.dup (n := 21) dX3_add_20 rfl rfl ?_
  refine Z.getf (n := 24) fX3_15 dX3_add_21 rfl W1 rfl ?_
  refine Z.iconst (n := 25) (v := 1) dX3_add_24 rfl (by decide +kernel) ?_
  refine Z.iload_n (n := 26) dX3_add_25 rfl rfl ?_
  refine Z.ishl (n := 27) dX3_add_26 rfl ?_
  refine Z.ior (n := 28) dX3_add_27 rfl ?_
  refine Z.putf (n := 31) pX3_15 dX3_add_28 rfl W1 (Nat.le_of_ble_eq_true rfl) rfl rfl W1s_1 ?_
  refine Z.aload_n (n := 32) dX3_add_31 rfl rfl ?_
  refine Z.dup (n := 33) dX3_add_32 rfl rfl ?_
  refine Z.getf (n := 36) fX3_9 dX3_add_33 rfl W1 rfl ?_
  refine Z.iconst (n := 37) (v := 1) dX3_add_36 rfl (by decide +kernel) ?_
  refine Z.iadd (n := 38) dX3_add_37 rfl ?_
  refine Z.putf (n := 41) pX3_9 dX3_add_38 rfl W1 (Nat.le_of_ble_eq_true rfl) rfl rfl W1s_0 ?_
  refine Z.iload_n (n := 42) dX3_add_41 rfl rfl ?_
  have hz := Option.some.inj hf
  subst hz
  exact Z.iret hJ dX3_add_42 rfl (Nat.le_refl _) (Nat.le_refl _) ⟨rfl, rfl⟩
