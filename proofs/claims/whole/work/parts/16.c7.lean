/-! walks, by program: 16.c7.lean.txt -/
theorem uS_X11_188_X5 {c : Nat} (hc : SCX5 c) : ∃ q : vw_C, vwCl[c]? = some q ∧ CU RX11 188 q.1 mX5_fight 3 := by
  rcases hc with rfl | rfl | rfl | rfl | rfl | rfl | rfl
  · exact ⟨_, rfl, uX11_188_X0⟩
  · exact ⟨_, rfl, uX11_188_X1⟩
  · exact ⟨_, rfl, uX11_188_X2⟩
  · exact ⟨_, rfl, uX11_188_X4⟩
  · exact ⟨_, rfl, uX11_188_X5⟩
  · exact ⟨_, rfl, uX11_188_X7⟩
  · exact ⟨_, rfl, uX11_188_X9⟩
def fX11_lead_52 (P : PT) (s0 : Int32) (h : HT) : Option (Int32 × HT) :=
  some (s0, h)
set_option maxHeartbeats 4000000 in
theorem zX11_lead_52 {g : GP} {a : Nat → Nat} {P : PT} {J : JT} {z : Int32 × HT} (hJ : JX g 5 0 0 (PoI g a P z) J) (hPo : PoolOK P) (s0 : Int32) (h : HT) (hf : fX11_lead_52 P s0 h = some z) : Z g mX11_lead J 0 0 52 [none, none, none, none, none, none] [.int s0] (WD g a h P) := by
  unfold fX11_lead_52 at hf
  have hz := Option.some.inj hf
  subst hz
  exact Z.iret hJ dX11_lead_52 rfl (Nat.le_refl _) (Nat.le_refl _) ⟨rfl, rfl⟩
def fX11_lead (P : PT) (l1 : Int32) (l2 : Int32) (l3 : Int32) (h : HT) : Option (Int32 × HT) :=
  Option.bind (fX3_standingAt l1 h) fun z1 =>
  onq (dq z1.1) (some ((-1), z1.2)) (fun t3 => Option.bind (P[t3]?) fun r4 => (Option.bind (fX11_pairRefusal l2 l3 z1.2) fun z5 =>
  if z5.1 = 0 then (Option.bind (fX5_fight r4 l2 l3 z5.2) fun z7 =>
  if z7.1 = 0 then (fX11_lead_52 P 0 z7.2)
  else (fX11_lead_52 P 1 z7.2))
  else (some (z5.1, z5.2))))
set_option maxHeartbeats 4000000 in
theorem ctX11_lead {g : GP} {a : Nat → Nat} {P : PT} {h : HT} {z : Int32 × HT} {l1 : Int32} {l2 : Int32} {l3 : Int32} (hPo : PoolOK P) (hf : fX11_lead P l1 l2 l3 h = some z) : Ct g 5 0 0 mX11_lead [.ref (a 0), .int l1, .int l2, .int l3] (WD g a h P) (PoI g a P z) := by
  refine Ct.of (by decide +kernel) (Nat.le_of_ble_eq_true rfl) fun J hJ => ?_
  show Z g mX11_lead J 0 0 0 [some (.ref (a 0)), some (.int l1), some (.int l2), some (.int l3), none, none] [] (WD g a h P)
  unfold fX11_lead at hf
  refine Z.aload_n (n := 1) dX11_lead_0 rfl rfl ?_
  refine Z.getf (n := 4) fX11_12 dX11_lead_1 rfl W0 rfl ?_
  refine Z.iload_n (n := 5) dX11_lead_4 rfl rfl ?_
  obtain ⟨z1, ez1, hf⟩ := Option.bind_eq_some_iff.mp hf
  refine Z.callV (n := 8) vX11_126 (ctX3_standingAt ez1) hJ.rm (Nat.le_of_ble_eq_true rfl) rfl rfl (Nat.le_refl _) (Nat.le_refl _) rfl W1 rfl rfl (Nat.le_of_ble_eq_true rfl) rfl dX11_lead_5 rfl (fun v w hw => ?_)
  obtain ⟨rfl, rfl⟩ := hw
  generalize hdo2 : dq z1.1 = o2 at hf ⊢
  cases o2 with
  | none =>
    replace hf := onq_none hf
    show Z _ _ _ _ _ _ _ [.null] _
    refine Z.astoreN (n := 10) dX11_lead_8 rfl (by decide) rfl ?_
    refine Z.aloadN (n := 12) dX11_lead_10 rfl rfl ?_
    refine Z.ifnonnullN (n := 15) dX11_lead_12 rfl ?_
    refine Z.iconst (n := 16) (v := -1) dX11_lead_15 rfl (by decide +kernel) ?_
    have hz := Option.some.inj hf
    subst hz
    exact Z.iret hJ dX11_lead_16 rfl (Nat.le_refl _) (Nat.le_refl _) ⟨rfl, rfl⟩
  | some t3 =>
    replace hf := onq_some hf
    obtain ⟨r4, er4, hf⟩ := Option.bind_eq_some_iff.mp hf
    show Z _ _ _ _ _ _ _ [.ref (a (102 + t3))] _
    refine Z.astore (n := 10) dX11_lead_8 rfl (by decide) rfl ?_
    refine Z.aload (n := 12) dX11_lead_10 rfl rfl ?_
    refine Z.ifnonnull (tgt := 17) dX11_lead_12 rfl ?_
    refine Z.aload_n (n := 18) dX11_lead_17 rfl rfl ?_
    refine Z.iload_n (n := 19) dX11_lead_18 rfl rfl ?_
    refine Z.iload_n (n := 20) dX11_lead_19 rfl rfl ?_
    obtain ⟨z5, ez5, hf⟩ := Option.bind_eq_some_iff.mp hf
    refine Z.callV (n := 23) vX11_133 (ctX11_pairRefusal ez5) hJ.rm (Nat.le_of_ble_eq_true rfl) rfl rfl (Nat.le_refl _) (Nat.le_refl _) rfl W0 rfl rfl (Nat.le_of_ble_eq_true rfl) rfl dX11_lead_20 rfl (fun v w hw => ?_)
    obtain ⟨rfl, rfl⟩ := hw
    show Z _ _ _ _ _ _ _ [.int z5.1] _
    refine Z.istore (n := 25) dX11_lead_23 rfl (by decide) rfl ?_
    refine Z.iload (n := 27) dX11_lead_25 rfl rfl ?_
    refine Z.if_eq (tgt := 33) (n := 30) dX11_lead_27 rfl rfl (fun c6 => ?_) (fun c6 => ?_)
    · rw [if_pos c6] at hf
      refine Z.aload (n := 35) dX11_lead_33 rfl rfl ?_
      refine Z.aload_n (n := 36) dX11_lead_35 rfl rfl ?_
      refine Z.getf (n := 39) fX11_12 dX11_lead_36 rfl W0 rfl ?_
      refine Z.iload_n (n := 40) dX11_lead_39 rfl rfl ?_
      refine Z.iload_n (n := 41) dX11_lead_40 rfl rfl ?_
      obtain ⟨z7, ez7, hf⟩ := Option.bind_eq_some_iff.mp hf
      obtain ⟨q9, hq9, hu9⟩ := uS_X11_188_X5 (hPo _ _ er4)
      refine Z.callU (n := 44) hu9 (ctX5_fight (102 + t3) (At.pool er4) (hPo _ _ er4) ez7) hJ.rm (Nat.le_of_ble_eq_true rfl) rfl rfl (Nat.le_refl _) (Nat.le_refl _) rfl ((At.pool er4) _) hq9 (Nat.le_of_ble_eq_true rfl) rfl dX11_lead_41 rfl (fun v w hw => ?_)
      obtain ⟨rfl, rfl⟩ := hw
      show Z _ _ _ _ _ _ _ [.int z7.1] _
      refine Z.if_eq (tgt := 51) (n := 47) dX11_lead_44 rfl rfl (fun c8 => ?_) (fun c8 => ?_)
      · rw [if_pos c8] at hf
        refine Z.iconst (n := 52) (v := 0) dX11_lead_51 rfl (by decide +kernel) ?_
        refine Z.fg [0, 1, 2, 3, 4, 5] ?_
        exact zX11_lead_52 hJ hPo _ _ hf
      · rw [if_neg c8] at hf
        refine Z.iconst (n := 48) (v := 1) dX11_lead_47 rfl (by decide +kernel) ?_
        refine Z.goto (tgt := 52) dX11_lead_48 rfl ?_
        refine Z.fg [0, 1, 2, 3, 4, 5] ?_
        exact zX11_lead_52 hJ hPo _ _ hf
    · rw [if_neg c6] at hf
      refine Z.iload (n := 32) dX11_lead_30 rfl rfl ?_
      have hz := Option.some.inj hf
      subst hz
      exact Z.iret hJ dX11_lead_32 rfl (Nat.le_refl _) (Nat.le_refl _) ⟨rfl, rfl⟩
def fX11_next_17 (P : PT) : Nat → SR → Int32 → HT → Option (Int32 × HT)
  | 0, _, _, _ => none
  | n + 1, r2, l3, h =>
  if 20 ≤ l3 then (some (20, h))
  else (Option.bind (fX5_firstWar r2 h) fun z6 =>
  if 0 ≤ z6.1 then (Option.bind (fX5_fight r2 (z6.1 / (10 : Int32)) (z6.1 - z6.1 / (10 : Int32) * (10 : Int32)) z6.2) fun z8 =>
  fX11_next_17 P  n r2 (l3 + 1) z8.2)
  else (some (l3, z6.2)))
set_option maxHeartbeats 4000000 in
theorem zX11_next_17 {g : GP} {a : Nat → Nat} {P : PT} {J : JT} {z : Int32 × HT} (hJ : JX g 6 0 0 (PoI g a P z) J) (hPo : PoolOK P) : ∀ (n : Nat) (r2 : SR) (l3 : Int32) (h : HT) (k2 : Nat) (he2 : At g a P k2 r2) (hc2 : SCX5 r2.1), fX11_next_17 P n r2 l3 h = some z → Z g mX11_next J 0 0 17 [some (.ref (a 0)), none, some (.ref (a k2)), some (.int l3), none] [] (WD g a h P) := by
  intro n
  induction n with
  | zero =>
    intro _ _ _ _ _ _ hf
    cases hf
  | succ n ih =>
    intro r2 l3 h k2 he2 hc2 hf
    unfold fX11_next_17 at hf
    refine Z.iload_n (n := 18) dX11_next_17 rfl rfl ?_
    refine Z.bipush (n := 20) (v := 20) dX11_next_18 rfl (by decide +kernel) ?_
    refine Z.icmp_ge (tgt := 65) (n := 23) dX11_next_20 rfl rfl (fun c5 => ?_) (fun c5 => ?_)
    · rw [if_pos c5] at hf
      refine Z.bipush (n := 67) (v := 20) dX11_next_65 rfl (by decide +kernel) ?_
      have hz := Option.some.inj hf
      subst hz
      exact Z.iret hJ dX11_next_67 rfl (Nat.le_refl _) (Nat.le_refl _) ⟨rfl, rfl⟩
    · rw [if_neg c5] at hf
      refine Z.aload_n (n := 24) dX11_next_23 rfl rfl ?_
      refine Z.aload_n (n := 25) dX11_next_24 rfl rfl ?_
      refine Z.getf (n := 28) fX11_12 dX11_next_25 rfl W0 rfl ?_
      obtain ⟨z6, ez6, hf⟩ := Option.bind_eq_some_iff.mp hf
      obtain ⟨q9, hq9, hu9⟩ := uS_X11_160_X5 hc2
      refine Z.callU (n := 31) hu9 (ctX5_firstWar k2 he2 hc2 ez6) hJ.rm (Nat.le_of_ble_eq_true rfl) rfl rfl (Nat.le_refl _) (Nat.le_refl _) rfl (he2 _) hq9 (Nat.le_of_ble_eq_true rfl) rfl dX11_next_28 rfl (fun v w hw => ?_)
      obtain ⟨rfl, rfl⟩ := hw
      show Z _ _ _ _ _ _ _ [.int z6.1] _
      refine Z.istore (n := 33) dX11_next_31 rfl (by decide) rfl ?_
      refine Z.iload (n := 35) dX11_next_33 rfl rfl ?_
      refine Z.if_ge (tgt := 40) (n := 38) dX11_next_35 rfl rfl (fun c7 => ?_) (fun c7 => ?_)
      · rw [if_pos c7] at hf
        refine Z.aload_n (n := 41) dX11_next_40 rfl rfl ?_
        refine Z.aload_n (n := 42) dX11_next_41 rfl rfl ?_
        refine Z.getf (n := 45) fX11_12 dX11_next_42 rfl W0 rfl ?_
        refine Z.iload (n := 47) dX11_next_45 rfl rfl ?_
        refine Z.bipush (n := 49) (v := 10) dX11_next_47 rfl (by decide +kernel) ?_
        refine Z.idiv (n := 50) dX11_next_49 rfl (by decide +kernel) ?_
        refine Z.iload (n := 52) dX11_next_50 rfl rfl ?_
        refine Z.bipush (n := 54) (v := 10) dX11_next_52 rfl (by decide +kernel) ?_
        refine Z.irem (n := 55) dX11_next_54 rfl (by decide +kernel) ?_
        obtain ⟨z8, ez8, hf⟩ := Option.bind_eq_some_iff.mp hf
        obtain ⟨q9, hq9, hu9⟩ := uS_X11_188_X5 hc2
        refine Z.callU (n := 58) hu9 (ctX5_fight k2 he2 hc2 ez8) hJ.rm (Nat.le_of_ble_eq_true rfl) rfl rfl (Nat.le_refl _) (Nat.le_refl _) rfl (he2 _) hq9 (Nat.le_of_ble_eq_true rfl) rfl dX11_next_55 rfl (fun v w hw => ?_)
        obtain ⟨rfl, rfl⟩ := hw
        show Z _ _ _ _ _ _ _ [.int z8.1] _
        refine Z.pop (n := 59) dX11_next_58 rfl rfl ?_
        refine Z.iinc (n := 62) (v := l3 + 1) dX11_next_59 rfl rfl rfl (by decide) rfl ?_
        refine Z.goto (tgt := 17) dX11_next_62 rfl ?_
        refine Z.fg [4] ?_
        exact ih _ _ _ k2 he2 hc2 hf
      · rw [if_neg c7] at hf
        refine Z.iload_n (n := 39) dX11_next_38 rfl rfl ?_
        have hz := Option.some.inj hf
        subst hz
        exact Z.iret hJ dX11_next_39 rfl (Nat.le_refl _) (Nat.le_refl _) ⟨rfl, rfl⟩
def fX11_next (P : PT) (l1 : Int32) (h : HT) : Option (Int32 × HT) :=
  Option.bind (fX3_standingAt l1 h) fun z1 =>
  onq (dq z1.1) (some ((-1), z1.2)) (fun t3 => Option.bind (P[t3]?) fun r4 => (fX11_next_17 P 1000 r4 0 z1.2))
set_option maxHeartbeats 4000000 in
theorem ctX11_next {g : GP} {a : Nat → Nat} {P : PT} {h : HT} {z : Int32 × HT} {l1 : Int32} (hPo : PoolOK P) (hf : fX11_next P l1 h = some z) : Ct g 6 0 0 mX11_next [.ref (a 0), .int l1] (WD g a h P) (PoI g a P z) := by
  refine Ct.of (by decide +kernel) (Nat.le_of_ble_eq_true rfl) fun J hJ => ?_
  show Z g mX11_next J 0 0 0 [some (.ref (a 0)), some (.int l1), none, none, none] [] (WD g a h P)
  unfold fX11_next at hf
  refine Z.aload_n (n := 1) dX11_next_0 rfl rfl ?_
  refine Z.getf (n := 4) fX11_12 dX11_next_1 rfl W0 rfl ?_
  refine Z.iload_n (n := 5) dX11_next_4 rfl rfl ?_
  obtain ⟨z1, ez1, hf⟩ := Option.bind_eq_some_iff.mp hf
  refine Z.callV (n := 8) vX11_126 (ctX3_standingAt ez1) hJ.rm (Nat.le_of_ble_eq_true rfl) rfl rfl (Nat.le_refl _) (Nat.le_refl _) rfl W1 rfl rfl (Nat.le_of_ble_eq_true rfl) rfl dX11_next_5 rfl (fun v w hw => ?_)
  obtain ⟨rfl, rfl⟩ := hw
  generalize hdo2 : dq z1.1 = o2 at hf ⊢
  cases o2 with
  | none =>
    replace hf := onq_none hf
    show Z _ _ _ _ _ _ _ [.null] _
    refine Z.astore_nN (n := 9) dX11_next_8 rfl (by decide) rfl ?_
    refine Z.aload_nN (n := 10) dX11_next_9 rfl rfl ?_
    refine Z.ifnonnullN (n := 13) dX11_next_10 rfl ?_
    refine Z.iconst (n := 14) (v := -1) dX11_next_13 rfl (by decide +kernel) ?_
    have hz := Option.some.inj hf
    subst hz
    exact Z.iret hJ dX11_next_14 rfl (Nat.le_refl _) (Nat.le_refl _) ⟨rfl, rfl⟩
  | some t3 =>
    replace hf := onq_some hf
    obtain ⟨r4, er4, hf⟩ := Option.bind_eq_some_iff.mp hf
    show Z _ _ _ _ _ _ _ [.ref (a (102 + t3))] _
    refine Z.astore_n (n := 9) dX11_next_8 rfl (by decide) rfl ?_
    refine Z.aload_n (n := 10) dX11_next_9 rfl rfl ?_
    refine Z.ifnonnull (tgt := 15) dX11_next_10 rfl ?_
    refine Z.iconst (n := 16) (v := 0) dX11_next_15 rfl (by decide +kernel) ?_
    refine Z.istore_n (n := 17) dX11_next_16 rfl (by decide) rfl ?_
    refine Z.fg [1] ?_
    exact zX11_next_17 hJ hPo _ _ _ _ (102 + t3) (At.pool er4) (hPo _ _ er4) hf
def fX11_armedInRound_56 (r : SR) (k4_ : Int32 → Int32 → HT → Option (Int32 × HT)) (l2 : Int32) (l3 : Int32) (h : HT) : Option (Int32 × HT) :=
  k4_ l2 (l3 + 1) h
set_option maxHeartbeats 4000000 in
theorem zX11_armedInRound_56 {g : GP} {a : Nat → Nat} {P : PT} {J : JT} {z : Int32 × HT} {r : SR} {k4_ : Int32 → Int32 → HT → Option (Int32 × HT)} (hJ : JX g 6 0 0 (PoI g a P z) J) (k : Nat) (he : At g a P k r) (hc : SCX5 r.1) (hk4 : ∀ (l2 : Int32) (l3 : Int32) (h : HT), k4_ l2 l3 h = some z → Z g mX11_armedInRound J 0 0 4 [some (.ref (a 0)), some (.ref (a k)), some (.int l2), some (.int l3)] [] (WD g a h P)) (l2 : Int32) (l3 : Int32) (h : HT) (hf : fX11_armedInRound_56 r k4_ l2 l3 h = some z) : Z g mX11_armedInRound J 0 0 56 [some (.ref (a 0)), some (.ref (a k)), some (.int l2), some (.int l3)] [] (WD g a h P) := by
  unfold fX11_armedInRound_56 at hf
  refine Z.iinc (n := 59) (v := l3 + 1) dX11_armedInRound_56 rfl rfl rfl (by decide) rfl ?_
  refine Z.goto (tgt := 4) dX11_armedInRound_59 rfl ?_
  exact hk4 _ _ _ hf
def fX11_armedInRound_4 (r : SR) : Nat → Int32 → Int32 → HT → Option (Int32 × HT)
  | 0, _, _, _ => none
  | n + 1, l2, l3, h =>
  if (h 1 0) ≤ l3 then (Option.bind (cb l2) fun u2 =>
  some (l2, h))
  else (Option.bind (ck 7 l3) fun j3 =>
  if 99 ≤ (h 2 j3) then (fX11_armedInRound_56 r (fX11_armedInRound_4 r  n) l2 l3 h)
  else (Option.bind (fX5_hunters r l3 h) fun z5 =>
  if z5.1 = 0 then (fX11_armedInRound_56 r (fX11_armedInRound_4 r  n) l2 l3 z5.2)
  else (Option.bind (ck 7 l3) fun j7 =>
  Option.bind (ck 7 l3) fun j8 =>
  fX11_armedInRound_56 r (fX11_armedInRound_4 r  n) 1 l3 (hu z5.2 2 j8 ((z5.2 2 j7) + (1 : Int32))))))
set_option maxHeartbeats 4000000 in
theorem zX11_armedInRound_4 {g : GP} {a : Nat → Nat} {P : PT} {J : JT} {z : Int32 × HT} {r : SR} (hJ : JX g 6 0 0 (PoI g a P z) J) (k : Nat) (he : At g a P k r) (hc : SCX5 r.1) : ∀ (n : Nat) (l2 : Int32) (l3 : Int32) (h : HT), fX11_armedInRound_4 r n l2 l3 h = some z → Z g mX11_armedInRound J 0 0 4 [some (.ref (a 0)), some (.ref (a k)), some (.int l2), some (.int l3)] [] (WD g a h P) := by
  intro n
  induction n with
  | zero =>
    intro _ _ _ hf
    cases hf
  | succ n ih =>
    intro l2 l3 h hf
    unfold fX11_armedInRound_4 at hf
    refine Z.iload_n (n := 5) dX11_armedInRound_4 rfl rfl ?_
    refine Z.aload_n (n := 6) dX11_armedInRound_5 rfl rfl ?_
    refine Z.getf (n := 9) fX11_12 dX11_armedInRound_6 rfl W0 rfl ?_
    refine Z.getf (n := 12) fX11_50 dX11_armedInRound_9 rfl W1 rfl ?_
    refine Z.icmp_ge (tgt := 62) (n := 15) dX11_armedInRound_12 rfl rfl (fun c1 => ?_) (fun c1 => ?_)
    · rw [if_pos c1] at hf
      refine Z.iload_n (n := 63) dX11_armedInRound_62 rfl rfl ?_
      obtain ⟨u2, eu2, hf⟩ := Option.bind_eq_some_iff.mp hf
      have hz := Option.some.inj hf
      subst hz
      exact Z.zret hJ dX11_armedInRound_63 rfl (cb_nar eu2) (Nat.le_refl _) (Nat.le_refl _) ⟨rfl, rfl⟩
    · rw [if_neg c1] at hf
      refine Z.aload_n (n := 16) dX11_armedInRound_15 rfl rfl ?_
      refine Z.getf (n := 19) fX11_12 dX11_armedInRound_16 rfl W0 rfl ?_
      refine Z.getf (n := 22) fX11_62 dX11_armedInRound_19 rfl W1 rfl ?_
      refine Z.iload_n (n := 23) dX11_armedInRound_22 rfl rfl ?_
      obtain ⟨j3, ej3, hf⟩ := Option.bind_eq_some_iff.mp hf
      obtain ⟨hij3, hlj3⟩ := ck_spec ej3
      refine Z.iald (j := j3) (n := 24) dX11_armedInRound_23 rfl W2 hij3 hlj3 (by decide) ?_
      refine Z.bipush (n := 26) (v := 99) dX11_armedInRound_24 rfl (by decide +kernel) ?_
      refine Z.icmp_ge (tgt := 56) (n := 29) dX11_armedInRound_26 rfl rfl (fun c4 => ?_) (fun c4 => ?_)
      · rw [if_pos c4] at hf
        exact zX11_armedInRound_56 hJ k he hc ih _ _ _ hf
      · rw [if_neg c4] at hf
        refine Z.aload_n (n := 30) dX11_armedInRound_29 rfl rfl ?_
        refine Z.aload_n (n := 31) dX11_armedInRound_30 rfl rfl ?_
        refine Z.getf (n := 34) fX11_12 dX11_armedInRound_31 rfl W0 rfl ?_
        refine Z.iload_n (n := 35) dX11_armedInRound_34 rfl rfl ?_
        obtain ⟨z5, ez5, hf⟩ := Option.bind_eq_some_iff.mp hf
        obtain ⟨q9, hq9, hu9⟩ := uS_X11_157_X5 hc
        refine Z.callU (n := 38) hu9 (ctX5_hunters k he hc ez5) hJ.rm (Nat.le_of_ble_eq_true rfl) rfl rfl (Nat.le_refl _) (Nat.le_refl _) rfl (he _) hq9 (Nat.le_of_ble_eq_true rfl) rfl dX11_armedInRound_35 rfl (fun v w hw => ?_)
        obtain ⟨rfl, rfl⟩ := hw
        show Z _ _ _ _ _ _ _ [.int z5.1] _
        refine Z.if_eq (tgt := 56) (n := 41) dX11_armedInRound_38 rfl rfl (fun c6 => ?_) (fun c6 => ?_)
        · rw [if_pos c6] at hf
          exact zX11_armedInRound_56 hJ k he hc ih _ _ _ hf
        · rw [if_neg c6] at hf
          refine Z.aload_n (n := 42) dX11_armedInRound_41 rfl rfl ?_
          refine Z.getf (n := 45) fX11_12 dX11_armedInRound_42 rfl W0 rfl ?_
          refine Z.getf (n := 48) fX11_62 dX11_armedInRound_45 rfl W1 rfl ?_
          refine Z.iload_n (n := 49) dX11_armedInRound_48 rfl rfl ?_
          refine Z.dup2 (n := 50) dX11_armedInRound_49 rfl rfl rfl ?_
          obtain ⟨j7, ej7, hf⟩ := Option.bind_eq_some_iff.mp hf
          obtain ⟨hij7, hlj7⟩ := ck_spec ej7
          refine Z.iald (j := j7) (n := 51) dX11_armedInRound_50 rfl W2 hij7 hlj7 (by decide) ?_
          refine Z.iconst (n := 52) (v := 1) dX11_armedInRound_51 rfl (by decide +kernel) ?_
          refine Z.iadd (n := 53) dX11_armedInRound_52 rfl ?_
          obtain ⟨j8, ej8, hf⟩ := Option.bind_eq_some_iff.mp hf
          obtain ⟨hij8, hlj8⟩ := ck_spec ej8
          refine Z.iast (j := j8) (n := 54) dX11_armedInRound_53 rfl W2 hij8 hlj8 (by decide) W2s ?_
          refine Z.iconst (n := 55) (v := 1) dX11_armedInRound_54 rfl (by decide +kernel) ?_
          refine Z.istore_n (n := 56) dX11_armedInRound_55 rfl (by decide) rfl ?_
          exact zX11_armedInRound_56 hJ k he hc ih _ _ _ hf
def fX11_armedInRound (r : SR) (h : HT) : Option (Int32 × HT) :=
  fX11_armedInRound_4 r 1000 0 0 h
set_option maxHeartbeats 4000000 in
theorem ctX11_armedInRound {g : GP} {a : Nat → Nat} {P : PT} {h : HT} {z : Int32 × HT} {r : SR} (k : Nat) (he : At g a P k r) (hc : SCX5 r.1) (hf : fX11_armedInRound r h = some z) : Ct g 6 0 0 mX11_armedInRound [.ref (a 0), .ref (a k)] (WD g a h P) (PoI g a P z) := by
  refine Ct.of (by decide +kernel) (Nat.le_of_ble_eq_true rfl) fun J hJ => ?_
  show Z g mX11_armedInRound J 0 0 0 [some (.ref (a 0)), some (.ref (a k)), none, none] [] (WD g a h P)
  unfold fX11_armedInRound at hf
  refine Z.iconst (n := 1) (v := 0) dX11_armedInRound_0 rfl (by decide +kernel) ?_
  refine Z.istore_n (n := 2) dX11_armedInRound_1 rfl (by decide) rfl ?_
  refine Z.iconst (n := 3) (v := 0) dX11_armedInRound_2 rfl (by decide +kernel) ?_
  refine Z.istore_n (n := 4) dX11_armedInRound_3 rfl (by decide) rfl ?_
  exact zX11_armedInRound_4 hJ k he hc _ _ _ _ hf
def fX11_race_17 (P : PT) : Nat → SR → Int32 → HT → Option (Int32 × HT)
  | 0, _, _, _ => none
  | n + 1, r2, l3, h =>
  if 30 ≤ l3 then (some (30, h))
  else (Option.bind (fX11_armedInRound r2 h) fun z6 =>
  if z6.1 = 0 then (some (l3, z6.2))
  else (fX11_race_17 P  n r2 (l3 + 1) z6.2))
set_option maxHeartbeats 4000000 in
theorem zX11_race_17 {g : GP} {a : Nat → Nat} {P : PT} {J : JT} {z : Int32 × HT} (hJ : JX g 7 0 0 (PoI g a P z) J) (hPo : PoolOK P) : ∀ (n : Nat) (r2 : SR) (l3 : Int32) (h : HT) (k2 : Nat) (he2 : At g a P k2 r2) (hc2 : SCX5 r2.1), fX11_race_17 P n r2 l3 h = some z → Z g mX11_race J 0 0 17 [some (.ref (a 0)), none, some (.ref (a k2)), some (.int l3)] [] (WD g a h P) := by
  intro n
  induction n with
  | zero =>
    intro _ _ _ _ _ _ hf
    cases hf
  | succ n ih =>
    intro r2 l3 h k2 he2 hc2 hf
    unfold fX11_race_17 at hf
    refine Z.iload_n (n := 18) dX11_race_17 rfl rfl ?_
    refine Z.bipush (n := 20) (v := 30) dX11_race_18 rfl (by decide +kernel) ?_
    refine Z.icmp_ge (tgt := 39) (n := 23) dX11_race_20 rfl rfl (fun c5 => ?_) (fun c5 => ?_)
    · rw [if_pos c5] at hf
      refine Z.bipush (n := 41) (v := 30) dX11_race_39 rfl (by decide +kernel) ?_
      have hz := Option.some.inj hf
      subst hz
      exact Z.iret hJ dX11_race_41 rfl (Nat.le_refl _) (Nat.le_refl _) ⟨rfl, rfl⟩
    · rw [if_neg c5] at hf
      refine Z.aload_n (n := 24) dX11_race_23 rfl rfl ?_
      refine Z.aload_n (n := 25) dX11_race_24 rfl rfl ?_
      obtain ⟨z6, ez6, hf⟩ := Option.bind_eq_some_iff.mp hf
      refine Z.callV (n := 28) vX11_195 (ctX11_armedInRound k2 he2 hc2 ez6) hJ.rm (Nat.le_of_ble_eq_true rfl) rfl rfl (Nat.le_refl _) (Nat.le_refl _) rfl W0 rfl rfl (Nat.le_of_ble_eq_true rfl) rfl dX11_race_25 rfl (fun v w hw => ?_)
      obtain ⟨rfl, rfl⟩ := hw
      show Z _ _ _ _ _ _ _ [.int z6.1] _
      refine Z.if_ne (tgt := 33) (n := 31) dX11_race_28 rfl rfl (fun c7 => ?_) (fun c7 => ?_)
      · rw [if_neg c7] at hf
        refine Z.iinc (n := 36) (v := l3 + 1) dX11_race_33 rfl rfl rfl (by decide) rfl ?_
        refine Z.goto (tgt := 17) dX11_race_36 rfl ?_
        exact ih _ _ _ k2 he2 hc2 hf
      · rw [if_pos c7] at hf
        refine Z.iload_n (n := 32) dX11_race_31 rfl rfl ?_
        have hz := Option.some.inj hf
        subst hz
        exact Z.iret hJ dX11_race_32 rfl (Nat.le_refl _) (Nat.le_refl _) ⟨rfl, rfl⟩
def fX11_race (P : PT) (l1 : Int32) (h : HT) : Option (Int32 × HT) :=
  Option.bind (fX3_standingAt l1 h) fun z1 =>
  onq (dq z1.1) (some ((-1), z1.2)) (fun t3 => Option.bind (P[t3]?) fun r4 => (fX11_race_17 P 1000 r4 0 z1.2))
set_option maxHeartbeats 4000000 in
theorem ctX11_race {g : GP} {a : Nat → Nat} {P : PT} {h : HT} {z : Int32 × HT} {l1 : Int32} (hPo : PoolOK P) (hf : fX11_race P l1 h = some z) : Ct g 7 0 0 mX11_race [.ref (a 0), .int l1] (WD g a h P) (PoI g a P z) := by
  refine Ct.of (by decide +kernel) (Nat.le_of_ble_eq_true rfl) fun J hJ => ?_
  show Z g mX11_race J 0 0 0 [some (.ref (a 0)), some (.int l1), none, none] [] (WD g a h P)
  unfold fX11_race at hf
  refine Z.aload_n (n := 1) dX11_race_0 rfl rfl ?_
  refine Z.getf (n := 4) fX11_12 dX11_race_1 rfl W0 rfl ?_
  refine Z.iload_n (n := 5) dX11_race_4 rfl rfl ?_
  obtain ⟨z1, ez1, hf⟩ := Option.bind_eq_some_iff.mp hf
  refine Z.callV (n := 8) vX11_126 (ctX3_standingAt ez1) hJ.rm (Nat.le_of_ble_eq_true rfl) rfl rfl (Nat.le_refl _) (Nat.le_refl _) rfl W1 rfl rfl (Nat.le_of_ble_eq_true rfl) rfl dX11_race_5 rfl (fun v w hw => ?_)
  obtain ⟨rfl, rfl⟩ := hw
  generalize hdo2 : dq z1.1 = o2 at hf ⊢
  cases o2 with
  | none =>
    replace hf := onq_none hf
    show Z _ _ _ _ _ _ _ [.null] _
    refine Z.astore_nN (n := 9) dX11_race_8 rfl (by decide) rfl ?_
    refine Z.aload_nN (n := 10) dX11_race_9 rfl rfl ?_
    refine Z.ifnonnullN (n := 13) dX11_race_10 rfl ?_
    refine Z.iconst (n := 14) (v := -1) dX11_race_13 rfl (by decide +kernel) ?_
    have hz := Option.some.inj hf
    subst hz
    exact Z.iret hJ dX11_race_14 rfl (Nat.le_refl _) (Nat.le_refl _) ⟨rfl, rfl⟩
  | some t3 =>
    replace hf := onq_some hf
    obtain ⟨r4, er4, hf⟩ := Option.bind_eq_some_iff.mp hf
    show Z _ _ _ _ _ _ _ [.ref (a (102 + t3))] _
    refine Z.astore_n (n := 9) dX11_race_8 rfl (by decide) rfl ?_
    refine Z.aload_n (n := 10) dX11_race_9 rfl rfl ?_
    refine Z.ifnonnull (tgt := 15) dX11_race_10 rfl ?_
    refine Z.iconst (n := 16) (v := 0) dX11_race_15 rfl (by decide +kernel) ?_
    refine Z.istore_n (n := 17) dX11_race_16 rfl (by decide) rfl ?_
    refine Z.fg [1] ?_
    exact zX11_race_17 hJ hPo _ _ _ _ (102 + t3) (At.pool er4) (hPo _ _ er4) hf
def fX11_upsetBy_99 (r : SR) (k2_ : Int32 → Int32 → HT → Option (Int32 × HT)) (l2 : Int32) (l3 : Int32) (h : HT) : Option (Int32 × HT) :=
  k2_ l2 (l3 + 1) h
set_option maxHeartbeats 4000000 in
theorem zX11_upsetBy_99 {g : GP} {a : Nat → Nat} {P : PT} {J : JT} {z : Int32 × HT} {r : SR} {k2_ : Int32 → Int32 → HT → Option (Int32 × HT)} (hJ : JX g 6 0 0 (PoI g a P z) J) (k : Nat) (he : At g a P k r) (hc : SCX5 r.1) (hk2 : ∀ (l2 : Int32) (l3 : Int32) (h : HT), k2_ l2 l3 h = some z → Z g mX11_upsetBy J 0 0 2 [some (.ref (a 0)), some (.ref (a k)), some (.int l2), some (.int l3), none, none] [] (WD g a h P)) (l2 : Int32) (l3 : Int32) (h : HT) (hf : fX11_upsetBy_99 r k2_ l2 l3 h = some z) : Z g mX11_upsetBy J 0 0 99 [some (.ref (a 0)), some (.ref (a k)), some (.int l2), some (.int l3), none, none] [] (WD g a h P) := by
  unfold fX11_upsetBy_99 at hf
  refine Z.iinc (n := 102) (v := l3 + 1) dX11_upsetBy_99 rfl rfl rfl (by decide) rfl ?_
  refine Z.goto (tgt := 2) dX11_upsetBy_102 rfl ?_
  exact hk2 _ _ _ hf
def fX11_upsetBy_79 (r : SR) (k2_ : Int32 → Int32 → HT → Option (Int32 × HT)) (l2 : Int32) (l3 : Int32) (l4 : Int32) (s0 : Int32) (h : HT) : Option (Int32 × HT) :=
  Option.bind (ck 7 l3) fun j10 =>
  if s0 = 0 then (fX11_upsetBy_99 r k2_ l2 l3 (hu h 2 j10 l4))
  else (some (l3, hu h 2 j10 l4))
set_option maxHeartbeats 4000000 in
theorem zX11_upsetBy_79 {g : GP} {a : Nat → Nat} {P : PT} {J : JT} {z : Int32 × HT} {r : SR} {k2_ : Int32 → Int32 → HT → Option (Int32 × HT)} (hJ : JX g 6 0 0 (PoI g a P z) J) (k : Nat) (he : At g a P k r) (hc : SCX5 r.1) (hk2 : ∀ (l2 : Int32) (l3 : Int32) (h : HT), k2_ l2 l3 h = some z → Z g mX11_upsetBy J 0 0 2 [some (.ref (a 0)), some (.ref (a k)), some (.int l2), some (.int l3), none, none] [] (WD g a h P)) (l2 : Int32) (l3 : Int32) (l4 : Int32) (s0 : Int32) (h : HT) (hf : fX11_upsetBy_79 r k2_ l2 l3 l4 s0 h = some z) : Z g mX11_upsetBy J 0 0 79 [some (.ref (a 0)), some (.ref (a k)), some (.int l2), some (.int l3), some (.int l4), none] [.int s0] (WD g a h P) := by
  unfold fX11_upsetBy_79 at hf
  refine Z.istore (n := 81) dX11_upsetBy_79 rfl (by decide) rfl ?_
  refine Z.aload_n (n := 82) dX11_upsetBy_81 rfl rfl ?_
  refine Z.getf (n := 85) fX11_12 dX11_upsetBy_82 rfl W0 rfl ?_
  refine Z.getf (n := 88) fX11_62 dX11_upsetBy_85 rfl W1 rfl ?_
  refine Z.iload_n (n := 89) dX11_upsetBy_88 rfl rfl ?_
  refine Z.iload (n := 91) dX11_upsetBy_89 rfl rfl ?_
  obtain ⟨j10, ej10, hf⟩ := Option.bind_eq_some_iff.mp hf
  obtain ⟨hij10, hlj10⟩ := ck_spec ej10
  refine Z.iast (j := j10) (n := 92) dX11_upsetBy_91 rfl W2 hij10 hlj10 (by decide) W2s ?_
  refine Z.iload (n := 94) dX11_upsetBy_92 rfl rfl ?_
  refine Z.if_eq (tgt := 99) (n := 97) dX11_upsetBy_94 rfl rfl (fun c11 => ?_) (fun c11 => ?_)
  · rw [if_pos c11] at hf
    refine Z.fg [4, 5] ?_
    exact zX11_upsetBy_99 hJ k he hc hk2 _ _ _ hf
  · rw [if_neg c11] at hf
    refine Z.iload_n (n := 98) dX11_upsetBy_97 rfl rfl ?_
    have hz := Option.some.inj hf
    subst hz
    exact Z.iret hJ dX11_upsetBy_98 rfl (Nat.le_refl _) (Nat.le_refl _) ⟨rfl, rfl⟩
def fX11_upsetBy_2 (r : SR) : Nat → Int32 → Int32 → HT → Option (Int32 × HT)
  | 0, _, _, _ => none
  | n + 1, l2, l3, h =>
  if (h 1 0) ≤ l3 then (some ((-5), h))
  else (Option.bind (ck 7 l3) fun j2 =>
  Option.bind (fX3_lives l3 h) fun z3 =>
  if z3.1 = 0 then (fX11_upsetBy_99 r (fX11_upsetBy_2 r  n) l2 l3 z3.2)
  else (Option.bind (fX11_outside ((h 2 j2) + l2) 99 z3.2) fun z5 =>
  if z5.1 = 0 then (Option.bind (ck 7 l3) fun j7 =>
  Option.bind (fX5_firstWar r (hu z5.2 2 j7 ((h 2 j2) + l2))) fun z8 =>
  if z8.1 < 0 then (fX11_upsetBy_79 r (fX11_upsetBy_2 r  n) l2 l3 (h 2 j2) 0 z8.2)
  else (fX11_upsetBy_79 r (fX11_upsetBy_2 r  n) l2 l3 (h 2 j2) 1 z8.2))
  else (fX11_upsetBy_99 r (fX11_upsetBy_2 r  n) l2 l3 z5.2)))
set_option maxHeartbeats 4000000 in
theorem zX11_upsetBy_2 {g : GP} {a : Nat → Nat} {P : PT} {J : JT} {z : Int32 × HT} {r : SR} (hJ : JX g 6 0 0 (PoI g a P z) J) (k : Nat) (he : At g a P k r) (hc : SCX5 r.1) : ∀ (n : Nat) (l2 : Int32) (l3 : Int32) (h : HT), fX11_upsetBy_2 r n l2 l3 h = some z → Z g mX11_upsetBy J 0 0 2 [some (.ref (a 0)), some (.ref (a k)), some (.int l2), some (.int l3), none, none] [] (WD g a h P) := by
  intro n
  induction n with
  | zero =>
    intro _ _ _ hf
    cases hf
  | succ n ih =>
    intro l2 l3 h hf
    unfold fX11_upsetBy_2 at hf
    refine Z.iload_n (n := 3) dX11_upsetBy_2 rfl rfl ?_
    refine Z.aload_n (n := 4) dX11_upsetBy_3 rfl rfl ?_
    refine Z.getf (n := 7) fX11_12 dX11_upsetBy_4 rfl W0 rfl ?_
    refine Z.getf (n := 10) fX11_50 dX11_upsetBy_7 rfl W1 rfl ?_
    refine Z.icmp_ge (tgt := 105) (n := 13) dX11_upsetBy_10 rfl rfl (fun c1 => ?_) (fun c1 => ?_)
    · rw [if_pos c1] at hf
      refine Z.bipush (n := 107) (v := -5) dX11_upsetBy_105 rfl (by decide +kernel) ?_
      have hz := Option.some.inj hf
      subst hz
      exact Z.iret hJ dX11_upsetBy_107 rfl (Nat.le_refl _) (Nat.le_refl _) ⟨rfl, rfl⟩
    · rw [if_neg c1] at hf
      refine Z.aload_n (n := 14) dX11_upsetBy_13 rfl rfl ?_
      refine Z.getf (n := 17) fX11_12 dX11_upsetBy_14 rfl W0 rfl ?_
      refine Z.getf (n := 20) fX11_62 dX11_upsetBy_17 rfl W1 rfl ?_
      refine Z.iload_n (n := 21) dX11_upsetBy_20 rfl rfl ?_
      obtain ⟨j2, ej2, hf⟩ := Option.bind_eq_some_iff.mp hf
      obtain ⟨hij2, hlj2⟩ := ck_spec ej2
      refine Z.iald (j := j2) (n := 22) dX11_upsetBy_21 rfl W2 hij2 hlj2 (by decide) ?_
      refine Z.istore (n := 24) dX11_upsetBy_22 rfl (by decide) rfl ?_
      refine Z.aload_n (n := 25) dX11_upsetBy_24 rfl rfl ?_
      refine Z.getf (n := 28) fX11_12 dX11_upsetBy_25 rfl W0 rfl ?_
      refine Z.iload_n (n := 29) dX11_upsetBy_28 rfl rfl ?_
      obtain ⟨z3, ez3, hf⟩ := Option.bind_eq_some_iff.mp hf
      refine Z.callV (n := 32) vX11_68 (ctX3_lives ez3) hJ.rm (Nat.le_of_ble_eq_true rfl) rfl rfl (Nat.le_refl _) (Nat.le_refl _) rfl W1 rfl rfl (Nat.le_of_ble_eq_true rfl) rfl dX11_upsetBy_29 rfl (fun v w hw => ?_)
      obtain ⟨rfl, rfl⟩ := hw
      show Z _ _ _ _ _ _ _ [.int z3.1] _
      refine Z.if_eq (tgt := 99) (n := 35) dX11_upsetBy_32 rfl rfl (fun c4 => ?_) (fun c4 => ?_)
      · rw [if_pos c4] at hf
        refine Z.fg [4] ?_
        exact zX11_upsetBy_99 hJ k he hc ih _ _ _ hf
      · rw [if_neg c4] at hf
        refine Z.iload (n := 37) dX11_upsetBy_35 rfl rfl ?_
        refine Z.iload_n (n := 38) dX11_upsetBy_37 rfl rfl ?_
        refine Z.iadd (n := 39) dX11_upsetBy_38 rfl ?_
        refine Z.bipush (n := 41) (v := 99) dX11_upsetBy_39 rfl (by decide +kernel) ?_
        obtain ⟨z5, ez5, hf⟩ := Option.bind_eq_some_iff.mp hf
        refine Z.callS (n := 44) vX11_46 (ctX11_outside ez5) hJ.rm (Nat.le_of_ble_eq_true rfl) rfl rfl (Nat.le_refl _) (Nat.le_refl _) rfl (Nat.le_of_ble_eq_true rfl) rfl dX11_upsetBy_41 rfl (fun v w hw => ?_)
        obtain ⟨rfl, rfl⟩ := hw
        show Z _ _ _ _ _ _ _ [.int z5.1] _
        refine Z.if_eq (tgt := 50) (n := 47) dX11_upsetBy_44 rfl rfl (fun c6 => ?_) (fun c6 => ?_)
        · rw [if_pos c6] at hf
          refine Z.aload_n (n := 51) dX11_upsetBy_50 rfl rfl ?_
          refine Z.getf (n := 54) fX11_12 dX11_upsetBy_51 rfl W0 rfl ?_
          refine Z.getf (n := 57) fX11_62 dX11_upsetBy_54 rfl W1 rfl ?_
          refine Z.iload_n (n := 58) dX11_upsetBy_57 rfl rfl ?_
          refine Z.iload (n := 60) dX11_upsetBy_58 rfl rfl ?_
          refine Z.iload_n (n := 61) dX11_upsetBy_60 rfl rfl ?_
          refine Z.iadd (n := 62) dX11_upsetBy_61 rfl ?_
          obtain ⟨j7, ej7, hf⟩ := Option.bind_eq_some_iff.mp hf
          obtain ⟨hij7, hlj7⟩ := ck_spec ej7
          refine Z.iast (j := j7) (n := 63) dX11_upsetBy_62 rfl W2 hij7 hlj7 (by decide) W2s ?_
          refine Z.aload_n (n := 64) dX11_upsetBy_63 rfl rfl ?_
          refine Z.aload_n (n := 65) dX11_upsetBy_64 rfl rfl ?_
          refine Z.getf (n := 68) fX11_12 dX11_upsetBy_65 rfl W0 rfl ?_
          obtain ⟨z8, ez8, hf⟩ := Option.bind_eq_some_iff.mp hf
          obtain ⟨q9, hq9, hu9⟩ := uS_X11_160_X5 hc
          refine Z.callU (n := 71) hu9 (ctX5_firstWar k he hc ez8) hJ.rm (Nat.le_of_ble_eq_true rfl) rfl rfl (Nat.le_refl _) (Nat.le_refl _) rfl (he _) hq9 (Nat.le_of_ble_eq_true rfl) rfl dX11_upsetBy_68 rfl (fun v w hw => ?_)
          obtain ⟨rfl, rfl⟩ := hw
          show Z _ _ _ _ _ _ _ [.int z8.1] _
          refine Z.if_lt (tgt := 78) (n := 74) dX11_upsetBy_71 rfl rfl (fun c9 => ?_) (fun c9 => ?_)
          · rw [if_pos c9] at hf
            refine Z.iconst (n := 79) (v := 0) dX11_upsetBy_78 rfl (by decide +kernel) ?_
            exact zX11_upsetBy_79 hJ k he hc ih _ _ _ _ _ hf
          · rw [if_neg c9] at hf
            refine Z.iconst (n := 75) (v := 1) dX11_upsetBy_74 rfl (by decide +kernel) ?_
            refine Z.goto (tgt := 79) dX11_upsetBy_75 rfl ?_
            exact zX11_upsetBy_79 hJ k he hc ih _ _ _ _ _ hf
        · rw [if_neg c6] at hf
          refine Z.goto (tgt := 99) dX11_upsetBy_47 rfl ?_
          refine Z.fg [4] ?_
          exact zX11_upsetBy_99 hJ k he hc ih _ _ _ hf
def fX11_upsetBy (r : SR) (l2 : Int32) (h : HT) : Option (Int32 × HT) :=
  fX11_upsetBy_2 r 1000 l2 0 h
set_option maxHeartbeats 4000000 in
theorem ctX11_upsetBy {g : GP} {a : Nat → Nat} {P : PT} {h : HT} {z : Int32 × HT} {r : SR} {l2 : Int32} (k : Nat) (he : At g a P k r) (hc : SCX5 r.1) (hf : fX11_upsetBy r l2 h = some z) : Ct g 6 0 0 mX11_upsetBy [.ref (a 0), .ref (a k), .int l2] (WD g a h P) (PoI g a P z) := by
  refine Ct.of (by decide +kernel) (Nat.le_of_ble_eq_true rfl) fun J hJ => ?_
  show Z g mX11_upsetBy J 0 0 0 [some (.ref (a 0)), some (.ref (a k)), some (.int l2), none, none, none] [] (WD g a h P)
  unfold fX11_upsetBy at hf
  refine Z.iconst (n := 1) (v := 0) dX11_upsetBy_0 rfl (by decide +kernel) ?_
  refine Z.istore_n (n := 2) dX11_upsetBy_1 rfl (by decide) rfl ?_
  exact zX11_upsetBy_2 hJ k he hc _ _ _ _ hf
def fX11_few_21 (P : PT) (h : HT) : Option (Int32 × HT) :=
  some ((-1), h)
set_option maxHeartbeats 4000000 in
theorem zX11_few_21 {g : GP} {a : Nat → Nat} {P : PT} {J : JT} {z : Int32 × HT} (hJ : JX g 7 0 0 (PoI g a P z) J) (hPo : PoolOK P) (h : HT) (hf : fX11_few_21 P h = some z) : Z g mX11_few J 0 0 21 [none, none, none, none, none, none] [] (WD g a h P) := by
  unfold fX11_few_21 at hf
  refine Z.iconst (n := 22) (v := -1) dX11_few_21 rfl (by decide +kernel) ?_
  have hz := Option.some.inj hf
  subst hz
  exact Z.iret hJ dX11_few_22 rfl (Nat.le_refl _) (Nat.le_refl _) ⟨rfl, rfl⟩
def fX11_few_117 (P : PT) (s0 : Int32) (h : HT) : Option (Int32 × HT) :=
  some (s0, h)
set_option maxHeartbeats 4000000 in
theorem zX11_few_117 {g : GP} {a : Nat → Nat} {P : PT} {J : JT} {z : Int32 × HT} (hJ : JX g 7 0 0 (PoI g a P z) J) (hPo : PoolOK P) (s0 : Int32) (h : HT) (hf : fX11_few_117 P s0 h = some z) : Z g mX11_few J 0 0 117 [none, none, none, none, none, none] [.int s0] (WD g a h P) := by
  unfold fX11_few_117 at hf
  have hz := Option.some.inj hf
  subst hz
  exact Z.iret hJ dX11_few_117 rfl (Nat.le_refl _) (Nat.le_refl _) ⟨rfl, rfl⟩
def fX11_few_100 (P : PT) (k40_ : Int32 → SR → Int32 → HT → Option (Int32 × HT)) (s0 : Int32) (h : HT) : Option (Int32 × HT) :=
  some (s0, h)
set_option maxHeartbeats 4000000 in
theorem zX11_few_100 {g : GP} {a : Nat → Nat} {P : PT} {J : JT} {z : Int32 × HT} {k40_ : Int32 → SR → Int32 → HT → Option (Int32 × HT)} (hJ : JX g 7 0 0 (PoI g a P z) J) (hPo : PoolOK P) (hk40 : ∀ (l2 : Int32) (r3 : SR) (l4 : Int32) (h : HT) (k3 : Nat) (he3 : At g a P k3 r3) (hc3 : SCX5 r3.1), k40_ l2 r3 l4 h = some z → Z g mX11_few J 0 0 40 [some (.ref (a 0)), none, some (.int l2), some (.ref (a k3)), some (.int l4), none] [] (WD g a h P)) (s0 : Int32) (h : HT) (hf : fX11_few_100 P k40_ s0 h = some z) : Z g mX11_few J 0 0 100 [none, none, none, none, none, none] [.int s0] (WD g a h P) := by
  unfold fX11_few_100 at hf
  have hz := Option.some.inj hf
  subst hz
  exact Z.iret hJ dX11_few_100 rfl (Nat.le_refl _) (Nat.le_refl _) ⟨rfl, rfl⟩
def fX11_few_74 (P : PT) (k40_ : Int32 → SR → Int32 → HT → Option (Int32 × HT)) (s0 : Int32) (h : HT) : Option (Int32 × HT) :=
  some (s0, h)
set_option maxHeartbeats 4000000 in
theorem zX11_few_74 {g : GP} {a : Nat → Nat} {P : PT} {J : JT} {z : Int32 × HT} {k40_ : Int32 → SR → Int32 → HT → Option (Int32 × HT)} (hJ : JX g 7 0 0 (PoI g a P z) J) (hPo : PoolOK P) (hk40 : ∀ (l2 : Int32) (r3 : SR) (l4 : Int32) (h : HT) (k3 : Nat) (he3 : At g a P k3 r3) (hc3 : SCX5 r3.1), k40_ l2 r3 l4 h = some z → Z g mX11_few J 0 0 40 [some (.ref (a 0)), none, some (.int l2), some (.ref (a k3)), some (.int l4), none] [] (WD g a h P)) (s0 : Int32) (h : HT) (hf : fX11_few_74 P k40_ s0 h = some z) : Z g mX11_few J 0 0 74 [none, none, none, none, none, none] [.int s0] (WD g a h P) := by
  unfold fX11_few_74 at hf
  have hz := Option.some.inj hf
  subst hz
  exact Z.iret hJ dX11_few_74 rfl (Nat.le_refl _) (Nat.le_refl _) ⟨rfl, rfl⟩
def fX11_few_40 (P : PT) : Nat → Int32 → SR → Int32 → HT → Option (Int32 × HT)
  | 0, _, _, _, _ => none
  | n + 1, l2, r3, l4, h =>
  if 30 < l4 then (if l2 = 0 then (fX11_few_117 P 0 h)
  else (fX11_few_117 P (-5) h))
  else (Option.bind (fX11_upsetBy r3 (-l4) h) fun z11 =>
  if z11.1 < 0 then (Option.bind (fX11_upsetBy r3 l4 z11.2) fun z13 =>
  if z13.1 < 0 then (fX11_few_40 P  n l2 r3 (l4 + 1) z13.2)
  else (if l2 = 0 then (fX11_few_100 P (fX11_few_40 P  n) l4 z13.2)
  else (fX11_few_100 P (fX11_few_40 P  n) z13.1 z13.2)))
  else (if l2 = 0 then (fX11_few_74 P (fX11_few_40 P  n) (-l4) z11.2)
  else (fX11_few_74 P (fX11_few_40 P  n) z11.1 z11.2)))
set_option maxHeartbeats 4000000 in
theorem zX11_few_40 {g : GP} {a : Nat → Nat} {P : PT} {J : JT} {z : Int32 × HT} (hJ : JX g 7 0 0 (PoI g a P z) J) (hPo : PoolOK P) : ∀ (n : Nat) (l2 : Int32) (r3 : SR) (l4 : Int32) (h : HT) (k3 : Nat) (he3 : At g a P k3 r3) (hc3 : SCX5 r3.1), fX11_few_40 P n l2 r3 l4 h = some z → Z g mX11_few J 0 0 40 [some (.ref (a 0)), none, some (.int l2), some (.ref (a k3)), some (.int l4), none] [] (WD g a h P) := by
  intro n
  induction n with
  | zero =>
    intro _ _ _ _ _ _ _ hf
    cases hf
  | succ n ih =>
    intro l2 r3 l4 h k3 he3 hc3 hf
    unfold fX11_few_40 at hf
    refine Z.iload (n := 42) dX11_few_40 rfl rfl ?_
    refine Z.bipush (n := 44) (v := 30) dX11_few_42 rfl (by decide +kernel) ?_
    refine Z.icmp_gt (tgt := 107) (n := 47) dX11_few_44 rfl rfl (fun c9 => ?_) (fun c9 => ?_)
    · rw [if_pos c9] at hf
      refine Z.iload_n (n := 108) dX11_few_107 rfl rfl ?_
      refine Z.if_ne (tgt := 115) (n := 111) dX11_few_108 rfl rfl (fun c10 => ?_) (fun c10 => ?_)
      · rw [if_neg c10] at hf
        refine Z.bipush (n := 117) (v := -5) dX11_few_115 rfl (by decide +kernel) ?_
        refine Z.fg [0, 2, 3, 4] ?_
        exact zX11_few_117 hJ hPo _ _ hf
      · rw [if_pos c10] at hf
        refine Z.iconst (n := 112) (v := 0) dX11_few_111 rfl (by decide +kernel) ?_
        refine Z.goto (tgt := 117) dX11_few_112 rfl ?_
        refine Z.fg [0, 2, 3, 4] ?_
        exact zX11_few_117 hJ hPo _ _ hf
    · rw [if_neg c9] at hf
      refine Z.aload_n (n := 48) dX11_few_47 rfl rfl ?_
      refine Z.aload_n (n := 49) dX11_few_48 rfl rfl ?_
      refine Z.iload (n := 51) dX11_few_49 rfl rfl ?_
      refine Z.ineg (n := 52) dX11_few_51 rfl ?_
      obtain ⟨z11, ez11, hf⟩ := Option.bind_eq_some_iff.mp hf
      refine Z.callV (n := 55) vX11_199 (ctX11_upsetBy k3 he3 hc3 ez11) hJ.rm (Nat.le_of_ble_eq_true rfl) rfl rfl (Nat.le_refl _) (Nat.le_refl _) rfl W0 rfl rfl (Nat.le_of_ble_eq_true rfl) rfl dX11_few_52 rfl (fun v w hw => ?_)
      obtain ⟨rfl, rfl⟩ := hw
      show Z _ _ _ _ _ _ _ [.int z11.1] _
      refine Z.istore (n := 57) dX11_few_55 rfl (by decide) rfl ?_
      refine Z.iload (n := 59) dX11_few_57 rfl rfl ?_
      refine Z.if_lt (tgt := 75) (n := 62) dX11_few_59 rfl rfl (fun c12 => ?_) (fun c12 => ?_)
      · rw [if_pos c12] at hf
        refine Z.aload_n (n := 76) dX11_few_75 rfl rfl ?_
        refine Z.aload_n (n := 77) dX11_few_76 rfl rfl ?_
        refine Z.iload (n := 79) dX11_few_77 rfl rfl ?_
        obtain ⟨z13, ez13, hf⟩ := Option.bind_eq_some_iff.mp hf
        refine Z.callV (n := 82) vX11_199 (ctX11_upsetBy k3 he3 hc3 ez13) hJ.rm (Nat.le_of_ble_eq_true rfl) rfl rfl (Nat.le_refl _) (Nat.le_refl _) rfl W0 rfl rfl (Nat.le_of_ble_eq_true rfl) rfl dX11_few_79 rfl (fun v w hw => ?_)
        obtain ⟨rfl, rfl⟩ := hw
        show Z _ _ _ _ _ _ _ [.int z13.1] _
        refine Z.istore (n := 84) dX11_few_82 rfl (by decide) rfl ?_
        refine Z.iload (n := 86) dX11_few_84 rfl rfl ?_
        refine Z.if_lt (tgt := 101) (n := 89) dX11_few_86 rfl rfl (fun c14 => ?_) (fun c14 => ?_)
        · rw [if_pos c14] at hf
          refine Z.iinc (n := 104) (v := l4 + 1) dX11_few_101 rfl rfl rfl (by decide) rfl ?_
          refine Z.goto (tgt := 40) dX11_few_104 rfl ?_
          refine Z.fg [5] ?_
          exact ih _ _ _ _ k3 he3 hc3 hf
        · rw [if_neg c14] at hf
          refine Z.iload_n (n := 90) dX11_few_89 rfl rfl ?_
          refine Z.if_ne (tgt := 98) (n := 93) dX11_few_90 rfl rfl (fun c15 => ?_) (fun c15 => ?_)
          · rw [if_neg c15] at hf
            refine Z.iload (n := 100) dX11_few_98 rfl rfl ?_
            refine Z.fg [0, 2, 3, 4, 5] ?_
            exact zX11_few_100 hJ hPo ih _ _ hf
          · rw [if_pos c15] at hf
            refine Z.iload (n := 95) dX11_few_93 rfl rfl ?_
            refine Z.goto (tgt := 100) dX11_few_95 rfl ?_
            refine Z.fg [0, 2, 3, 4, 5] ?_
            exact zX11_few_100 hJ hPo ih _ _ hf
      · rw [if_neg c12] at hf
        refine Z.iload_n (n := 63) dX11_few_62 rfl rfl ?_
        refine Z.if_ne (tgt := 72) (n := 66) dX11_few_63 rfl rfl (fun c16 => ?_) (fun c16 => ?_)
        · rw [if_neg c16] at hf
          refine Z.iload (n := 74) dX11_few_72 rfl rfl ?_
          refine Z.fg [0, 2, 3, 4, 5] ?_
          exact zX11_few_74 hJ hPo ih _ _ hf
        · rw [if_pos c16] at hf
          refine Z.iload (n := 68) dX11_few_66 rfl rfl ?_
          refine Z.ineg (n := 69) dX11_few_68 rfl ?_
          refine Z.goto (tgt := 74) dX11_few_69 rfl ?_
          refine Z.fg [0, 2, 3, 4, 5] ?_
          exact zX11_few_74 hJ hPo ih _ _ hf
def fX11_few (P : PT) (l1 : Int32) (l2 : Int32) (h : HT) : Option (Int32 × HT) :=
  Option.bind (fX3_standingAt l1 h) fun z1 =>
  onq (dq z1.1) (fX11_few_21 P z1.2) (fun t3 => Option.bind (P[t3]?) fun r4 => (Option.bind (fX11_outside l2 1 z1.2) fun z5 =>
  if z5.1 = 0 then (Option.bind (fX5_firstWar r4 z5.2) fun z7 =>
  if z7.1 < 0 then (fX11_few_40 P 1000 l2 r4 1 z7.2)
  else (some ((-3), z7.2)))
  else (fX11_few_21 P z5.2)))
set_option maxHeartbeats 4000000 in
theorem ctX11_few {g : GP} {a : Nat → Nat} {P : PT} {h : HT} {z : Int32 × HT} {l1 : Int32} {l2 : Int32} (hPo : PoolOK P) (hf : fX11_few P l1 l2 h = some z) : Ct g 7 0 0 mX11_few [.ref (a 0), .int l1, .int l2] (WD g a h P) (PoI g a P z) := by
  refine Ct.of (by decide +kernel) (Nat.le_of_ble_eq_true rfl) fun J hJ => ?_
  show Z g mX11_few J 0 0 0 [some (.ref (a 0)), some (.int l1), some (.int l2), none, none, none] [] (WD g a h P)
  unfold fX11_few at hf
  refine Z.aload_n (n := 1) dX11_few_0 rfl rfl ?_
  refine Z.getf (n := 4) fX11_12 dX11_few_1 rfl W0 rfl ?_
  refine Z.iload_n (n := 5) dX11_few_4 rfl rfl ?_
  obtain ⟨z1, ez1, hf⟩ := Option.bind_eq_some_iff.mp hf
  refine Z.callV (n := 8) vX11_126 (ctX3_standingAt ez1) hJ.rm (Nat.le_of_ble_eq_true rfl) rfl rfl (Nat.le_refl _) (Nat.le_refl _) rfl W1 rfl rfl (Nat.le_of_ble_eq_true rfl) rfl dX11_few_5 rfl (fun v w hw => ?_)
  obtain ⟨rfl, rfl⟩ := hw
  generalize hdo2 : dq z1.1 = o2 at hf ⊢
  cases o2 with
  | none =>
    replace hf := onq_none hf
    show Z _ _ _ _ _ _ _ [.null] _
    refine Z.astore_nN (n := 9) dX11_few_8 rfl (by decide) rfl ?_
    refine Z.aload_nN (n := 10) dX11_few_9 rfl rfl ?_
    refine Z.ifnullN (tgt := 21) dX11_few_10 rfl ?_
    refine Z.fg [0, 1, 2, 3] ?_
    exact zX11_few_21 hJ hPo _ hf
  | some t3 =>
    replace hf := onq_some hf
    obtain ⟨r4, er4, hf⟩ := Option.bind_eq_some_iff.mp hf
    show Z _ _ _ _ _ _ _ [.ref (a (102 + t3))] _
    refine Z.astore_n (n := 9) dX11_few_8 rfl (by decide) rfl ?_
    refine Z.aload_n (n := 10) dX11_few_9 rfl rfl ?_
    refine Z.ifnull (n := 13) dX11_few_10 rfl ?_
    refine Z.iload_n (n := 14) dX11_few_13 rfl rfl ?_
    refine Z.iconst (n := 15) (v := 1) dX11_few_14 rfl (by decide +kernel) ?_
    obtain ⟨z5, ez5, hf⟩ := Option.bind_eq_some_iff.mp hf
    refine Z.callS (n := 18) vX11_46 (ctX11_outside ez5) hJ.rm (Nat.le_of_ble_eq_true rfl) rfl rfl (Nat.le_refl _) (Nat.le_refl _) rfl (Nat.le_of_ble_eq_true rfl) rfl dX11_few_15 rfl (fun v w hw => ?_)
    obtain ⟨rfl, rfl⟩ := hw
    show Z _ _ _ _ _ _ _ [.int z5.1] _
    refine Z.if_eq (tgt := 23) (n := 21) dX11_few_18 rfl rfl (fun c6 => ?_) (fun c6 => ?_)
    · rw [if_pos c6] at hf
      refine Z.aload_n (n := 24) dX11_few_23 rfl rfl ?_
      refine Z.aload_n (n := 25) dX11_few_24 rfl rfl ?_
      refine Z.getf (n := 28) fX11_12 dX11_few_25 rfl W0 rfl ?_
      obtain ⟨z7, ez7, hf⟩ := Option.bind_eq_some_iff.mp hf
      obtain ⟨q9, hq9, hu9⟩ := uS_X11_160_X5 (hPo _ _ er4)
      refine Z.callU (n := 31) hu9 (ctX5_firstWar (102 + t3) (At.pool er4) (hPo _ _ er4) ez7) hJ.rm (Nat.le_of_ble_eq_true rfl) rfl rfl (Nat.le_refl _) (Nat.le_refl _) rfl ((At.pool er4) _) hq9 (Nat.le_of_ble_eq_true rfl) rfl dX11_few_28 rfl (fun v w hw => ?_)
      obtain ⟨rfl, rfl⟩ := hw
      show Z _ _ _ _ _ _ _ [.int z7.1] _
      refine Z.if_lt (tgt := 37) (n := 34) dX11_few_31 rfl rfl (fun c8 => ?_) (fun c8 => ?_)
      · rw [if_pos c8] at hf
        refine Z.iconst (n := 38) (v := 1) dX11_few_37 rfl (by decide +kernel) ?_
        refine Z.istore (n := 40) dX11_few_38 rfl (by decide) rfl ?_
        refine Z.fg [1] ?_
        exact zX11_few_40 hJ hPo _ _ _ _ _ (102 + t3) (At.pool er4) (hPo _ _ er4) hf
      · rw [if_neg c8] at hf
        refine Z.bipush (n := 36) (v := -3) dX11_few_34 rfl (by decide +kernel) ?_
        have hz := Option.some.inj hf
        subst hz
        exact Z.iret hJ dX11_few_36 rfl (Nat.le_refl _) (Nat.le_refl _) ⟨rfl, rfl⟩
    · rw [if_neg c6] at hf
      refine Z.fg [0, 1, 2, 3] ?_
      exact zX11_few_21 hJ hPo _ hf
def fX11_guarded_64 (P : PT) (k20_ : SR → Int32 → Int32 → HT → Option (Int32 × HT)) (r2 : SR) (l3 : Int32) (l4 : Int32) (h : HT) : Option (Int32 × HT) :=
  k20_ r2 l3 (l4 + 1) h
set_option maxHeartbeats 4000000 in
theorem zX11_guarded_64 {g : GP} {a : Nat → Nat} {P : PT} {J : JT} {z : Int32 × HT} {k20_ : SR → Int32 → Int32 → HT → Option (Int32 × HT)} (hJ : JX g 6 0 0 (PoI g a P z) J) (hPo : PoolOK P) (hk20 : ∀ (r2 : SR) (l3 : Int32) (l4 : Int32) (h : HT) (k2 : Nat) (he2 : At g a P k2 r2) (hc2 : SCX5 r2.1), k20_ r2 l3 l4 h = some z → Z g mX11_guarded J 0 0 20 [some (.ref (a 0)), none, some (.ref (a k2)), some (.int l3), some (.int l4)] [] (WD g a h P)) (r2 : SR) (l3 : Int32) (l4 : Int32) (h : HT) (k2 : Nat) (he2 : At g a P k2 r2) (hc2 : SCX5 r2.1) (hf : fX11_guarded_64 P k20_ r2 l3 l4 h = some z) : Z g mX11_guarded J 0 0 64 [some (.ref (a 0)), none, some (.ref (a k2)), some (.int l3), some (.int l4)] [] (WD g a h P) := by
  unfold fX11_guarded_64 at hf
  refine Z.iinc (n := 67) (v := l4 + 1) dX11_guarded_64 rfl rfl rfl (by decide) rfl ?_
  refine Z.goto (tgt := 20) dX11_guarded_67 rfl ?_
  exact hk20 _ _ _ _ k2 he2 hc2 hf
def fX11_guarded_20 (P : PT) : Nat → SR → Int32 → Int32 → HT → Option (Int32 × HT)
  | 0, _, _, _, _ => none
  | n + 1, r2, l3, l4, h =>
  if (h 1 0) ≤ l4 then (some (l3, h))
  else (Option.bind (fX3_lives l4 h) fun z6 =>
  if z6.1 = 0 then (fX11_guarded_64 P (fX11_guarded_20 P  n) r2 l3 l4 z6.2)
  else (Option.bind (fX5_hunters r2 l4 z6.2) fun z8 =>
  if z8.1 = 0 then (fX11_guarded_64 P (fX11_guarded_20 P  n) r2 (l3 ||| ((1 : Int32) <<< (l4 &&& 31))) l4 z8.2)
  else (fX11_guarded_64 P (fX11_guarded_20 P  n) r2 l3 l4 z8.2)))
set_option maxHeartbeats 4000000 in
theorem zX11_guarded_20 {g : GP} {a : Nat → Nat} {P : PT} {J : JT} {z : Int32 × HT} (hJ : JX g 6 0 0 (PoI g a P z) J) (hPo : PoolOK P) : ∀ (n : Nat) (r2 : SR) (l3 : Int32) (l4 : Int32) (h : HT) (k2 : Nat) (he2 : At g a P k2 r2) (hc2 : SCX5 r2.1), fX11_guarded_20 P n r2 l3 l4 h = some z → Z g mX11_guarded J 0 0 20 [some (.ref (a 0)), none, some (.ref (a k2)), some (.int l3), some (.int l4)] [] (WD g a h P) := by
  intro n
  induction n with
  | zero =>
    intro _ _ _ _ _ _ _ hf
    cases hf
  | succ n ih =>
    intro r2 l3 l4 h k2 he2 hc2 hf
    unfold fX11_guarded_20 at hf
    refine Z.iload (n := 22) dX11_guarded_20 rfl rfl ?_
    refine Z.aload_n (n := 23) dX11_guarded_22 rfl rfl ?_
    refine Z.getf (n := 26) fX11_12 dX11_guarded_23 rfl W0 rfl ?_
    refine Z.getf (n := 29) fX11_50 dX11_guarded_26 rfl W1 rfl ?_
    refine Z.icmp_ge (tgt := 70) (n := 32) dX11_guarded_29 rfl rfl (fun c5 => ?_) (fun c5 => ?_)
    · rw [if_pos c5] at hf
      refine Z.iload_n (n := 71) dX11_guarded_70 rfl rfl ?_
      have hz := Option.some.inj hf
      subst hz
      exact Z.iret hJ dX11_guarded_71 rfl (Nat.le_refl _) (Nat.le_refl _) ⟨rfl, rfl⟩
    · rw [if_neg c5] at hf
      refine Z.aload_n (n := 33) dX11_guarded_32 rfl rfl ?_
      refine Z.getf (n := 36) fX11_12 dX11_guarded_33 rfl W0 rfl ?_
      refine Z.iload (n := 38) dX11_guarded_36 rfl rfl ?_
      obtain ⟨z6, ez6, hf⟩ := Option.bind_eq_some_iff.mp hf
      refine Z.callV (n := 41) vX11_68 (ctX3_lives ez6) hJ.rm (Nat.le_of_ble_eq_true rfl) rfl rfl (Nat.le_refl _) (Nat.le_refl _) rfl W1 rfl rfl (Nat.le_of_ble_eq_true rfl) rfl dX11_guarded_38 rfl (fun v w hw => ?_)
      obtain ⟨rfl, rfl⟩ := hw
      show Z _ _ _ _ _ _ _ [.int z6.1] _
      refine Z.if_eq (tgt := 64) (n := 44) dX11_guarded_41 rfl rfl (fun c7 => ?_) (fun c7 => ?_)
      · rw [if_pos c7] at hf
        exact zX11_guarded_64 hJ hPo ih _ _ _ _ k2 he2 hc2 hf
      · rw [if_neg c7] at hf
        refine Z.aload_n (n := 45) dX11_guarded_44 rfl rfl ?_
        refine Z.aload_n (n := 46) dX11_guarded_45 rfl rfl ?_
        refine Z.getf (n := 49) fX11_12 dX11_guarded_46 rfl W0 rfl ?_
        refine Z.iload (n := 51) dX11_guarded_49 rfl rfl ?_
        obtain ⟨z8, ez8, hf⟩ := Option.bind_eq_some_iff.mp hf
        obtain ⟨q9, hq9, hu9⟩ := uS_X11_157_X5 hc2
        refine Z.callU (n := 54) hu9 (ctX5_hunters k2 he2 hc2 ez8) hJ.rm (Nat.le_of_ble_eq_true rfl) rfl rfl (Nat.le_refl _) (Nat.le_refl _) rfl (he2 _) hq9 (Nat.le_of_ble_eq_true rfl) rfl dX11_guarded_51 rfl (fun v w hw => ?_)
        obtain ⟨rfl, rfl⟩ := hw
        show Z _ _ _ _ _ _ _ [.int z8.1] _
        refine Z.if_ne (tgt := 64) (n := 57) dX11_guarded_54 rfl rfl (fun c9 => ?_) (fun c9 => ?_)
        · rw [if_neg c9] at hf
          exact zX11_guarded_64 hJ hPo ih _ _ _ _ k2 he2 hc2 hf
        · rw [if_pos c9] at hf
          refine Z.iload_n (n := 58) dX11_guarded_57 rfl rfl ?_
          refine Z.iconst (n := 59) (v := 1) dX11_guarded_58 rfl (by decide +kernel) ?_
          refine Z.iload (n := 61) dX11_guarded_59 rfl rfl ?_
          refine Z.ishl (n := 62) dX11_guarded_61 rfl ?_
          refine Z.ior (n := 63) dX11_guarded_62 rfl ?_
          refine Z.istore_n (n := 64) dX11_guarded_63 rfl (by decide) rfl ?_
          exact zX11_guarded_64 hJ hPo ih _ _ _ _ k2 he2 hc2 hf
def fX11_guarded (P : PT) (l1 : Int32) (h : HT) : Option (Int32 × HT) :=
  Option.bind (fX3_standingAt l1 h) fun z1 =>
  onq (dq z1.1) (some ((-1), z1.2)) (fun t3 => Option.bind (P[t3]?) fun r4 => (fX11_guarded_20 P 1000 r4 0 0 z1.2))
set_option maxHeartbeats 4000000 in
theorem ctX11_guarded {g : GP} {a : Nat → Nat} {P : PT} {h : HT} {z : Int32 × HT} {l1 : Int32} (hPo : PoolOK P) (hf : fX11_guarded P l1 h = some z) : Ct g 6 0 0 mX11_guarded [.ref (a 0), .int l1] (WD g a h P) (PoI g a P z) := by
  refine Ct.of (by decide +kernel) (Nat.le_of_ble_eq_true rfl) fun J hJ => ?_
  show Z g mX11_guarded J 0 0 0 [some (.ref (a 0)), some (.int l1), none, none, none] [] (WD g a h P)
  unfold fX11_guarded at hf
  refine Z.aload_n (n := 1) dX11_guarded_0 rfl rfl ?_
  refine Z.getf (n := 4) fX11_12 dX11_guarded_1 rfl W0 rfl ?_
  refine Z.iload_n (n := 5) dX11_guarded_4 rfl rfl ?_
  obtain ⟨z1, ez1, hf⟩ := Option.bind_eq_some_iff.mp hf
  refine Z.callV (n := 8) vX11_126 (ctX3_standingAt ez1) hJ.rm (Nat.le_of_ble_eq_true rfl) rfl rfl (Nat.le_refl _) (Nat.le_refl _) rfl W1 rfl rfl (Nat.le_of_ble_eq_true rfl) rfl dX11_guarded_5 rfl (fun v w hw => ?_)
  obtain ⟨rfl, rfl⟩ := hw
  generalize hdo2 : dq z1.1 = o2 at hf ⊢
  cases o2 with
  | none =>
    replace hf := onq_none hf
    show Z _ _ _ _ _ _ _ [.null] _
    refine Z.astore_nN (n := 9) dX11_guarded_8 rfl (by decide) rfl ?_
    refine Z.aload_nN (n := 10) dX11_guarded_9 rfl rfl ?_
    refine Z.ifnonnullN (n := 13) dX11_guarded_10 rfl ?_
    refine Z.iconst (n := 14) (v := -1) dX11_guarded_13 rfl (by decide +kernel) ?_
    have hz := Option.some.inj hf
    subst hz
    exact Z.iret hJ dX11_guarded_14 rfl (Nat.le_refl _) (Nat.le_refl _) ⟨rfl, rfl⟩
  | some t3 =>
    replace hf := onq_some hf
    obtain ⟨r4, er4, hf⟩ := Option.bind_eq_some_iff.mp hf
    show Z _ _ _ _ _ _ _ [.ref (a (102 + t3))] _
    refine Z.astore_n (n := 9) dX11_guarded_8 rfl (by decide) rfl ?_
    refine Z.aload_n (n := 10) dX11_guarded_9 rfl rfl ?_
    refine Z.ifnonnull (tgt := 15) dX11_guarded_10 rfl ?_
    refine Z.iconst (n := 16) (v := 0) dX11_guarded_15 rfl (by decide +kernel) ?_
    refine Z.istore_n (n := 17) dX11_guarded_16 rfl (by decide) rfl ?_
    refine Z.iconst (n := 18) (v := 0) dX11_guarded_17 rfl (by decide +kernel) ?_
    refine Z.istore (n := 20) dX11_guarded_18 rfl (by decide) rfl ?_
    refine Z.fg [1] ?_
    exact zX11_guarded_20 hJ hPo _ _ _ _ _ (102 + t3) (At.pool er4) (hPo _ _ er4) hf
