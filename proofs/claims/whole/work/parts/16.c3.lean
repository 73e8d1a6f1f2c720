/-! walks, by program: 16.c3.lean.txt -/
def fX11_block_22 (P : PT) (h : HT) : Option (Int32 × HT) :=
  some ((-1), h)
set_option maxHeartbeats 4000000 in
theorem zX11_block_22 {g : GP} {a : Nat → Nat} {P : PT} {J : JT} {z : Int32 × HT} (hJ : JX g 2 0 0 (PoI g a P z) J) (hPo : PoolOK P) (h : HT) (hf : fX11_block_22 P h = some z) : Z g mX11_block J 0 0 22 [none, none, none, none, none] [] (WD g a h P) := by
  unfold fX11_block_22 at hf
  refine Z.iconst (n := 23) (v := -1) dX11_block_22 rfl (by decide +kernel) ?_
  have hz := Option.some.inj hf
  subst hz
  exact Z.iret hJ dX11_block_23 rfl (Nat.le_refl _) (Nat.le_refl _) ⟨rfl, rfl⟩
def fX11_block (P : PT) (l1 : Int32) (l2 : Int32) (l3 : Int32) (h : HT) : Option (Int32 × HT) :=
  Option.bind (fX3_standingAt l1 h) fun z1 =>
  onq (dq z1.1) (fX11_block_22 P z1.2) (fun t3 => Option.bind (P[t3]?) fun r4 => (Option.bind (fX3_has l2 z1.2) fun z5 =>
  if z5.1 = 0 then (fX11_block_22 P z5.2)
  else (Option.bind (fX11_outside l3 6 z5.2) fun z7 =>
  if z7.1 = 0 then (Option.bind (ck 9 l1) fun j9 =>
  Option.bind (ck 7 l2) fun j10 =>
  Option.bind (ck 9 l1) fun j11 =>
  Option.bind (ck 7 l2) fun j12 =>
  some (z7.2 (32 + j9) j10, hu z7.2 (32 + j11) j12 l3))
  else (some ((-2), z7.2)))))
set_option maxHeartbeats 4000000 in
theorem ctX11_block {g : GP} {a : Nat → Nat} {P : PT} {h : HT} {z : Int32 × HT} {l1 : Int32} {l2 : Int32} {l3 : Int32} (hPo : PoolOK P) (hf : fX11_block P l1 l2 l3 h = some z) : Ct g 2 0 0 mX11_block [.ref (a 0), .int l1, .int l2, .int l3] (WD g a h P) (PoI g a P z) := by
  refine Ct.of (by decide +kernel) (Nat.le_of_ble_eq_true rfl) fun J hJ => ?_
  show Z g mX11_block J 0 0 0 [some (.ref (a 0)), some (.int l1), some (.int l2), some (.int l3), none] [] (WD g a h P)
  unfold fX11_block at hf
  refine Z.aload_n (n := 1) dX11_block_0 rfl rfl ?_
  refine Z.getf (n := 4) fX11_12 dX11_block_1 rfl W0 rfl ?_
  refine Z.iload_n (n := 5) dX11_block_4 rfl rfl ?_
  obtain ⟨z1, ez1, hf⟩ := Option.bind_eq_some_iff.mp hf
  refine Z.callV (n := 8) vX11_126 (ctX3_standingAt ez1) hJ.rm (Nat.le_of_ble_eq_true rfl) rfl rfl (Nat.le_refl _) (Nat.le_refl _) rfl W1 rfl rfl (Nat.le_of_ble_eq_true rfl) rfl dX11_block_5 rfl (fun v w hw => ?_)
  obtain ⟨rfl, rfl⟩ := hw
  generalize hdo2 : dq z1.1 = o2 at hf ⊢
  cases o2 with
  | none =>
    replace hf := onq_none hf
    show Z _ _ _ _ _ _ _ [.null] _
    refine Z.ifnullN (tgt := 22) dX11_block_8 rfl ?_
    refine Z.fg [0, 1, 2, 3] ?_
    exact zX11_block_22 hJ hPo _ hf
  | some t3 =>
    replace hf := onq_some hf
    obtain ⟨r4, er4, hf⟩ := Option.bind_eq_some_iff.mp hf
    show Z _ _ _ _ _ _ _ [.ref (a (102 + t3))] _
    refine Z.ifnull (n := 11) dX11_block_8 rfl ?_
    refine Z.aload_n (n := 12) dX11_block_11 rfl rfl ?_
    refine Z.getf (n := 15) fX11_12 dX11_block_12 rfl W0 rfl ?_
    refine Z.iload_n (n := 16) dX11_block_15 rfl rfl ?_
    obtain ⟨z5, ez5, hf⟩ := Option.bind_eq_some_iff.mp hf
    refine Z.callV (n := 19) vX11_58 (ctX3_has ez5) hJ.rm (Nat.le_of_ble_eq_true rfl) rfl rfl (Nat.le_refl _) (Nat.le_refl _) rfl W1 rfl rfl (Nat.le_of_ble_eq_true rfl) rfl dX11_block_16 rfl (fun v w hw => ?_)
    obtain ⟨rfl, rfl⟩ := hw
    show Z _ _ _ _ _ _ _ [.int z5.1] _
    refine Z.if_ne (tgt := 24) (n := 22) dX11_block_19 rfl rfl (fun c6 => ?_) (fun c6 => ?_)
    · rw [if_neg c6] at hf
      refine Z.iload_n (n := 25) dX11_block_24 rfl rfl ?_
      refine Z.bipush (n := 27) (v := 6) dX11_block_25 rfl (by decide +kernel) ?_
      obtain ⟨z7, ez7, hf⟩ := Option.bind_eq_some_iff.mp hf
      refine Z.callS (n := 30) vX11_46 (ctX11_outside ez7) hJ.rm (Nat.le_of_ble_eq_true rfl) rfl rfl (Nat.le_refl _) (Nat.le_refl _) rfl (Nat.le_of_ble_eq_true rfl) rfl dX11_block_27 rfl (fun v w hw => ?_)
      obtain ⟨rfl, rfl⟩ := hw
      show Z _ _ _ _ _ _ _ [.int z7.1] _
      refine Z.if_eq (tgt := 36) (n := 33) dX11_block_30 rfl rfl (fun c8 => ?_) (fun c8 => ?_)
      · rw [if_pos c8] at hf
        refine Z.aload_n (n := 37) dX11_block_36 rfl rfl ?_
        refine Z.getf (n := 40) fX11_12 dX11_block_37 rfl W0 rfl ?_
        refine Z.getf (n := 43) fX11_130 dX11_block_40 rfl W1 rfl ?_
        refine Z.iload_n (n := 44) dX11_block_43 rfl rfl ?_
        obtain ⟨j9, ej9, hf⟩ := Option.bind_eq_some_iff.mp hf
        obtain ⟨hij9, hlj9⟩ := ck_spec ej9
        refine Z.aald (j := j9) (ty := 3) (n := 45) dX11_block_44 rfl W31 rfl rfl hij9 hlj9 (by decide) ?_
        rw [if_pos hlj9]
        show Z _ _ _ _ _ _ _ (.ref (a (32 + j9)) :: _) _
        refine Z.iload_n (n := 46) dX11_block_45 rfl rfl ?_
        obtain ⟨j10, ej10, hf⟩ := Option.bind_eq_some_iff.mp hf
        obtain ⟨hij10, hlj10⟩ := ck_spec ej10
        refine Z.iald (j := j10) (n := 47) dX11_block_46 rfl (Wbl (r := j9) hlj9) hij10 hlj10 (by decide) ?_
        refine Z.istore (n := 49) dX11_block_47 rfl (by decide) rfl ?_
        refine Z.aload_n (n := 50) dX11_block_49 rfl rfl ?_
        refine Z.getf (n := 53) fX11_12 dX11_block_50 rfl W0 rfl ?_
        refine Z.getf (n := 56) fX11_130 dX11_block_53 rfl W1 rfl ?_
        refine Z.iload_n (n := 57) dX11_block_56 rfl rfl ?_
        obtain ⟨j11, ej11, hf⟩ := Option.bind_eq_some_iff.mp hf
        obtain ⟨hij11, hlj11⟩ := ck_spec ej11
        refine Z.aald (j := j11) (ty := 3) (n := 58) dX11_block_57 rfl W31 rfl rfl hij11 hlj11 (by decide) ?_
        rw [if_pos hlj11]
        show Z _ _ _ _ _ _ _ (.ref (a (32 + j11)) :: _) _
        refine Z.iload_n (n := 59) dX11_block_58 rfl rfl ?_
        refine Z.iload_n (n := 60) dX11_block_59 rfl rfl ?_
        obtain ⟨j12, ej12, hf⟩ := Option.bind_eq_some_iff.mp hf
        obtain ⟨hij12, hlj12⟩ := ck_spec ej12
        refine Z.iast (j := j12) (n := 61) dX11_block_60 rfl (Wbl (r := j11) hlj11) hij12 hlj12 (by decide) (Wbls (r := j11) hlj11) ?_
        refine Z.iload (n := 63) dX11_block_61 rfl rfl ?_
        have hz := Option.some.inj hf
        subst hz
        exact Z.iret hJ dX11_block_63 rfl (Nat.le_refl _) (Nat.le_refl _) ⟨rfl, rfl⟩
      · rw [if_neg c8] at hf
        refine Z.bipush (n := 35) (v := -2) dX11_block_33 rfl (by decide +kernel) ?_
        have hz := Option.some.inj hf
        subst hz
        exact Z.iret hJ dX11_block_35 rfl (Nat.le_refl _) (Nat.le_refl _) ⟨rfl, rfl⟩
    · rw [if_pos c6] at hf
      refine Z.fg [0, 1, 2, 3] ?_
      exact zX11_block_22 hJ hPo _ hf
def fX11_pairRefusal_22 (h : HT) : Option (Int32 × HT) :=
  some ((-1), h)
set_option maxHeartbeats 4000000 in
theorem zX11_pairRefusal_22 {g : GP} {a : Nat → Nat} {P : PT} {J : JT} {z : Int32 × HT} (hJ : JX g 2 0 0 (PoI g a P z) J) (h : HT) (hf : fX11_pairRefusal_22 h = some z) : Z g mX11_pairRefusal J 0 0 22 [none, none, none] [] (WD g a h P) := by
  unfold fX11_pairRefusal_22 at hf
  refine Z.iconst (n := 23) (v := -1) dX11_pairRefusal_22 rfl (by decide +kernel) ?_
  have hz := Option.some.inj hf
  subst hz
  exact Z.iret hJ dX11_pairRefusal_23 rfl (Nat.le_refl _) (Nat.le_refl _) ⟨rfl, rfl⟩
def fX11_pairRefusal_60 (s0 : Int32) (h : HT) : Option (Int32 × HT) :=
  some (s0, h)
set_option maxHeartbeats 4000000 in
theorem zX11_pairRefusal_60 {g : GP} {a : Nat → Nat} {P : PT} {J : JT} {z : Int32 × HT} (hJ : JX g 2 0 0 (PoI g a P z) J) (s0 : Int32) (h : HT) (hf : fX11_pairRefusal_60 s0 h = some z) : Z g mX11_pairRefusal J 0 0 60 [none, none, none] [.int s0] (WD g a h P) := by
  unfold fX11_pairRefusal_60 at hf
  have hz := Option.some.inj hf
  subst hz
  exact Z.iret hJ dX11_pairRefusal_60 rfl (Nat.le_refl _) (Nat.le_refl _) ⟨rfl, rfl⟩
def fX11_pairRefusal_58 (h : HT) : Option (Int32 × HT) :=
  fX11_pairRefusal_60 (-3) h
set_option maxHeartbeats 4000000 in
theorem zX11_pairRefusal_58 {g : GP} {a : Nat → Nat} {P : PT} {J : JT} {z : Int32 × HT} (hJ : JX g 2 0 0 (PoI g a P z) J) (h : HT) (hf : fX11_pairRefusal_58 h = some z) : Z g mX11_pairRefusal J 0 0 58 [none, none, none] [] (WD g a h P) := by
  unfold fX11_pairRefusal_58 at hf
  refine Z.bipush (n := 60) (v := -3) dX11_pairRefusal_58 rfl (by decide +kernel) ?_
  exact zX11_pairRefusal_60 hJ _ _ hf
def fX11_pairRefusal (l1 : Int32) (l2 : Int32) (h : HT) : Option (Int32 × HT) :=
  Option.bind (fX3_has l1 h) fun z1 =>
  if z1.1 = 0 then (fX11_pairRefusal_22 z1.2)
  else (Option.bind (fX3_has l2 z1.2) fun z3 =>
  if z3.1 = 0 then (fX11_pairRefusal_22 z3.2)
  else (if l1 = l2 then (some ((-2), z3.2))
  else (Option.bind (fX3_lives l1 z3.2) fun z6 =>
  if z6.1 = 0 then (fX11_pairRefusal_58 z6.2)
  else (Option.bind (fX3_lives l2 z6.2) fun z8 =>
  if z8.1 = 0 then (fX11_pairRefusal_58 z8.2)
  else (fX11_pairRefusal_60 0 z8.2)))))
set_option maxHeartbeats 4000000 in
theorem ctX11_pairRefusal {g : GP} {a : Nat → Nat} {P : PT} {h : HT} {z : Int32 × HT} {l1 : Int32} {l2 : Int32} (hf : fX11_pairRefusal l1 l2 h = some z) : Ct g 2 0 0 mX11_pairRefusal [.ref (a 0), .int l1, .int l2] (WD g a h P) (PoI g a P z) := by
  refine Ct.of (by decide +kernel) (Nat.le_of_ble_eq_true rfl) fun J hJ => ?_
  show Z g mX11_pairRefusal J 0 0 0 [some (.ref (a 0)), some (.int l1), some (.int l2)] [] (WD g a h P)
  unfold fX11_pairRefusal at hf
  refine Z.aload_n (n := 1) dX11_pairRefusal_0 rfl rfl ?_
  refine Z.getf (n := 4) fX11_12 dX11_pairRefusal_1 rfl W0 rfl ?_
  refine Z.iload_n (n := 5) dX11_pairRefusal_4 rfl rfl ?_
  obtain ⟨z1, ez1, hf⟩ := Option.bind_eq_some_iff.mp hf
  refine Z.callV (n := 8) vX11_58 (ctX3_has ez1) hJ.rm (Nat.le_of_ble_eq_true rfl) rfl rfl (Nat.le_refl _) (Nat.le_refl _) rfl W1 rfl rfl (Nat.le_of_ble_eq_true rfl) rfl dX11_pairRefusal_5 rfl (fun v w hw => ?_)
  obtain ⟨rfl, rfl⟩ := hw
  show Z _ _ _ _ _ _ _ [.int z1.1] _
  refine Z.if_eq (tgt := 22) (n := 11) dX11_pairRefusal_8 rfl rfl (fun c2 => ?_) (fun c2 => ?_)
  · rw [if_pos c2] at hf
    refine Z.fg [0, 1, 2] ?_
    exact zX11_pairRefusal_22 hJ _ hf
  · rw [if_neg c2] at hf
    refine Z.aload_n (n := 12) dX11_pairRefusal_11 rfl rfl ?_
    refine Z.getf (n := 15) fX11_12 dX11_pairRefusal_12 rfl W0 rfl ?_
    refine Z.iload_n (n := 16) dX11_pairRefusal_15 rfl rfl ?_
    obtain ⟨z3, ez3, hf⟩ := Option.bind_eq_some_iff.mp hf
    refine Z.callV (n := 19) vX11_58 (ctX3_has ez3) hJ.rm (Nat.le_of_ble_eq_true rfl) rfl rfl (Nat.le_refl _) (Nat.le_refl _) rfl W1 rfl rfl (Nat.le_of_ble_eq_true rfl) rfl dX11_pairRefusal_16 rfl (fun v w hw => ?_)
    obtain ⟨rfl, rfl⟩ := hw
    show Z _ _ _ _ _ _ _ [.int z3.1] _
    refine Z.if_ne (tgt := 24) (n := 22) dX11_pairRefusal_19 rfl rfl (fun c4 => ?_) (fun c4 => ?_)
    · rw [if_neg c4] at hf
      refine Z.iload_n (n := 25) dX11_pairRefusal_24 rfl rfl ?_
      refine Z.iload_n (n := 26) dX11_pairRefusal_25 rfl rfl ?_
      refine Z.icmp_ne (tgt := 32) (n := 29) dX11_pairRefusal_26 rfl rfl (fun c5 => ?_) (fun c5 => ?_)
      · rw [if_neg c5] at hf
        refine Z.aload_n (n := 33) dX11_pairRefusal_32 rfl rfl ?_
        refine Z.getf (n := 36) fX11_12 dX11_pairRefusal_33 rfl W0 rfl ?_
        refine Z.iload_n (n := 37) dX11_pairRefusal_36 rfl rfl ?_
        obtain ⟨z6, ez6, hf⟩ := Option.bind_eq_some_iff.mp hf
        refine Z.callV (n := 40) vX11_68 (ctX3_lives ez6) hJ.rm (Nat.le_of_ble_eq_true rfl) rfl rfl (Nat.le_refl _) (Nat.le_refl _) rfl W1 rfl rfl (Nat.le_of_ble_eq_true rfl) rfl dX11_pairRefusal_37 rfl (fun v w hw => ?_)
        obtain ⟨rfl, rfl⟩ := hw
        show Z _ _ _ _ _ _ _ [.int z6.1] _
        refine Z.if_eq (tgt := 58) (n := 43) dX11_pairRefusal_40 rfl rfl (fun c7 => ?_) (fun c7 => ?_)
        · rw [if_pos c7] at hf
          refine Z.fg [0, 1, 2] ?_
          exact zX11_pairRefusal_58 hJ _ hf
        · rw [if_neg c7] at hf
          refine Z.aload_n (n := 44) dX11_pairRefusal_43 rfl rfl ?_
          refine Z.getf (n := 47) fX11_12 dX11_pairRefusal_44 rfl W0 rfl ?_
          refine Z.iload_n (n := 48) dX11_pairRefusal_47 rfl rfl ?_
          obtain ⟨z8, ez8, hf⟩ := Option.bind_eq_some_iff.mp hf
          refine Z.callV (n := 51) vX11_68 (ctX3_lives ez8) hJ.rm (Nat.le_of_ble_eq_true rfl) rfl rfl (Nat.le_refl _) (Nat.le_refl _) rfl W1 rfl rfl (Nat.le_of_ble_eq_true rfl) rfl dX11_pairRefusal_48 rfl (fun v w hw => ?_)
          obtain ⟨rfl, rfl⟩ := hw
          show Z _ _ _ _ _ _ _ [.int z8.1] _
          refine Z.if_eq (tgt := 58) (n := 54) dX11_pairRefusal_51 rfl rfl (fun c9 => ?_) (fun c9 => ?_)
          · rw [if_pos c9] at hf
            refine Z.fg [0, 1, 2] ?_
            exact zX11_pairRefusal_58 hJ _ hf
          · rw [if_neg c9] at hf
            refine Z.iconst (n := 55) (v := 0) dX11_pairRefusal_54 rfl (by decide +kernel) ?_
            refine Z.goto (tgt := 60) dX11_pairRefusal_55 rfl ?_
            refine Z.fg [0, 1, 2] ?_
            exact zX11_pairRefusal_60 hJ _ _ hf
      · rw [if_pos c5] at hf
        refine Z.bipush (n := 31) (v := -2) dX11_pairRefusal_29 rfl (by decide +kernel) ?_
        have hz := Option.some.inj hf
        subst hz
        exact Z.iret hJ dX11_pairRefusal_31 rfl (Nat.le_refl _) (Nat.le_refl _) ⟨rfl, rfl⟩
    · rw [if_pos c4] at hf
      refine Z.fg [0, 1, 2] ?_
      exact zX11_pairRefusal_22 hJ _ hf
theorem dv_X11_136_X5 {g : GP} {a : Nat → Nat} {P : PT} {r : SR} (k : Nat) (he : At g a P k r) (hc : SCX5 r.1) {l2 l3 : Int32} {h : HT} {z : Int32 × HT} (hf : fv_camps r l2 l3 h = some z) : ∃ (M9 : MI) (q : vw_C) (d9 : Nat), vwCl[r.1]? = some q ∧ d9 ≤ 3 ∧ CU RX11 136 q.1 M9 3 ∧ Ct g d9 0 0 M9 [.ref (a k), .ref (a 1), .int l2, .int l3] (WD g a h P) (PoI g a P z) := by
  obtain ⟨c, nu, v⟩ := r
  have hc : SCX5 c := hc
  rcases hc with rfl | rfl | rfl | rfl | rfl | rfl | rfl
  · exact ⟨mX0_camps, _, 2, rfl, by decide, uX11_136_X0, ctX0_camps k he rfl hf⟩
  · exact ⟨mX1_camps, _, 3, rfl, by decide, uX11_136_X1, ctX1_camps k he rfl hf⟩
  · exact ⟨mX2_camps, _, 3, rfl, by decide, uX11_136_X2, ctX2_camps k he rfl hf⟩
  · exact ⟨mX4_camps, _, 2, rfl, by decide, uX11_136_X4, ctX4_camps k he scX4_4 hf⟩
  · exact ⟨mX5_camps, _, 2, rfl, by decide, uX11_136_X5, ctX5_camps k he scX5_5 hf⟩
  · exact ⟨mX7_camps, _, 3, rfl, by decide, uX11_136_X7, ctX7_camps k he rfl hf⟩
  · exact ⟨mX9_camps, _, 2, rfl, by decide, uX11_136_X9, ctX9_camps k he scX9_9 hf⟩
def fX11_comes_24 (P : PT) (h : HT) : Option (Int32 × HT) :=
  some ((-1), h)
set_option maxHeartbeats 4000000 in
theorem zX11_comes_24 {g : GP} {a : Nat → Nat} {P : PT} {J : JT} {z : Int32 × HT} (hJ : JX g 4 0 0 (PoI g a P z) J) (hPo : PoolOK P) (h : HT) (hf : fX11_comes_24 P h = some z) : Z g mX11_comes J 0 0 24 [none, none, none, none, none, none, none, none] [] (WD g a h P) := by
  unfold fX11_comes_24 at hf
  refine Z.iconst (n := 25) (v := -1) dX11_comes_24 rfl (by decide +kernel) ?_
  have hz := Option.some.inj hf
  subst hz
  exact Z.iret hJ dX11_comes_25 rfl (Nat.le_refl _) (Nat.le_refl _) ⟨rfl, rfl⟩
def fX11_comes_73 (P : PT) (s0 : Int32) (h : HT) : Option (Int32 × HT) :=
  some (s0, h)
set_option maxHeartbeats 4000000 in
theorem zX11_comes_73 {g : GP} {a : Nat → Nat} {P : PT} {J : JT} {z : Int32 × HT} (hJ : JX g 4 0 0 (PoI g a P z) J) (hPo : PoolOK P) (s0 : Int32) (h : HT) (hf : fX11_comes_73 P s0 h = some z) : Z g mX11_comes J 0 0 73 [none, none, none, none, none, none, none, none] [.int s0] (WD g a h P) := by
  unfold fX11_comes_73 at hf
  have hz := Option.some.inj hf
  subst hz
  exact Z.iret hJ dX11_comes_73 rfl (Nat.le_refl _) (Nat.le_refl _) ⟨rfl, rfl⟩
def fX11_comes (P : PT) (l1 : Int32) (l2 : Int32) (l3 : Int32) (l4 : Int32) (h : HT) : Option (Int32 × HT) :=
  Option.bind (fX3_standingAt l1 h) fun z1 =>
  onq (dq z1.1) (fX11_comes_24 P z1.2) (fun t3 => Option.bind (P[t3]?) fun r4 => (Option.bind (fX11_outside l4 1 z1.2) fun z5 =>
  if z5.1 = 0 then (Option.bind (fX11_pairRefusal l2 l3 z5.2) fun z7 =>
  if z7.1 = 0 then (Option.bind (fv_camps r4 l2 l3 z7.2) fun z9 =>
  if l4 = 0 then (Option.bind (fX5_attackers z9.1 z9.2) fun z12 =>
  fX11_comes_73 P z12.1 z12.2)
  else (Option.bind (fX5_defenders z9.1 z9.2) fun z11 =>
  fX11_comes_73 P z11.1 z11.2))
  else (some (z7.1, z7.2)))
  else (fX11_comes_24 P z5.2)))
set_option maxHeartbeats 4000000 in
theorem ctX11_comes {g : GP} {a : Nat → Nat} {P : PT} {h : HT} {z : Int32 × HT} {l1 : Int32} {l2 : Int32} {l3 : Int32} {l4 : Int32} (hPo : PoolOK P) (hf : fX11_comes P l1 l2 l3 l4 h = some z) : Ct g 4 0 0 mX11_comes [.ref (a 0), .int l1, .int l2, .int l3, .int l4] (WD g a h P) (PoI g a P z) := by
  refine Ct.of (by decide +kernel) (Nat.le_of_ble_eq_true rfl) fun J hJ => ?_
  show Z g mX11_comes J 0 0 0 [some (.ref (a 0)), some (.int l1), some (.int l2), some (.int l3), some (.int l4), none, none, none] [] (WD g a h P)
  unfold fX11_comes at hf
  refine Z.aload_n (n := 1) dX11_comes_0 rfl rfl ?_
  refine Z.getf (n := 4) fX11_12 dX11_comes_1 rfl W0 rfl ?_
  refine Z.iload_n (n := 5) dX11_comes_4 rfl rfl ?_
  obtain ⟨z1, ez1, hf⟩ := Option.bind_eq_some_iff.mp hf
  refine Z.callV (n := 8) vX11_126 (ctX3_standingAt ez1) hJ.rm (Nat.le_of_ble_eq_true rfl) rfl rfl (Nat.le_refl _) (Nat.le_refl _) rfl W1 rfl rfl (Nat.le_of_ble_eq_true rfl) rfl dX11_comes_5 rfl (fun v w hw => ?_)
  obtain ⟨rfl, rfl⟩ := hw
  generalize hdo2 : dq z1.1 = o2 at hf ⊢
  cases o2 with
  | none =>
    replace hf := onq_none hf
    show Z _ _ _ _ _ _ _ [.null] _
    refine Z.astoreN (n := 10) dX11_comes_8 rfl (by decide) rfl ?_
    refine Z.aloadN (n := 12) dX11_comes_10 rfl rfl ?_
    refine Z.ifnullN (tgt := 24) dX11_comes_12 rfl ?_
    refine Z.fg [0, 1, 2, 3, 4, 5] ?_
    exact zX11_comes_24 hJ hPo _ hf
  | some t3 =>
    replace hf := onq_some hf
    obtain ⟨r4, er4, hf⟩ := Option.bind_eq_some_iff.mp hf
    show Z _ _ _ _ _ _ _ [.ref (a (102 + t3))] _
    refine Z.astore (n := 10) dX11_comes_8 rfl (by decide) rfl ?_
    refine Z.aload (n := 12) dX11_comes_10 rfl rfl ?_
    refine Z.ifnull (n := 15) dX11_comes_12 rfl ?_
    refine Z.iload (n := 17) dX11_comes_15 rfl rfl ?_
    refine Z.iconst (n := 18) (v := 1) dX11_comes_17 rfl (by decide +kernel) ?_
    obtain ⟨z5, ez5, hf⟩ := Option.bind_eq_some_iff.mp hf
    refine Z.callS (n := 21) vX11_46 (ctX11_outside ez5) hJ.rm (Nat.le_of_ble_eq_true rfl) rfl rfl (Nat.le_refl _) (Nat.le_refl _) rfl (Nat.le_of_ble_eq_true rfl) rfl dX11_comes_18 rfl (fun v w hw => ?_)
    obtain ⟨rfl, rfl⟩ := hw
    show Z _ _ _ _ _ _ _ [.int z5.1] _
    refine Z.if_eq (tgt := 26) (n := 24) dX11_comes_21 rfl rfl (fun c6 => ?_) (fun c6 => ?_)
    · rw [if_pos c6] at hf
      refine Z.aload_n (n := 27) dX11_comes_26 rfl rfl ?_
      refine Z.iload_n (n := 28) dX11_comes_27 rfl rfl ?_
      refine Z.iload_n (n := 29) dX11_comes_28 rfl rfl ?_
      obtain ⟨z7, ez7, hf⟩ := Option.bind_eq_some_iff.mp hf
      refine Z.callV (n := 32) vX11_133 (ctX11_pairRefusal ez7) hJ.rm (Nat.le_of_ble_eq_true rfl) rfl rfl (Nat.le_refl _) (Nat.le_refl _) rfl W0 rfl rfl (Nat.le_of_ble_eq_true rfl) rfl dX11_comes_29 rfl (fun v w hw => ?_)
      obtain ⟨rfl, rfl⟩ := hw
      show Z _ _ _ _ _ _ _ [.int z7.1] _
      refine Z.istore (n := 34) dX11_comes_32 rfl (by decide) rfl ?_
      refine Z.iload (n := 36) dX11_comes_34 rfl rfl ?_
      refine Z.if_eq (tgt := 42) (n := 39) dX11_comes_36 rfl rfl (fun c8 => ?_) (fun c8 => ?_)
      · rw [if_pos c8] at hf
        refine Z.aload (n := 44) dX11_comes_42 rfl rfl ?_
        refine Z.aload_n (n := 45) dX11_comes_44 rfl rfl ?_
        refine Z.getf (n := 48) fX11_12 dX11_comes_45 rfl W0 rfl ?_
        refine Z.iload_n (n := 49) dX11_comes_48 rfl rfl ?_
        refine Z.iload_n (n := 50) dX11_comes_49 rfl rfl ?_
        obtain ⟨z9, ez9, hf⟩ := Option.bind_eq_some_iff.mp hf
        obtain ⟨M9, q9, d9, hq9, hd9, hu9, hC9⟩ := dv_X11_136_X5 (g := g) (a := a) (P := P) (102 + t3) (At.pool er4) (hPo _ _ er4) ez9
        refine Z.callU (n := 53) hu9 hC9 hJ.rm (by omega) rfl rfl (Nat.le_refl _) (Nat.le_refl _) rfl ((At.pool er4) _) hq9 (Nat.le_of_ble_eq_true rfl) rfl dX11_comes_50 rfl (fun v w hw => ?_)
        obtain ⟨rfl, rfl⟩ := hw
        show Z _ _ _ _ _ _ _ [.int z9.1] _
        refine Z.istore (n := 55) dX11_comes_53 rfl (by decide) rfl ?_
        refine Z.iload (n := 57) dX11_comes_55 rfl rfl ?_
        refine Z.if_ne (tgt := 68) (n := 60) dX11_comes_57 rfl rfl (fun c10 => ?_) (fun c10 => ?_)
        · rw [if_neg c10] at hf
          refine Z.iload (n := 70) dX11_comes_68 rfl rfl ?_
          obtain ⟨z11, ez11, hf⟩ := Option.bind_eq_some_iff.mp hf
          refine Z.callS (n := 73) vX11_145 (ctX5_defenders ez11) hJ.rm (Nat.le_of_ble_eq_true rfl) rfl rfl (Nat.le_refl _) (Nat.le_refl _) rfl (Nat.le_of_ble_eq_true rfl) rfl dX11_comes_70 rfl (fun v w hw => ?_)
          obtain ⟨rfl, rfl⟩ := hw
          show Z _ _ _ _ _ _ _ [.int z11.1] _
          refine Z.fg [0, 1, 2, 3, 4, 5, 6, 7] ?_
          exact zX11_comes_73 hJ hPo _ _ hf
        · rw [if_pos c10] at hf
          refine Z.iload (n := 62) dX11_comes_60 rfl rfl ?_
          obtain ⟨z12, ez12, hf⟩ := Option.bind_eq_some_iff.mp hf
          refine Z.callS (n := 65) vX11_141 (ctX5_attackers ez12) hJ.rm (Nat.le_of_ble_eq_true rfl) rfl rfl (Nat.le_refl _) (Nat.le_refl _) rfl (Nat.le_of_ble_eq_true rfl) rfl dX11_comes_62 rfl (fun v w hw => ?_)
          obtain ⟨rfl, rfl⟩ := hw
          show Z _ _ _ _ _ _ _ [.int z12.1] _
          refine Z.goto (tgt := 73) dX11_comes_65 rfl ?_
          refine Z.fg [0, 1, 2, 3, 4, 5, 6, 7] ?_
          exact zX11_comes_73 hJ hPo _ _ hf
      · rw [if_neg c8] at hf
        refine Z.iload (n := 41) dX11_comes_39 rfl rfl ?_
        have hz := Option.some.inj hf
        subst hz
        exact Z.iret hJ dX11_comes_41 rfl (Nat.le_refl _) (Nat.le_refl _) ⟨rfl, rfl⟩
    · rw [if_neg c6] at hf
      refine Z.fg [0, 1, 2, 3, 4, 5] ?_
      exact zX11_comes_24 hJ hPo _ hf
theorem uS_X11_157_X5 {c : Nat} (hc : SCX5 c) : ∃ q : vw_C, vwCl[c]? = some q ∧ CU RX11 157 q.1 mX5_hunters 2 := by
  rcases hc with rfl | rfl | rfl | rfl | rfl | rfl | rfl
  · exact ⟨_, rfl, uX11_157_X0⟩
  · exact ⟨_, rfl, uX11_157_X1⟩
  · exact ⟨_, rfl, uX11_157_X2⟩
  · exact ⟨_, rfl, uX11_157_X4⟩
  · exact ⟨_, rfl, uX11_157_X5⟩
  · exact ⟨_, rfl, uX11_157_X7⟩
  · exact ⟨_, rfl, uX11_157_X9⟩
theorem uS_X11_153_X5 {c : Nat} (hc : SCX5 c) : ∃ q : vw_C, vwCl[c]? = some q ∧ CU RX11 153 q.1 mX5_prey 2 := by
  rcases hc with rfl | rfl | rfl | rfl | rfl | rfl | rfl
  · exact ⟨_, rfl, uX11_153_X0⟩
  · exact ⟨_, rfl, uX11_153_X1⟩
  · exact ⟨_, rfl, uX11_153_X2⟩
  · exact ⟨_, rfl, uX11_153_X4⟩
  · exact ⟨_, rfl, uX11_153_X5⟩
  · exact ⟨_, rfl, uX11_153_X7⟩
  · exact ⟨_, rfl, uX11_153_X9⟩
def fX11_dares_34 (P : PT) (h : HT) : Option (Int32 × HT) :=
  some ((-1), h)
set_option maxHeartbeats 4000000 in
theorem zX11_dares_34 {g : GP} {a : Nat → Nat} {P : PT} {J : JT} {z : Int32 × HT} (hJ : JX g 6 0 0 (PoI g a P z) J) (hPo : PoolOK P) (h : HT) (hf : fX11_dares_34 P h = some z) : Z g mX11_dares J 0 0 34 [none, none, none, none, none] [] (WD g a h P) := by
  unfold fX11_dares_34 at hf
  refine Z.iconst (n := 35) (v := -1) dX11_dares_34 rfl (by decide +kernel) ?_
  have hz := Option.some.inj hf
  subst hz
  exact Z.iret hJ dX11_dares_35 rfl (Nat.le_refl _) (Nat.le_refl _) ⟨rfl, rfl⟩
def fX11_dares_63 (P : PT) (s0 : Int32) (h : HT) : Option (Int32 × HT) :=
  some (s0, h)
set_option maxHeartbeats 4000000 in
theorem zX11_dares_63 {g : GP} {a : Nat → Nat} {P : PT} {J : JT} {z : Int32 × HT} (hJ : JX g 6 0 0 (PoI g a P z) J) (hPo : PoolOK P) (s0 : Int32) (h : HT) (hf : fX11_dares_63 P s0 h = some z) : Z g mX11_dares J 0 0 63 [none, none, none, none, none] [.int s0] (WD g a h P) := by
  unfold fX11_dares_63 at hf
  have hz := Option.some.inj hf
  subst hz
  exact Z.iret hJ dX11_dares_63 rfl (Nat.le_refl _) (Nat.le_refl _) ⟨rfl, rfl⟩
def fX11_dares (P : PT) (l1 : Int32) (l2 : Int32) (l3 : Int32) (h : HT) : Option (Int32 × HT) :=
  Option.bind (fX3_standingAt l1 h) fun z1 =>
  onq (dq z1.1) (fX11_dares_34 P z1.2) (fun t3 => Option.bind (P[t3]?) fun r4 => (Option.bind (fX3_has l2 z1.2) fun z5 =>
  if z5.1 = 0 then (fX11_dares_34 P z5.2)
  else (Option.bind (fX11_outside l3 1 z5.2) fun z7 =>
  if z7.1 = 0 then (if l3 = 0 then (Option.bind (fX5_prey r4 l2 z7.2) fun z11 =>
  fX11_dares_63 P z11.1 z11.2)
  else (Option.bind (fX5_hunters r4 l2 z7.2) fun z10 =>
  fX11_dares_63 P z10.1 z10.2))
  else (fX11_dares_34 P z7.2))))
set_option maxHeartbeats 4000000 in
theorem ctX11_dares {g : GP} {a : Nat → Nat} {P : PT} {h : HT} {z : Int32 × HT} {l1 : Int32} {l2 : Int32} {l3 : Int32} (hPo : PoolOK P) (hf : fX11_dares P l1 l2 l3 h = some z) : Ct g 6 0 0 mX11_dares [.ref (a 0), .int l1, .int l2, .int l3] (WD g a h P) (PoI g a P z) := by
  refine Ct.of (by decide +kernel) (Nat.le_of_ble_eq_true rfl) fun J hJ => ?_
  show Z g mX11_dares J 0 0 0 [some (.ref (a 0)), some (.int l1), some (.int l2), some (.int l3), none] [] (WD g a h P)
  unfold fX11_dares at hf
  refine Z.aload_n (n := 1) dX11_dares_0 rfl rfl ?_
  refine Z.getf (n := 4) fX11_12 dX11_dares_1 rfl W0 rfl ?_
  refine Z.iload_n (n := 5) dX11_dares_4 rfl rfl ?_
  obtain ⟨z1, ez1, hf⟩ := Option.bind_eq_some_iff.mp hf
  refine Z.callV (n := 8) vX11_126 (ctX3_standingAt ez1) hJ.rm (Nat.le_of_ble_eq_true rfl) rfl rfl (Nat.le_refl _) (Nat.le_refl _) rfl W1 rfl rfl (Nat.le_of_ble_eq_true rfl) rfl dX11_dares_5 rfl (fun v w hw => ?_)
  obtain ⟨rfl, rfl⟩ := hw
  generalize hdo2 : dq z1.1 = o2 at hf ⊢
  cases o2 with
  | none =>
    replace hf := onq_none hf
    show Z _ _ _ _ _ _ _ [.null] _
    refine Z.astoreN (n := 10) dX11_dares_8 rfl (by decide) rfl ?_
    refine Z.aloadN (n := 12) dX11_dares_10 rfl rfl ?_
    refine Z.ifnullN (tgt := 34) dX11_dares_12 rfl ?_
    refine Z.fg [0, 1, 2, 3, 4] ?_
    exact zX11_dares_34 hJ hPo _ hf
  | some t3 =>
    replace hf := onq_some hf
    obtain ⟨r4, er4, hf⟩ := Option.bind_eq_some_iff.mp hf
    show Z _ _ _ _ _ _ _ [.ref (a (102 + t3))] _
    refine Z.astore (n := 10) dX11_dares_8 rfl (by decide) rfl ?_
    refine Z.aload (n := 12) dX11_dares_10 rfl rfl ?_
    refine Z.ifnull (n := 15) dX11_dares_12 rfl ?_
    refine Z.aload_n (n := 16) dX11_dares_15 rfl rfl ?_
    refine Z.getf (n := 19) fX11_12 dX11_dares_16 rfl W0 rfl ?_
    refine Z.iload_n (n := 20) dX11_dares_19 rfl rfl ?_
    obtain ⟨z5, ez5, hf⟩ := Option.bind_eq_some_iff.mp hf
    refine Z.callV (n := 23) vX11_58 (ctX3_has ez5) hJ.rm (Nat.le_of_ble_eq_true rfl) rfl rfl (Nat.le_refl _) (Nat.le_refl _) rfl W1 rfl rfl (Nat.le_of_ble_eq_true rfl) rfl dX11_dares_20 rfl (fun v w hw => ?_)
    obtain ⟨rfl, rfl⟩ := hw
    show Z _ _ _ _ _ _ _ [.int z5.1] _
    refine Z.if_eq (tgt := 34) (n := 26) dX11_dares_23 rfl rfl (fun c6 => ?_) (fun c6 => ?_)
    · rw [if_pos c6] at hf
      refine Z.fg [0, 1, 2, 3, 4] ?_
      exact zX11_dares_34 hJ hPo _ hf
    · rw [if_neg c6] at hf
      refine Z.iload_n (n := 27) dX11_dares_26 rfl rfl ?_
      refine Z.iconst (n := 28) (v := 1) dX11_dares_27 rfl (by decide +kernel) ?_
      obtain ⟨z7, ez7, hf⟩ := Option.bind_eq_some_iff.mp hf
      refine Z.callS (n := 31) vX11_46 (ctX11_outside ez7) hJ.rm (Nat.le_of_ble_eq_true rfl) rfl rfl (Nat.le_refl _) (Nat.le_refl _) rfl (Nat.le_of_ble_eq_true rfl) rfl dX11_dares_28 rfl (fun v w hw => ?_)
      obtain ⟨rfl, rfl⟩ := hw
      show Z _ _ _ _ _ _ _ [.int z7.1] _
      refine Z.if_eq (tgt := 36) (n := 34) dX11_dares_31 rfl rfl (fun c8 => ?_) (fun c8 => ?_)
      · rw [if_pos c8] at hf
        refine Z.iload_n (n := 37) dX11_dares_36 rfl rfl ?_
        refine Z.if_ne (tgt := 53) (n := 40) dX11_dares_37 rfl rfl (fun c9 => ?_) (fun c9 => ?_)
        · rw [if_neg c9] at hf
          refine Z.aload (n := 55) dX11_dares_53 rfl rfl ?_
          refine Z.aload_n (n := 56) dX11_dares_55 rfl rfl ?_
          refine Z.getf (n := 59) fX11_12 dX11_dares_56 rfl W0 rfl ?_
          refine Z.iload_n (n := 60) dX11_dares_59 rfl rfl ?_
          obtain ⟨z10, ez10, hf⟩ := Option.bind_eq_some_iff.mp hf
          obtain ⟨q9, hq9, hu9⟩ := uS_X11_157_X5 (hPo _ _ er4)
          refine Z.callU (n := 63) hu9 (ctX5_hunters (102 + t3) (At.pool er4) (hPo _ _ er4) ez10) hJ.rm (Nat.le_of_ble_eq_true rfl) rfl rfl (Nat.le_refl _) (Nat.le_refl _) rfl ((At.pool er4) _) hq9 (Nat.le_of_ble_eq_true rfl) rfl dX11_dares_60 rfl (fun v w hw => ?_)
          obtain ⟨rfl, rfl⟩ := hw
          show Z _ _ _ _ _ _ _ [.int z10.1] _
          refine Z.fg [0, 1, 2, 3, 4] ?_
          exact zX11_dares_63 hJ hPo _ _ hf
        · rw [if_pos c9] at hf
          refine Z.aload (n := 42) dX11_dares_40 rfl rfl ?_
          refine Z.aload_n (n := 43) dX11_dares_42 rfl rfl ?_
          refine Z.getf (n := 46) fX11_12 dX11_dares_43 rfl W0 rfl ?_
          refine Z.iload_n (n := 47) dX11_dares_46 rfl rfl ?_
          obtain ⟨z11, ez11, hf⟩ := Option.bind_eq_some_iff.mp hf
          obtain ⟨q9, hq9, hu9⟩ := uS_X11_153_X5 (hPo _ _ er4)
          refine Z.callU (n := 50) hu9 (ctX5_prey (102 + t3) (At.pool er4) (hPo _ _ er4) ez11) hJ.rm (Nat.le_of_ble_eq_true rfl) rfl rfl (Nat.le_refl _) (Nat.le_refl _) rfl ((At.pool er4) _) hq9 (Nat.le_of_ble_eq_true rfl) rfl dX11_dares_47 rfl (fun v w hw => ?_)
          obtain ⟨rfl, rfl⟩ := hw
          show Z _ _ _ _ _ _ _ [.int z11.1] _
          refine Z.goto (tgt := 63) dX11_dares_50 rfl ?_
          refine Z.fg [0, 1, 2, 3, 4] ?_
          exact zX11_dares_63 hJ hPo _ _ hf
      · rw [if_neg c8] at hf
        refine Z.fg [0, 1, 2, 3, 4] ?_
        exact zX11_dares_34 hJ hPo _ hf
theorem uS_X11_160_X5 {c : Nat} (hc : SCX5 c) : ∃ q : vw_C, vwCl[c]? = some q ∧ CU RX11 160 q.1 mX5_firstWar 1 := by
  rcases hc with rfl | rfl | rfl | rfl | rfl | rfl | rfl
  · exact ⟨_, rfl, uX11_160_X0⟩
  · exact ⟨_, rfl, uX11_160_X1⟩
  · exact ⟨_, rfl, uX11_160_X2⟩
  · exact ⟨_, rfl, uX11_160_X4⟩
  · exact ⟨_, rfl, uX11_160_X5⟩
  · exact ⟨_, rfl, uX11_160_X7⟩
  · exact ⟨_, rfl, uX11_160_X9⟩
def fX11_first_25 (P : PT) (s0 : Int32) (h : HT) : Option (Int32 × HT) :=
  some (s0, h)
set_option maxHeartbeats 4000000 in
theorem zX11_first_25 {g : GP} {a : Nat → Nat} {P : PT} {J : JT} {z : Int32 × HT} (hJ : JX g 6 0 0 (PoI g a P z) J) (hPo : PoolOK P) (s0 : Int32) (h : HT) (hf : fX11_first_25 P s0 h = some z) : Z g mX11_first J 0 0 25 [none, none, none] [.int s0] (WD g a h P) := by
  unfold fX11_first_25 at hf
  have hz := Option.some.inj hf
  subst hz
  exact Z.iret hJ dX11_first_25 rfl (Nat.le_refl _) (Nat.le_refl _) ⟨rfl, rfl⟩
def fX11_first (P : PT) (l1 : Int32) (h : HT) : Option (Int32 × HT) :=
  Option.bind (fX3_standingAt l1 h) fun z1 =>
  onq (dq z1.1) (fX11_first_25 P (-1) z1.2) (fun t3 => Option.bind (P[t3]?) fun r4 => (Option.bind (fX5_firstWar r4 z1.2) fun z5 =>
  fX11_first_25 P z5.1 z5.2))
set_option maxHeartbeats 4000000 in
theorem ctX11_first {g : GP} {a : Nat → Nat} {P : PT} {h : HT} {z : Int32 × HT} {l1 : Int32} (hPo : PoolOK P) (hf : fX11_first P l1 h = some z) : Ct g 6 0 0 mX11_first [.ref (a 0), .int l1] (WD g a h P) (PoI g a P z) := by
  refine Ct.of (by decide +kernel) (Nat.le_of_ble_eq_true rfl) fun J hJ => ?_
  show Z g mX11_first J 0 0 0 [some (.ref (a 0)), some (.int l1), none] [] (WD g a h P)
  unfold fX11_first at hf
  refine Z.aload_n (n := 1) dX11_first_0 rfl rfl ?_
  refine Z.getf (n := 4) fX11_12 dX11_first_1 rfl W0 rfl ?_
  refine Z.iload_n (n := 5) dX11_first_4 rfl rfl ?_
  obtain ⟨z1, ez1, hf⟩ := Option.bind_eq_some_iff.mp hf
  refine Z.callV (n := 8) vX11_126 (ctX3_standingAt ez1) hJ.rm (Nat.le_of_ble_eq_true rfl) rfl rfl (Nat.le_refl _) (Nat.le_refl _) rfl W1 rfl rfl (Nat.le_of_ble_eq_true rfl) rfl dX11_first_5 rfl (fun v w hw => ?_)
  obtain ⟨rfl, rfl⟩ := hw
  generalize hdo2 : dq z1.1 = o2 at hf ⊢
  cases o2 with
  | none =>
    replace hf := onq_none hf
    show Z _ _ _ _ _ _ _ [.null] _
    refine Z.astore_nN (n := 9) dX11_first_8 rfl (by decide) rfl ?_
    refine Z.aload_nN (n := 10) dX11_first_9 rfl rfl ?_
    refine Z.ifnonnullN (n := 13) dX11_first_10 rfl ?_
    refine Z.iconst (n := 14) (v := -1) dX11_first_13 rfl (by decide +kernel) ?_
    refine Z.goto (tgt := 25) dX11_first_14 rfl ?_
    refine Z.fg [0, 1, 2] ?_
    exact zX11_first_25 hJ hPo _ _ hf
  | some t3 =>
    replace hf := onq_some hf
    obtain ⟨r4, er4, hf⟩ := Option.bind_eq_some_iff.mp hf
    show Z _ _ _ _ _ _ _ [.ref (a (102 + t3))] _
    refine Z.astore_n (n := 9) dX11_first_8 rfl (by decide) rfl ?_
    refine Z.aload_n (n := 10) dX11_first_9 rfl rfl ?_
    refine Z.ifnonnull (tgt := 17) dX11_first_10 rfl ?_
    refine Z.aload_n (n := 18) dX11_first_17 rfl rfl ?_
    refine Z.aload_n (n := 19) dX11_first_18 rfl rfl ?_
    refine Z.getf (n := 22) fX11_12 dX11_first_19 rfl W0 rfl ?_
    obtain ⟨z5, ez5, hf⟩ := Option.bind_eq_some_iff.mp hf
    obtain ⟨q9, hq9, hu9⟩ := uS_X11_160_X5 (hPo _ _ er4)
    refine Z.callU (n := 25) hu9 (ctX5_firstWar (102 + t3) (At.pool er4) (hPo _ _ er4) ez5) hJ.rm (Nat.le_of_ble_eq_true rfl) rfl rfl (Nat.le_refl _) (Nat.le_refl _) rfl ((At.pool er4) _) hq9 (Nat.le_of_ble_eq_true rfl) rfl dX11_first_22 rfl (fun v w hw => ?_)
    obtain ⟨rfl, rfl⟩ := hw
    show Z _ _ _ _ _ _ _ [.int z5.1] _
    refine Z.fg [0, 1, 2] ?_
    exact zX11_first_25 hJ hPo _ _ hf
