/-! walks, by program: 16.c9.lean.txt -/
def fX5_note_21 (h : HT) : Option (Int32 × HT) :=
  some (0, h)
set_option maxHeartbeats 4000000 in
theorem zX5_note_21 {g : GP} {a : Nat → Nat} {P : PT} {J : JT} {z : Int32 × HT} (hJ : JX g 1 0 0 (PoV g a P z) J) (h : HT) (hf : fX5_note_21 h = some z) : Z g mX5_note J 0 0 21 [none, none] [] (WD g a h P) := by
  unfold fX5_note_21 at hf
  have hz := Option.some.inj hf
  subst hz
  exact Z.vret hJ dX5_note_21 rfl (Nat.le_refl _) (Nat.le_refl _) ⟨rfl, rfl⟩
def fX5_note (l1 : Int32) (h : HT) : Option (Int32 × HT) :=
  if 21 ≤ ((hu h 91 0 ((h 91 0) + (1 : Int32))) 91 0) then (fX5_note_21 (hu h 91 0 ((h 91 0) + (1 : Int32))))
  else (Option.bind (ck 21 ((hu h 91 0 ((h 91 0) + (1 : Int32))) 91 0)) fun j2 =>
  fX5_note_21 (hu (hu h 91 0 ((h 91 0) + (1 : Int32))) 91 j2 l1))
set_option maxHeartbeats 4000000 in
theorem ctX5_note {g : GP} {a : Nat → Nat} {P : PT} {h : HT} {z : Int32 × HT} {l1 : Int32} (hf : fX5_note l1 h = some z) : Ct g 1 0 0 mX5_note [.ref (a 91), .int l1] (WD g a h P) (PoV g a P z) := by
  refine Ct.of (by decide +kernel) (Nat.le_of_ble_eq_true rfl) fun J hJ => ?_
  show Z g mX5_note J 0 0 0 [some (.ref (a 91)), some (.int l1)] [] (WD g a h P)
  unfold fX5_note at hf
  refine Z.aload_n (n := 1) dX5_note_0 rfl rfl ?_
  refine Z.iconst (n := 2) (v := 0) dX5_note_1 rfl (by decide +kernel) ?_
  refine Z.dup2 (n := 3) dX5_note_2 rfl rfl rfl ?_
  refine Z.iald (j := 0) (n := 4) dX5_note_3 rfl W91 (by decide +kernel) (by decide) (by decide) ?_
  refine Z.iconst (n := 5) (v := 1) dX5_note_4 rfl (by decide +kernel) ?_
  refine Z.iadd (n := 6) dX5_note_5 rfl ?_
  refine Z.iast (j := 0) (n := 7) dX5_note_6 rfl W91 (by decide +kernel) (by decide) (by decide) W91s ?_
  refine Z.aload_n (n := 8) dX5_note_7 rfl rfl ?_
  refine Z.iconst (n := 9) (v := 0) dX5_note_8 rfl (by decide +kernel) ?_
  refine Z.iald (j := 0) (n := 10) dX5_note_9 rfl W91 (by decide +kernel) (by decide) (by decide) ?_
  refine Z.aload_n (n := 11) dX5_note_10 rfl rfl ?_
  refine Z.alen (ty := 0) (v := 21) (n := 12) dX5_note_11 rfl W91 rfl (show Int32.ofNat 21 = 21 by decide +kernel) ?_
  refine Z.icmp_ge (tgt := 21) (n := 15) dX5_note_12 rfl rfl (fun c1 => ?_) (fun c1 => ?_)
  · rw [if_pos c1] at hf
    refine Z.fg [0, 1] ?_
    exact zX5_note_21 hJ _ hf
  · rw [if_neg c1] at hf
    refine Z.aload_n (n := 16) dX5_note_15 rfl rfl ?_
    refine Z.aload_n (n := 17) dX5_note_16 rfl rfl ?_
    refine Z.iconst (n := 18) (v := 0) dX5_note_17 rfl (by decide +kernel) ?_
    refine Z.iald (j := 0) (n := 19) dX5_note_18 rfl W91 (by decide +kernel) (by decide) (by decide) ?_
    refine Z.iload_n (n := 20) dX5_note_19 rfl rfl ?_
    obtain ⟨j2, ej2, hf⟩ := Option.bind_eq_some_iff.mp hf
    obtain ⟨hij2, hlj2⟩ := ck_spec ej2
    refine Z.iast (j := j2) (n := 21) dX5_note_20 rfl W91 hij2 hlj2 (by decide) W91s ?_
    refine Z.fg [0, 1] ?_
    exact zX5_note_21 hJ _ hf
theorem fS_X5_9_X5 {c : Nat} (hc : SCX5 c) : FdOK RX5 9 c 0 := by
  rcases hc with rfl | rfl | rfl | rfl | rfl | rfl | rfl
  · exact fX5_9_X0
  · exact fX5_9_X1
  · exact fX5_9_X2
  · exact fX5_9_X4
  · exact fX5_9_X5
  · exact fX5_9_X7
  · exact fX5_9_X9
def fX5_comesAct (r : SR) (l2 : Int32) (h : HT) : Option (Int32 × HT) :=
  Option.bind (fX5_note 1 h) fun z1 =>
  some (l2 + r.2.1, z1.2)
set_option maxHeartbeats 4000000 in
theorem ctX5_comesAct {g : GP} {a : Nat → Nat} {P : PT} {h : HT} {z : Int32 × HT} {r : SR} {l2 : Int32} (k : Nat) (he : At g a P k r) (hc : SCX5 r.1) (hf : fX5_comesAct r l2 h = some z) : Ct g 2 0 0 mX5_comesAct [.ref (a k), .ref (a 91), .int l2] (WD g a h P) (PoI g a P z) := by
  refine Ct.of (by decide +kernel) (Nat.le_of_ble_eq_true rfl) fun J hJ => ?_
  show Z g mX5_comesAct J 0 0 0 [some (.ref (a k)), some (.ref (a 91)), some (.int l2)] [] (WD g a h P)
  unfold fX5_comesAct at hf
  refine Z.aload_n (n := 1) dX5_comesAct_0 rfl rfl ?_
  refine Z.iconst (n := 2) (v := 1) dX5_comesAct_1 rfl (by decide +kernel) ?_
  obtain ⟨z1, ez1, hf⟩ := Option.bind_eq_some_iff.mp hf
  refine Z.callS (n := 5) vX5_87 (ctX5_note ez1) hJ.rm (Nat.le_of_ble_eq_true rfl) rfl rfl (Nat.le_refl _) (Nat.le_refl _) rfl (Nat.le_of_ble_eq_true rfl) rfl dX5_comesAct_2 rfl (fun v w hw => ?_)
  obtain ⟨rfl, rfl⟩ := hw
  show Z _ _ _ _ _ _ _ [] _
  refine Z.iload_n (n := 6) dX5_comesAct_5 rfl rfl ?_
  refine Z.aload_n (n := 7) dX5_comesAct_6 rfl rfl ?_
  refine Z.getf (n := 10) (fS_X5_9_X5 hc) dX5_comesAct_7 rfl (he _) rfl ?_
  refine Z.iadd (n := 11) dX5_comesAct_10 rfl ?_
  have hz := Option.some.inj hf
  subst hz
  exact Z.iret hJ dX5_comesAct_11 rfl (Nat.le_refl _) (Nat.le_refl _) ⟨rfl, rfl⟩
theorem fS_X1_34_X1 {c : Nat} (hc : SCX1 c) : FdOK RX1 34 c 0 := by
  cases (show c = 1 from hc)
  · exact fX1_34_X1
def fX1_comesAct (r : SR) (l2 : Int32) (h : HT) : Option (Int32 × HT) :=
  Option.bind (fX5_note 51 h) fun z1 =>
  Option.bind (fX5_comesAct r l2 z1.2) fun z2 =>
  some (z2.1 ^^^ r.2.1, z2.2)
set_option maxHeartbeats 4000000 in
theorem ctX1_comesAct {g : GP} {a : Nat → Nat} {P : PT} {h : HT} {z : Int32 × HT} {r : SR} {l2 : Int32} (k : Nat) (he : At g a P k r) (hc : SCX1 r.1) (hf : fX1_comesAct r l2 h = some z) : Ct g 3 0 0 mX1_comesAct [.ref (a k), .ref (a 91), .int l2] (WD g a h P) (PoI g a P z) := by
  refine Ct.of (by decide +kernel) (Nat.le_of_ble_eq_true rfl) fun J hJ => ?_
  show Z g mX1_comesAct J 0 0 0 [some (.ref (a k)), some (.ref (a 91)), some (.int l2)] [] (WD g a h P)
  unfold fX1_comesAct at hf
  refine Z.aload_n (n := 1) dX1_comesAct_0 rfl rfl ?_
  refine Z.bipush (n := 3) (v := 51) dX1_comesAct_1 rfl (by decide +kernel) ?_
  obtain ⟨z1, ez1, hf⟩ := Option.bind_eq_some_iff.mp hf
  refine Z.callT (n := 6) vX1_26 (ctX5_note ez1) hJ.rm (Nat.le_of_ble_eq_true rfl) rfl rfl (Nat.le_refl _) (Nat.le_refl _) rfl (Nat.le_of_ble_eq_true rfl) rfl dX1_comesAct_3 rfl (fun v w hw => ?_)
  obtain ⟨rfl, rfl⟩ := hw
  show Z _ _ _ _ _ _ _ [] _
  refine Z.aload_n (n := 7) dX1_comesAct_6 rfl rfl ?_
  refine Z.aload_n (n := 8) dX1_comesAct_7 rfl rfl ?_
  refine Z.iload_n (n := 9) dX1_comesAct_8 rfl rfl ?_
  obtain ⟨z2, ez2, hf⟩ := Option.bind_eq_some_iff.mp hf
  obtain ⟨q9, hq9⟩ := SC_cl (SCX1_X5 hc)
  refine Z.callQ (n := 12) vX1_30 (ctX5_comesAct k he (SCX1_X5 hc) ez2) hJ.rm (Nat.le_of_ble_eq_true rfl) rfl rfl (Nat.le_refl _) (Nat.le_refl _) rfl (he _) hq9 (Nat.le_of_ble_eq_true rfl) rfl dX1_comesAct_9 rfl (fun v w hw => ?_)
  obtain ⟨rfl, rfl⟩ := hw
  show Z _ _ _ _ _ _ _ [.int z2.1] _
  refine Z.aload_n (n := 13) dX1_comesAct_12 rfl rfl ?_
  refine Z.getf (n := 16) (fS_X1_34_X1 hc) dX1_comesAct_13 rfl (he _) rfl ?_
  refine Z.ixor (n := 17) dX1_comesAct_16 rfl ?_
  have hz := Option.some.inj hf
  subst hz
  exact Z.iret hJ dX1_comesAct_17 rfl (Nat.le_refl _) (Nat.le_refl _) ⟨rfl, rfl⟩
def fX4_comesAct (r : SR) (l2 : Int32) (h : HT) : Option (Int32 × HT) :=
  Option.bind (fX5_note 21 h) fun z1 =>
  Option.bind (fX5_comesAct r l2 z1.2) fun z2 =>
  some (-z2.1, z2.2)
set_option maxHeartbeats 4000000 in
theorem ctX4_comesAct {g : GP} {a : Nat → Nat} {P : PT} {h : HT} {z : Int32 × HT} {r : SR} {l2 : Int32} (k : Nat) (he : At g a P k r) (hc : SCX4 r.1) (hf : fX4_comesAct r l2 h = some z) : Ct g 3 0 0 mX4_comesAct [.ref (a k), .ref (a 91), .int l2] (WD g a h P) (PoI g a P z) := by
  refine Ct.of (by decide +kernel) (Nat.le_of_ble_eq_true rfl) fun J hJ => ?_
  show Z g mX4_comesAct J 0 0 0 [some (.ref (a k)), some (.ref (a 91)), some (.int l2)] [] (WD g a h P)
  unfold fX4_comesAct at hf
  refine Z.aload_n (n := 1) dX4_comesAct_0 rfl rfl ?_
  refine Z.bipush (n := 3) (v := 21) dX4_comesAct_1 rfl (by decide +kernel) ?_
  obtain ⟨z1, ez1, hf⟩ := Option.bind_eq_some_iff.mp hf
  refine Z.callT (n := 6) vX4_30 (ctX5_note ez1) hJ.rm (Nat.le_of_ble_eq_true rfl) rfl rfl (Nat.le_refl _) (Nat.le_refl _) rfl (Nat.le_of_ble_eq_true rfl) rfl dX4_comesAct_3 rfl (fun v w hw => ?_)
  obtain ⟨rfl, rfl⟩ := hw
  show Z _ _ _ _ _ _ _ [] _
  refine Z.aload_n (n := 7) dX4_comesAct_6 rfl rfl ?_
  refine Z.aload_n (n := 8) dX4_comesAct_7 rfl rfl ?_
  refine Z.iload_n (n := 9) dX4_comesAct_8 rfl rfl ?_
  obtain ⟨z2, ez2, hf⟩ := Option.bind_eq_some_iff.mp hf
  obtain ⟨q9, hq9⟩ := SC_cl (SCX4_X5 hc)
  refine Z.callP (n := 12) vX4_34 (ctX5_comesAct k he (SCX4_X5 hc) ez2) hJ.rm (Nat.le_of_ble_eq_true rfl) rfl rfl (Nat.le_refl _) (Nat.le_refl _) rfl (he _) hq9 (Nat.le_of_ble_eq_true rfl) rfl dX4_comesAct_9 rfl (fun v w hw => ?_)
  obtain ⟨rfl, rfl⟩ := hw
  show Z _ _ _ _ _ _ _ [.int z2.1] _
  refine Z.ineg (n := 13) dX4_comesAct_12 rfl ?_
  have hz := Option.some.inj hf
  subst hz
  exact Z.iret hJ dX4_comesAct_13 rfl (Nat.le_refl _) (Nat.le_refl _) ⟨rfl, rfl⟩
def fv_comesAct (r : SR) (l2 : Int32) (h : HT) : Option (Int32 × HT) :=
  if r.1 = 0 then fX5_comesAct r l2 h else if r.1 = 1 then fX1_comesAct r l2 h else if r.1 = 2 then fX4_comesAct r l2 h else if r.1 = 4 then fX4_comesAct r l2 h else if r.1 = 5 then fX5_comesAct r l2 h else if r.1 = 7 then fX5_comesAct r l2 h else if r.1 = 9 then fX5_comesAct r l2 h else none
theorem dv_X11_207_X5 {g : GP} {a : Nat → Nat} {P : PT} {r : SR} (k : Nat) (he : At g a P k r) (hc : SCX5 r.1) {l2 : Int32} {h : HT} {z : Int32 × HT} (hf : fv_comesAct r l2 h = some z) : ∃ (M9 : MI) (q : vw_C) (d9 : Nat), vwCl[r.1]? = some q ∧ d9 ≤ 3 ∧ CU RX11 207 q.1 M9 2 ∧ Ct g d9 0 0 M9 [.ref (a k), .ref (a 91), .int l2] (WD g a h P) (PoI g a P z) := by
  obtain ⟨c, nu, v⟩ := r
  have hc : SCX5 c := hc
  rcases hc with rfl | rfl | rfl | rfl | rfl | rfl | rfl
  · exact ⟨mX5_comesAct, _, 2, rfl, by decide, uX11_207_X0, ctX5_comesAct k he scX5_0 hf⟩
  · exact ⟨mX1_comesAct, _, 3, rfl, by decide, uX11_207_X1, ctX1_comesAct k he rfl hf⟩
  · exact ⟨mX4_comesAct, _, 3, rfl, by decide, uX11_207_X2, ctX4_comesAct k he scX4_2 hf⟩
  · exact ⟨mX4_comesAct, _, 3, rfl, by decide, uX11_207_X4, ctX4_comesAct k he scX4_4 hf⟩
  · exact ⟨mX5_comesAct, _, 2, rfl, by decide, uX11_207_X5, ctX5_comesAct k he scX5_5 hf⟩
  · exact ⟨mX5_comesAct, _, 2, rfl, by decide, uX11_207_X7, ctX5_comesAct k he scX5_7 hf⟩
  · exact ⟨mX5_comesAct, _, 2, rfl, by decide, uX11_207_X9, ctX5_comesAct k he scX5_9 hf⟩
theorem dv_X5_91_X5 {g : GP} {a : Nat → Nat} {P : PT} {r : SR} (k : Nat) (he : At g a P k r) (hc : SCX5 r.1) {l2 : Int32} {h : HT} {z : Int32 × HT} (hf : fv_comesAct r l2 h = some z) : ∃ (M9 : MI) (q : vw_C) (d9 : Nat), vwCl[r.1]? = some q ∧ d9 ≤ 3 ∧ CU RX5 91 q.1 M9 2 ∧ Ct g d9 0 0 M9 [.ref (a k), .ref (a 91), .int l2] (WD g a h P) (PoI g a P z) := by
  obtain ⟨c, nu, v⟩ := r
  have hc : SCX5 c := hc
  rcases hc with rfl | rfl | rfl | rfl | rfl | rfl | rfl
  · exact ⟨mX5_comesAct, _, 2, rfl, by decide, uX5_91_X0, ctX5_comesAct k he scX5_0 hf⟩
  · exact ⟨mX1_comesAct, _, 3, rfl, by decide, uX5_91_X1, ctX1_comesAct k he rfl hf⟩
  · exact ⟨mX4_comesAct, _, 3, rfl, by decide, uX5_91_X2, ctX4_comesAct k he scX4_2 hf⟩
  · exact ⟨mX4_comesAct, _, 3, rfl, by decide, uX5_91_X4, ctX4_comesAct k he scX4_4 hf⟩
  · exact ⟨mX5_comesAct, _, 2, rfl, by decide, uX5_91_X5, ctX5_comesAct k he scX5_5 hf⟩
  · exact ⟨mX5_comesAct, _, 2, rfl, by decide, uX5_91_X7, ctX5_comesAct k he scX5_7 hf⟩
  · exact ⟨mX5_comesAct, _, 2, rfl, by decide, uX5_91_X9, ctX5_comesAct k he scX5_9 hf⟩
theorem fS_X5_15_X5 {c : Nat} (hc : SCX5 c) : FdOK RX5 15 c 1 := by
  rcases hc with rfl | rfl | rfl | rfl | rfl | rfl | rfl
  · exact fX5_15_X0
  · exact fX5_15_X1
  · exact fX5_15_X2
  · exact fX5_15_X4
  · exact fX5_15_X5
  · exact fX5_15_X7
  · exact fX5_15_X9
def fX5_daresAct (r : SR) (l2 : Int32) (h : HT) : Option (Int32 × HT) :=
  Option.bind (fX5_note 2 h) fun z1 =>
  Option.bind (fv_comesAct r l2 z1.2) fun z2 =>
  some (z2.1 - r.2.2, z2.2)
set_option maxHeartbeats 4000000 in
theorem ctX5_daresAct {g : GP} {a : Nat → Nat} {P : PT} {h : HT} {z : Int32 × HT} {r : SR} {l2 : Int32} (k : Nat) (he : At g a P k r) (hc : SCX5 r.1) (hf : fX5_daresAct r l2 h = some z) : Ct g 4 0 0 mX5_daresAct [.ref (a k), .ref (a 91), .int l2] (WD g a h P) (PoI g a P z) := by
  refine Ct.of (by decide +kernel) (Nat.le_of_ble_eq_true rfl) fun J hJ => ?_
  show Z g mX5_daresAct J 0 0 0 [some (.ref (a k)), some (.ref (a 91)), some (.int l2)] [] (WD g a h P)
  unfold fX5_daresAct at hf
  refine Z.aload_n (n := 1) dX5_daresAct_0 rfl rfl ?_
  refine Z.iconst (n := 2) (v := 2) dX5_daresAct_1 rfl (by decide +kernel) ?_
  obtain ⟨z1, ez1, hf⟩ := Option.bind_eq_some_iff.mp hf
  refine Z.callS (n := 5) vX5_87 (ctX5_note ez1) hJ.rm (Nat.le_of_ble_eq_true rfl) rfl rfl (Nat.le_refl _) (Nat.le_refl _) rfl (Nat.le_of_ble_eq_true rfl) rfl dX5_daresAct_2 rfl (fun v w hw => ?_)
  obtain ⟨rfl, rfl⟩ := hw
  show Z _ _ _ _ _ _ _ [] _
  refine Z.aload_n (n := 6) dX5_daresAct_5 rfl rfl ?_
  refine Z.aload_n (n := 7) dX5_daresAct_6 rfl rfl ?_
  refine Z.iload_n (n := 8) dX5_daresAct_7 rfl rfl ?_
  obtain ⟨z2, ez2, hf⟩ := Option.bind_eq_some_iff.mp hf
  obtain ⟨M9, q9, d9, hq9, hd9, hu9, hC9⟩ := dv_X5_91_X5 (g := g) (a := a) (P := P) k he hc ez2
  refine Z.callU (n := 11) hu9 hC9 hJ.rm (by omega) rfl rfl (Nat.le_refl _) (Nat.le_refl _) rfl (he _) hq9 (Nat.le_of_ble_eq_true rfl) rfl dX5_daresAct_8 rfl (fun v w hw => ?_)
  obtain ⟨rfl, rfl⟩ := hw
  show Z _ _ _ _ _ _ _ [.int z2.1] _
  refine Z.aload_n (n := 12) dX5_daresAct_11 rfl rfl ?_
  refine Z.getf (n := 15) (fS_X5_15_X5 hc) dX5_daresAct_12 rfl (he _) rfl ?_
  refine Z.isub (n := 16) dX5_daresAct_15 rfl ?_
  have hz := Option.some.inj hf
  subst hz
  exact Z.iret hJ dX5_daresAct_16 rfl (Nat.le_refl _) (Nat.le_refl _) ⟨rfl, rfl⟩
def fX0_daresAct (r : SR) (l2 : Int32) (h : HT) : Option (Int32 × HT) :=
  Option.bind (fX5_note 11 h) fun z1 =>
  Option.bind (fX5_daresAct r (l2 * (3 : Int32)) z1.2) fun z2 =>
  some (z2.1, z2.2)
set_option maxHeartbeats 4000000 in
theorem ctX0_daresAct {g : GP} {a : Nat → Nat} {P : PT} {h : HT} {z : Int32 × HT} {r : SR} {l2 : Int32} (k : Nat) (he : At g a P k r) (hc : SCX0 r.1) (hf : fX0_daresAct r l2 h = some z) : Ct g 5 0 0 mX0_daresAct [.ref (a k), .ref (a 91), .int l2] (WD g a h P) (PoI g a P z) := by
  refine Ct.of (by decide +kernel) (Nat.le_of_ble_eq_true rfl) fun J hJ => ?_
  show Z g mX0_daresAct J 0 0 0 [some (.ref (a k)), some (.ref (a 91)), some (.int l2)] [] (WD g a h P)
  unfold fX0_daresAct at hf
  refine Z.aload_n (n := 1) dX0_daresAct_0 rfl rfl ?_
  refine Z.bipush (n := 3) (v := 11) dX0_daresAct_1 rfl (by decide +kernel) ?_
  obtain ⟨z1, ez1, hf⟩ := Option.bind_eq_some_iff.mp hf
  refine Z.callT (n := 6) vX0_13 (ctX5_note ez1) hJ.rm (Nat.le_of_ble_eq_true rfl) rfl rfl (Nat.le_refl _) (Nat.le_refl _) rfl (Nat.le_of_ble_eq_true rfl) rfl dX0_daresAct_3 rfl (fun v w hw => ?_)
  obtain ⟨rfl, rfl⟩ := hw
  show Z _ _ _ _ _ _ _ [] _
  refine Z.aload_n (n := 7) dX0_daresAct_6 rfl rfl ?_
  refine Z.aload_n (n := 8) dX0_daresAct_7 rfl rfl ?_
  refine Z.iload_n (n := 9) dX0_daresAct_8 rfl rfl ?_
  refine Z.iconst (n := 10) (v := 3) dX0_daresAct_9 rfl (by decide +kernel) ?_
  refine Z.imul (n := 11) dX0_daresAct_10 rfl ?_
  obtain ⟨z2, ez2, hf⟩ := Option.bind_eq_some_iff.mp hf
  obtain ⟨q9, hq9⟩ := SC_cl (SCX0_X5 hc)
  refine Z.callP (n := 14) vX0_17 (ctX5_daresAct k he (SCX0_X5 hc) ez2) hJ.rm (Nat.le_of_ble_eq_true rfl) rfl rfl (Nat.le_refl _) (Nat.le_refl _) rfl (he _) hq9 (Nat.le_of_ble_eq_true rfl) rfl dX0_daresAct_11 rfl (fun v w hw => ?_)
  obtain ⟨rfl, rfl⟩ := hw
  show Z _ _ _ _ _ _ _ [.int z2.1] _
  have hz := Option.some.inj hf
  subst hz
  exact Z.iret hJ dX0_daresAct_14 rfl (Nat.le_refl _) (Nat.le_refl _) ⟨rfl, rfl⟩
theorem fS_X7_53_X7 {c : Nat} (hc : SCX7 c) : FdOK RX7 53 c 1 := by
  cases (show c = 7 from hc)
  · exact fX7_53_X7
def fX7_daresAct (r : SR) (l2 : Int32) (h : HT) : Option (Int32 × HT) :=
  Option.bind (fX5_note 61 h) fun z1 =>
  Option.bind (fX5_daresAct r l2 z1.2) fun z2 =>
  some (z2.1 + r.2.2, z2.2)
set_option maxHeartbeats 4000000 in
theorem ctX7_daresAct {g : GP} {a : Nat → Nat} {P : PT} {h : HT} {z : Int32 × HT} {r : SR} {l2 : Int32} (k : Nat) (he : At g a P k r) (hc : SCX7 r.1) (hf : fX7_daresAct r l2 h = some z) : Ct g 5 0 0 mX7_daresAct [.ref (a k), .ref (a 91), .int l2] (WD g a h P) (PoI g a P z) := by
  refine Ct.of (by decide +kernel) (Nat.le_of_ble_eq_true rfl) fun J hJ => ?_
  show Z g mX7_daresAct J 0 0 0 [some (.ref (a k)), some (.ref (a 91)), some (.int l2)] [] (WD g a h P)
  unfold fX7_daresAct at hf
  refine Z.aload_n (n := 1) dX7_daresAct_0 rfl rfl ?_
  refine Z.bipush (n := 3) (v := 61) dX7_daresAct_1 rfl (by decide +kernel) ?_
  obtain ⟨z1, ez1, hf⟩ := Option.bind_eq_some_iff.mp hf
  refine Z.callT (n := 6) vX7_45 (ctX5_note ez1) hJ.rm (Nat.le_of_ble_eq_true rfl) rfl rfl (Nat.le_refl _) (Nat.le_refl _) rfl (Nat.le_of_ble_eq_true rfl) rfl dX7_daresAct_3 rfl (fun v w hw => ?_)
  obtain ⟨rfl, rfl⟩ := hw
  show Z _ _ _ _ _ _ _ [] _
  refine Z.aload_n (n := 7) dX7_daresAct_6 rfl rfl ?_
  refine Z.aload_n (n := 8) dX7_daresAct_7 rfl rfl ?_
  refine Z.iload_n (n := 9) dX7_daresAct_8 rfl rfl ?_
  obtain ⟨z2, ez2, hf⟩ := Option.bind_eq_some_iff.mp hf
  obtain ⟨q9, hq9⟩ := SC_cl (SCX7_X5 hc)
  refine Z.callQ (n := 12) vX7_49 (ctX5_daresAct k he (SCX7_X5 hc) ez2) hJ.rm (Nat.le_of_ble_eq_true rfl) rfl rfl (Nat.le_refl _) (Nat.le_refl _) rfl (he _) hq9 (Nat.le_of_ble_eq_true rfl) rfl dX7_daresAct_9 rfl (fun v w hw => ?_)
  obtain ⟨rfl, rfl⟩ := hw
  show Z _ _ _ _ _ _ _ [.int z2.1] _
  refine Z.aload_n (n := 13) dX7_daresAct_12 rfl rfl ?_
  refine Z.getf (n := 16) (fS_X7_53_X7 hc) dX7_daresAct_13 rfl (he _) rfl ?_
  refine Z.iadd (n := 17) dX7_daresAct_16 rfl ?_
  have hz := Option.some.inj hf
  subst hz
  exact Z.iret hJ dX7_daresAct_17 rfl (Nat.le_refl _) (Nat.le_refl _) ⟨rfl, rfl⟩
def fv_daresAct (r : SR) (l2 : Int32) (h : HT) : Option (Int32 × HT) :=
  if r.1 = 0 then fX0_daresAct r l2 h else if r.1 = 1 then fX5_daresAct r l2 h else if r.1 = 2 then fX5_daresAct r l2 h else if r.1 = 4 then fX5_daresAct r l2 h else if r.1 = 5 then fX5_daresAct r l2 h else if r.1 = 7 then fX7_daresAct r l2 h else if r.1 = 9 then fX5_daresAct r l2 h else none
theorem dv_X11_211_X5 {g : GP} {a : Nat → Nat} {P : PT} {r : SR} (k : Nat) (he : At g a P k r) (hc : SCX5 r.1) {l2 : Int32} {h : HT} {z : Int32 × HT} (hf : fv_daresAct r l2 h = some z) : ∃ (M9 : MI) (q : vw_C) (d9 : Nat), vwCl[r.1]? = some q ∧ d9 ≤ 5 ∧ CU RX11 211 q.1 M9 2 ∧ Ct g d9 0 0 M9 [.ref (a k), .ref (a 91), .int l2] (WD g a h P) (PoI g a P z) := by
  obtain ⟨c, nu, v⟩ := r
  have hc : SCX5 c := hc
  rcases hc with rfl | rfl | rfl | rfl | rfl | rfl | rfl
  · exact ⟨mX0_daresAct, _, 5, rfl, by decide, uX11_211_X0, ctX0_daresAct k he rfl hf⟩
  · exact ⟨mX5_daresAct, _, 4, rfl, by decide, uX11_211_X1, ctX5_daresAct k he scX5_1 hf⟩
  · exact ⟨mX5_daresAct, _, 4, rfl, by decide, uX11_211_X2, ctX5_daresAct k he scX5_2 hf⟩
  · exact ⟨mX5_daresAct, _, 4, rfl, by decide, uX11_211_X4, ctX5_daresAct k he scX5_4 hf⟩
  · exact ⟨mX5_daresAct, _, 4, rfl, by decide, uX11_211_X5, ctX5_daresAct k he scX5_5 hf⟩
  · exact ⟨mX7_daresAct, _, 5, rfl, by decide, uX11_211_X7, ctX7_daresAct k he rfl hf⟩
  · exact ⟨mX5_daresAct, _, 4, rfl, by decide, uX11_211_X9, ctX5_daresAct k he scX5_9 hf⟩
theorem dv_X5_95_X5 {g : GP} {a : Nat → Nat} {P : PT} {r : SR} (k : Nat) (he : At g a P k r) (hc : SCX5 r.1) {l2 : Int32} {h : HT} {z : Int32 × HT} (hf : fv_daresAct r l2 h = some z) : ∃ (M9 : MI) (q : vw_C) (d9 : Nat), vwCl[r.1]? = some q ∧ d9 ≤ 5 ∧ CU RX5 95 q.1 M9 2 ∧ Ct g d9 0 0 M9 [.ref (a k), .ref (a 91), .int l2] (WD g a h P) (PoI g a P z) := by
  obtain ⟨c, nu, v⟩ := r
  have hc : SCX5 c := hc
  rcases hc with rfl | rfl | rfl | rfl | rfl | rfl | rfl
  · exact ⟨mX0_daresAct, _, 5, rfl, by decide, uX5_95_X0, ctX0_daresAct k he rfl hf⟩
  · exact ⟨mX5_daresAct, _, 4, rfl, by decide, uX5_95_X1, ctX5_daresAct k he scX5_1 hf⟩
  · exact ⟨mX5_daresAct, _, 4, rfl, by decide, uX5_95_X2, ctX5_daresAct k he scX5_2 hf⟩
  · exact ⟨mX5_daresAct, _, 4, rfl, by decide, uX5_95_X4, ctX5_daresAct k he scX5_4 hf⟩
  · exact ⟨mX5_daresAct, _, 4, rfl, by decide, uX5_95_X5, ctX5_daresAct k he scX5_5 hf⟩
  · exact ⟨mX7_daresAct, _, 5, rfl, by decide, uX5_95_X7, ctX7_daresAct k he rfl hf⟩
  · exact ⟨mX5_daresAct, _, 4, rfl, by decide, uX5_95_X9, ctX5_daresAct k he scX5_9 hf⟩
def fX5_holdsAct (r : SR) (l2 : Int32) (h : HT) : Option (Int32 × HT) :=
  Option.bind (fX5_note 3 h) fun z1 =>
  Option.bind (fv_daresAct r l2 z1.2) fun z2 =>
  some (z2.1 * (2 : Int32), z2.2)
set_option maxHeartbeats 4000000 in
theorem ctX5_holdsAct {g : GP} {a : Nat → Nat} {P : PT} {h : HT} {z : Int32 × HT} {r : SR} {l2 : Int32} (k : Nat) (he : At g a P k r) (hc : SCX5 r.1) (hf : fX5_holdsAct r l2 h = some z) : Ct g 6 0 0 mX5_holdsAct [.ref (a k), .ref (a 91), .int l2] (WD g a h P) (PoI g a P z) := by
  refine Ct.of (by decide +kernel) (Nat.le_of_ble_eq_true rfl) fun J hJ => ?_
  show Z g mX5_holdsAct J 0 0 0 [some (.ref (a k)), some (.ref (a 91)), some (.int l2)] [] (WD g a h P)
  unfold fX5_holdsAct at hf
  refine Z.aload_n (n := 1) dX5_holdsAct_0 rfl rfl ?_
  refine Z.iconst (n := 2) (v := 3) dX5_holdsAct_1 rfl (by decide +kernel) ?_
  obtain ⟨z1, ez1, hf⟩ := Option.bind_eq_some_iff.mp hf
  refine Z.callS (n := 5) vX5_87 (ctX5_note ez1) hJ.rm (Nat.le_of_ble_eq_true rfl) rfl rfl (Nat.le_refl _) (Nat.le_refl _) rfl (Nat.le_of_ble_eq_true rfl) rfl dX5_holdsAct_2 rfl (fun v w hw => ?_)
  obtain ⟨rfl, rfl⟩ := hw
  show Z _ _ _ _ _ _ _ [] _
  refine Z.aload_n (n := 6) dX5_holdsAct_5 rfl rfl ?_
  refine Z.aload_n (n := 7) dX5_holdsAct_6 rfl rfl ?_
  refine Z.iload_n (n := 8) dX5_holdsAct_7 rfl rfl ?_
  obtain ⟨z2, ez2, hf⟩ := Option.bind_eq_some_iff.mp hf
  obtain ⟨M9, q9, d9, hq9, hd9, hu9, hC9⟩ := dv_X5_95_X5 (g := g) (a := a) (P := P) k he hc ez2
  refine Z.callU (n := 11) hu9 hC9 hJ.rm (by omega) rfl rfl (Nat.le_refl _) (Nat.le_refl _) rfl (he _) hq9 (Nat.le_of_ble_eq_true rfl) rfl dX5_holdsAct_8 rfl (fun v w hw => ?_)
  obtain ⟨rfl, rfl⟩ := hw
  show Z _ _ _ _ _ _ _ [.int z2.1] _
  refine Z.iconst (n := 12) (v := 2) dX5_holdsAct_11 rfl (by decide +kernel) ?_
  refine Z.imul (n := 13) dX5_holdsAct_12 rfl ?_
  have hz := Option.some.inj hf
  subst hz
  exact Z.iret hJ dX5_holdsAct_13 rfl (Nat.le_refl _) (Nat.le_refl _) ⟨rfl, rfl⟩
def fX9_holdsAct (r : SR) (l2 : Int32) (h : HT) : Option (Int32 × HT) :=
  Option.bind (fX5_note 31 h) fun z1 =>
  Option.bind (fX5_holdsAct r l2 z1.2) fun z2 =>
  some (z2.1 ^^^ (7 : Int32), z2.2)
set_option maxHeartbeats 4000000 in
theorem ctX9_holdsAct {g : GP} {a : Nat → Nat} {P : PT} {h : HT} {z : Int32 × HT} {r : SR} {l2 : Int32} (k : Nat) (he : At g a P k r) (hc : SCX9 r.1) (hf : fX9_holdsAct r l2 h = some z) : Ct g 7 0 0 mX9_holdsAct [.ref (a k), .ref (a 91), .int l2] (WD g a h P) (PoI g a P z) := by
  refine Ct.of (by decide +kernel) (Nat.le_of_ble_eq_true rfl) fun J hJ => ?_
  show Z g mX9_holdsAct J 0 0 0 [some (.ref (a k)), some (.ref (a 91)), some (.int l2)] [] (WD g a h P)
  unfold fX9_holdsAct at hf
  refine Z.aload_n (n := 1) dX9_holdsAct_0 rfl rfl ?_
  refine Z.bipush (n := 3) (v := 31) dX9_holdsAct_1 rfl (by decide +kernel) ?_
  obtain ⟨z1, ez1, hf⟩ := Option.bind_eq_some_iff.mp hf
  refine Z.callT (n := 6) vX9_23 (ctX5_note ez1) hJ.rm (Nat.le_of_ble_eq_true rfl) rfl rfl (Nat.le_refl _) (Nat.le_refl _) rfl (Nat.le_of_ble_eq_true rfl) rfl dX9_holdsAct_3 rfl (fun v w hw => ?_)
  obtain ⟨rfl, rfl⟩ := hw
  show Z _ _ _ _ _ _ _ [] _
  refine Z.aload_n (n := 7) dX9_holdsAct_6 rfl rfl ?_
  refine Z.aload_n (n := 8) dX9_holdsAct_7 rfl rfl ?_
  refine Z.iload_n (n := 9) dX9_holdsAct_8 rfl rfl ?_
  obtain ⟨z2, ez2, hf⟩ := Option.bind_eq_some_iff.mp hf
  obtain ⟨q9, hq9⟩ := SC_cl (SCX9_X5 hc)
  refine Z.callP (n := 12) vX9_27 (ctX5_holdsAct k he (SCX9_X5 hc) ez2) hJ.rm (Nat.le_of_ble_eq_true rfl) rfl rfl (Nat.le_refl _) (Nat.le_refl _) rfl (he _) hq9 (Nat.le_of_ble_eq_true rfl) rfl dX9_holdsAct_9 rfl (fun v w hw => ?_)
  obtain ⟨rfl, rfl⟩ := hw
  show Z _ _ _ _ _ _ _ [.int z2.1] _
  refine Z.bipush (n := 14) (v := 7) dX9_holdsAct_12 rfl (by decide +kernel) ?_
  refine Z.ixor (n := 15) dX9_holdsAct_14 rfl ?_
  have hz := Option.some.inj hf
  subst hz
  exact Z.iret hJ dX9_holdsAct_15 rfl (Nat.le_refl _) (Nat.le_refl _) ⟨rfl, rfl⟩
theorem dv_X2_39_X2 {g : GP} {a : Nat → Nat} {P : PT} {r : SR} (k : Nat) (he : At g a P k r) (hc : SCX2 r.1) {l2 : Int32} {h : HT} {z : Int32 × HT} (hf : fv_comesAct r l2 h = some z) : ∃ (M9 : MI) (q : vw_C) (d9 : Nat), vwCl[r.1]? = some q ∧ d9 ≤ 3 ∧ CU RX2 39 q.1 M9 2 ∧ Ct g d9 0 0 M9 [.ref (a k), .ref (a 91), .int l2] (WD g a h P) (PoI g a P z) := by
  obtain ⟨c, nu, v⟩ := r
  have hc : SCX2 c := hc
  cases (show c = 2 from hc)
  · exact ⟨mX4_comesAct, _, 3, rfl, by decide, uX2_39_X2, ctX4_comesAct k he scX4_2 hf⟩
def fX2_holdsAct (r : SR) (l2 : Int32) (h : HT) : Option (Int32 × HT) :=
  Option.bind (fX5_note 41 h) fun z1 =>
  Option.bind (fX5_holdsAct r (l2 - (1 : Int32)) z1.2) fun z2 =>
  Option.bind (fv_comesAct r 2 z2.2) fun z3 =>
  some (z2.1 + z3.1, z3.2)
set_option maxHeartbeats 4000000 in
theorem ctX2_holdsAct {g : GP} {a : Nat → Nat} {P : PT} {h : HT} {z : Int32 × HT} {r : SR} {l2 : Int32} (k : Nat) (he : At g a P k r) (hc : SCX2 r.1) (hf : fX2_holdsAct r l2 h = some z) : Ct g 7 0 0 mX2_holdsAct [.ref (a k), .ref (a 91), .int l2] (WD g a h P) (PoI g a P z) := by
  refine Ct.of (by decide +kernel) (Nat.le_of_ble_eq_true rfl) fun J hJ => ?_
  show Z g mX2_holdsAct J 0 0 0 [some (.ref (a k)), some (.ref (a 91)), some (.int l2)] [] (WD g a h P)
  unfold fX2_holdsAct at hf
  refine Z.aload_n (n := 1) dX2_holdsAct_0 rfl rfl ?_
  refine Z.bipush (n := 3) (v := 41) dX2_holdsAct_1 rfl (by decide +kernel) ?_
  obtain ⟨z1, ez1, hf⟩ := Option.bind_eq_some_iff.mp hf
  refine Z.callT (n := 6) vX2_31 (ctX5_note ez1) hJ.rm (Nat.le_of_ble_eq_true rfl) rfl rfl (Nat.le_refl _) (Nat.le_refl _) rfl (Nat.le_of_ble_eq_true rfl) rfl dX2_holdsAct_3 rfl (fun v w hw => ?_)
  obtain ⟨rfl, rfl⟩ := hw
  show Z _ _ _ _ _ _ _ [] _
  refine Z.aload_n (n := 7) dX2_holdsAct_6 rfl rfl ?_
  refine Z.aload_n (n := 8) dX2_holdsAct_7 rfl rfl ?_
  refine Z.iload_n (n := 9) dX2_holdsAct_8 rfl rfl ?_
  refine Z.iconst (n := 10) (v := 1) dX2_holdsAct_9 rfl (by decide +kernel) ?_
  refine Z.isub (n := 11) dX2_holdsAct_10 rfl ?_
  obtain ⟨z2, ez2, hf⟩ := Option.bind_eq_some_iff.mp hf
  obtain ⟨q9, hq9⟩ := SC_cl (SCX2_X5 hc)
  refine Z.callQ (n := 14) vX2_35 (ctX5_holdsAct k he (SCX2_X5 hc) ez2) hJ.rm (Nat.le_of_ble_eq_true rfl) rfl rfl (Nat.le_refl _) (Nat.le_refl _) rfl (he _) hq9 (Nat.le_of_ble_eq_true rfl) rfl dX2_holdsAct_11 rfl (fun v w hw => ?_)
  obtain ⟨rfl, rfl⟩ := hw
  show Z _ _ _ _ _ _ _ [.int z2.1] _
  refine Z.aload_n (n := 15) dX2_holdsAct_14 rfl rfl ?_
  refine Z.aload_n (n := 16) dX2_holdsAct_15 rfl rfl ?_
  refine Z.iconst (n := 17) (v := 2) dX2_holdsAct_16 rfl (by decide +kernel) ?_
  obtain ⟨z3, ez3, hf⟩ := Option.bind_eq_some_iff.mp hf
  obtain ⟨M9, q9, d9, hq9, hd9, hu9, hC9⟩ := dv_X2_39_X2 (g := g) (a := a) (P := P) k he hc ez3
  refine Z.callU (n := 20) hu9 hC9 hJ.rm (by omega) rfl rfl (Nat.le_refl _) (Nat.le_refl _) rfl (he _) hq9 (Nat.le_of_ble_eq_true rfl) rfl dX2_holdsAct_17 rfl (fun v w hw => ?_)
  obtain ⟨rfl, rfl⟩ := hw
  show Z _ _ _ _ _ _ _ [.int z3.1, .int z2.1] _
  refine Z.iadd (n := 21) dX2_holdsAct_20 rfl ?_
  have hz := Option.some.inj hf
  subst hz
  exact Z.iret hJ dX2_holdsAct_21 rfl (Nat.le_refl _) (Nat.le_refl _) ⟨rfl, rfl⟩
def fv_holdsAct (r : SR) (l2 : Int32) (h : HT) : Option (Int32 × HT) :=
  if r.1 = 0 then fX5_holdsAct r l2 h else if r.1 = 1 then fX9_holdsAct r l2 h else if r.1 = 2 then fX2_holdsAct r l2 h else if r.1 = 4 then fX5_holdsAct r l2 h else if r.1 = 5 then fX5_holdsAct r l2 h else if r.1 = 7 then fX9_holdsAct r l2 h else if r.1 = 9 then fX9_holdsAct r l2 h else none
theorem dv_X11_214_X5 {g : GP} {a : Nat → Nat} {P : PT} {r : SR} (k : Nat) (he : At g a P k r) (hc : SCX5 r.1) {l2 : Int32} {h : HT} {z : Int32 × HT} (hf : fv_holdsAct r l2 h = some z) : ∃ (M9 : MI) (q : vw_C) (d9 : Nat), vwCl[r.1]? = some q ∧ d9 ≤ 7 ∧ CU RX11 214 q.1 M9 2 ∧ Ct g d9 0 0 M9 [.ref (a k), .ref (a 91), .int l2] (WD g a h P) (PoI g a P z) := by
  obtain ⟨c, nu, v⟩ := r
  have hc : SCX5 c := hc
  rcases hc with rfl | rfl | rfl | rfl | rfl | rfl | rfl
  · exact ⟨mX5_holdsAct, _, 6, rfl, by decide, uX11_214_X0, ctX5_holdsAct k he scX5_0 hf⟩
  · exact ⟨mX9_holdsAct, _, 7, rfl, by decide, uX11_214_X1, ctX9_holdsAct k he scX9_1 hf⟩
  · exact ⟨mX2_holdsAct, _, 7, rfl, by decide, uX11_214_X2, ctX2_holdsAct k he rfl hf⟩
  · exact ⟨mX5_holdsAct, _, 6, rfl, by decide, uX11_214_X4, ctX5_holdsAct k he scX5_4 hf⟩
  · exact ⟨mX5_holdsAct, _, 6, rfl, by decide, uX11_214_X5, ctX5_holdsAct k he scX5_5 hf⟩
  · exact ⟨mX9_holdsAct, _, 7, rfl, by decide, uX11_214_X7, ctX9_holdsAct k he scX9_7 hf⟩
  · exact ⟨mX9_holdsAct, _, 7, rfl, by decide, uX11_214_X9, ctX9_holdsAct k he scX9_9 hf⟩
def fX11_act (P : PT) (l1 : Int32) (l2 : Int32) (l3 : Int32) (h : HT) : Option (Int32 × HT) :=
  Option.bind (fX3_standingAt l1 (hu h 91 0 0)) fun z1 =>
  onq (dq z1.1) (some (0, z1.2)) (fun t3 => Option.bind (P[t3]?) fun r4 => (if l2 = 0 then (Option.bind (fv_comesAct r4 l3 z1.2) fun z6 =>
  some (z6.1, z6.2))
  else if l2 = 1 then (Option.bind (fv_daresAct r4 l3 z1.2) fun z8 =>
  some (z8.1, z8.2))
  else if l2 = 2 then (Option.bind (fv_holdsAct r4 l3 z1.2) fun z10 =>
  some (z10.1, z10.2))
  else (some (0, z1.2))))
set_option maxHeartbeats 4000000 in
theorem ctX11_act {g : GP} {a : Nat → Nat} {P : PT} {h : HT} {z : Int32 × HT} {l1 : Int32} {l2 : Int32} {l3 : Int32} (hPo : PoolOK P) (hf : fX11_act P l1 l2 l3 h = some z) : Ct g 8 0 0 mX11_act [.ref (a 0), .int l1, .int l2, .int l3] (WD g a h P) (PoI g a P z) := by
  refine Ct.of (by decide +kernel) (Nat.le_of_ble_eq_true rfl) fun J hJ => ?_
  show Z g mX11_act J 0 0 0 [some (.ref (a 0)), some (.int l1), some (.int l2), some (.int l3), none] [] (WD g a h P)
  unfold fX11_act at hf
  refine Z.aload_n (n := 1) dX11_act_0 rfl rfl ?_
  refine Z.getf (n := 4) fX11_39 dX11_act_1 rfl W0 rfl ?_
  refine Z.iconst (n := 5) (v := 0) dX11_act_4 rfl (by decide +kernel) ?_
  refine Z.iconst (n := 6) (v := 0) dX11_act_5 rfl (by decide +kernel) ?_
  refine Z.iast (j := 0) (n := 7) dX11_act_6 rfl W91 (by decide +kernel) (by decide) (by decide) W91s ?_
  refine Z.aload_n (n := 8) dX11_act_7 rfl rfl ?_
  refine Z.getf (n := 11) fX11_12 dX11_act_8 rfl W0 rfl ?_
  refine Z.iload_n (n := 12) dX11_act_11 rfl rfl ?_
  obtain ⟨z1, ez1, hf⟩ := Option.bind_eq_some_iff.mp hf
  refine Z.callV (n := 15) vX11_126 (ctX3_standingAt ez1) hJ.rm (Nat.le_of_ble_eq_true rfl) rfl rfl (Nat.le_refl _) (Nat.le_refl _) rfl W1 rfl rfl (Nat.le_of_ble_eq_true rfl) rfl dX11_act_12 rfl (fun v w hw => ?_)
  obtain ⟨rfl, rfl⟩ := hw
  generalize hdo2 : dq z1.1 = o2 at hf ⊢
  cases o2 with
  | none =>
    replace hf := onq_none hf
    show Z _ _ _ _ _ _ _ [.null] _
    refine Z.astoreN (n := 17) dX11_act_15 rfl (by decide) rfl ?_
    refine Z.aloadN (n := 19) dX11_act_17 rfl rfl ?_
    refine Z.ifnonnullN (n := 22) dX11_act_19 rfl ?_
    refine Z.iconst (n := 23) (v := 0) dX11_act_22 rfl (by decide +kernel) ?_
    have hz := Option.some.inj hf
    subst hz
    exact Z.iret hJ dX11_act_23 rfl (Nat.le_refl _) (Nat.le_refl _) ⟨rfl, rfl⟩
  | some t3 =>
    replace hf := onq_some hf
    obtain ⟨r4, er4, hf⟩ := Option.bind_eq_some_iff.mp hf
    show Z _ _ _ _ _ _ _ [.ref (a (102 + t3))] _
    refine Z.astore (n := 17) dX11_act_15 rfl (by decide) rfl ?_
    refine Z.aload (n := 19) dX11_act_17 rfl rfl ?_
    refine Z.ifnonnull (tgt := 24) dX11_act_19 rfl ?_
    refine Z.iload_n (n := 25) dX11_act_24 rfl rfl ?_
    by_cases c5 : l2 = 0
    · rw [if_pos c5] at hf
      refine Z.tswI (off := 27) (tgt := 52) dX11_act_25 c5 (by decide +kernel) (by decide +kernel) (by decide +kernel) rfl ?_
      refine Z.aload (n := 54) dX11_act_52 rfl rfl ?_
      refine Z.aload_n (n := 55) dX11_act_54 rfl rfl ?_
      refine Z.getf (n := 58) fX11_39 dX11_act_55 rfl W0 rfl ?_
      refine Z.iload_n (n := 59) dX11_act_58 rfl rfl ?_
      obtain ⟨z6, ez6, hf⟩ := Option.bind_eq_some_iff.mp hf
      obtain ⟨M9, q9, d9, hq9, hd9, hu9, hC9⟩ := dv_X11_207_X5 (g := g) (a := a) (P := P) (102 + t3) (At.pool er4) (hPo _ _ er4) ez6
      refine Z.callU (n := 62) hu9 hC9 hJ.rm (by omega) rfl rfl (Nat.le_refl _) (Nat.le_refl _) rfl ((At.pool er4) _) hq9 (Nat.le_of_ble_eq_true rfl) rfl dX11_act_59 rfl (fun v w hw => ?_)
      obtain ⟨rfl, rfl⟩ := hw
      show Z _ _ _ _ _ _ _ [.int z6.1] _
      have hz := Option.some.inj hf
      subst hz
      exact Z.iret hJ dX11_act_62 rfl (Nat.le_refl _) (Nat.le_refl _) ⟨rfl, rfl⟩
    rw [if_neg c5] at hf
    by_cases c7 : l2 = 1
    · rw [if_pos c7] at hf
      refine Z.tswI (off := 38) (tgt := 63) dX11_act_25 c7 (by decide +kernel) (by decide +kernel) (by decide +kernel) rfl ?_
      refine Z.aload (n := 65) dX11_act_63 rfl rfl ?_
      refine Z.aload_n (n := 66) dX11_act_65 rfl rfl ?_
      refine Z.getf (n := 69) fX11_39 dX11_act_66 rfl W0 rfl ?_
      refine Z.iload_n (n := 70) dX11_act_69 rfl rfl ?_
      obtain ⟨z8, ez8, hf⟩ := Option.bind_eq_some_iff.mp hf
      obtain ⟨M9, q9, d9, hq9, hd9, hu9, hC9⟩ := dv_X11_211_X5 (g := g) (a := a) (P := P) (102 + t3) (At.pool er4) (hPo _ _ er4) ez8
      refine Z.callU (n := 73) hu9 hC9 hJ.rm (by omega) rfl rfl (Nat.le_refl _) (Nat.le_refl _) rfl ((At.pool er4) _) hq9 (Nat.le_of_ble_eq_true rfl) rfl dX11_act_70 rfl (fun v w hw => ?_)
      obtain ⟨rfl, rfl⟩ := hw
      show Z _ _ _ _ _ _ _ [.int z8.1] _
      have hz := Option.some.inj hf
      subst hz
      exact Z.iret hJ dX11_act_73 rfl (Nat.le_refl _) (Nat.le_refl _) ⟨rfl, rfl⟩
    rw [if_neg c7] at hf
    by_cases c9 : l2 = 2
    · rw [if_pos c9] at hf
      refine Z.tswI (off := 49) (tgt := 74) dX11_act_25 c9 (by decide +kernel) (by decide +kernel) (by decide +kernel) rfl ?_
      refine Z.aload (n := 76) dX11_act_74 rfl rfl ?_
      refine Z.aload_n (n := 77) dX11_act_76 rfl rfl ?_
      refine Z.getf (n := 80) fX11_39 dX11_act_77 rfl W0 rfl ?_
      refine Z.iload_n (n := 81) dX11_act_80 rfl rfl ?_
      obtain ⟨z10, ez10, hf⟩ := Option.bind_eq_some_iff.mp hf
      obtain ⟨M9, q9, d9, hq9, hd9, hu9, hC9⟩ := dv_X11_214_X5 (g := g) (a := a) (P := P) (102 + t3) (At.pool er4) (hPo _ _ er4) ez10
      refine Z.callU (n := 84) hu9 hC9 hJ.rm (by omega) rfl rfl (Nat.le_refl _) (Nat.le_refl _) rfl ((At.pool er4) _) hq9 (Nat.le_of_ble_eq_true rfl) rfl dX11_act_81 rfl (fun v w hw => ?_)
      obtain ⟨rfl, rfl⟩ := hw
      show Z _ _ _ _ _ _ _ [.int z10.1] _
      have hz := Option.some.inj hf
      subst hz
      exact Z.iret hJ dX11_act_84 rfl (Nat.le_refl _) (Nat.le_refl _) ⟨rfl, rfl⟩
    rw [if_neg c9] at hf
    have tc5 := lv_neT (k := 0) c5 (a := 0) (by decide +kernel)
    have tc7 := lv_neT (k := 1) c7 (a := 1) (by decide +kernel)
    have tc9 := lv_neT (k := 2) c9 (a := 2) (by decide +kernel)
    refine Z.tswO (tgt := 85) dX11_act_25 (by omega) rfl ?_
    refine Z.iconst (n := 86) (v := 0) dX11_act_85 rfl (by decide +kernel) ?_
    have hz := Option.some.inj hf
    subst hz
    exact Z.iret hJ dX11_act_86 rfl (Nat.le_refl _) (Nat.le_refl _) ⟨rfl, rfl⟩
def isK_X0 (c : Nat) : Int32 := if c = 0 then 1 else 0
theorem zi_X11_238 {g : GP} {M : MI} {J : JT} {cl sl pc n k b c : Nat} {fs : List Value} {ll : List (Option Value)} {st : List Value} {ws : va_W} (hM : M.1.cls = RX11) (hc : SC c) (d : decode M.2.1 pc = .ok (.instanceof 238, 3)) (hp : pc + 3 = n) (he : ws[k]? = some (b, .inr (c, fs))) (kk : Z g M J cl sl n ll (.int (isK_X0 c) :: st) ws) : Z g M J cl sl pc ll (.ref b :: st) ws := by
  have w9 : Cond.classLink M.1.cls 238 "KingsBalance$Alone" ∈ TT := by rw [hM]; exact wX11_238
  rcases hc with rfl | rfl | rfl | rfl | rfl | rfl | rfl
  · exact Z.instS w9 he rfl rfl d hp kk
  · exact Z.instN w9 he rfl (by decide +kernel) d hp kk
  · exact Z.instN w9 he rfl (by decide +kernel) d hp kk
  · exact Z.instN w9 he rfl (by decide +kernel) d hp kk
  · exact Z.instN w9 he rfl (by decide +kernel) d hp kk
  · exact Z.instN w9 he rfl (by decide +kernel) d hp kk
  · exact Z.instN w9 he rfl (by decide +kernel) d hp kk
def isK_X4 (c : Nat) : Int32 := if c = 2 ∨ c = 4 then 1 else 0
theorem zi_X11_243 {g : GP} {M : MI} {J : JT} {cl sl pc n k b c : Nat} {fs : List Value} {ll : List (Option Value)} {st : List Value} {ws : va_W} (hM : M.1.cls = RX11) (hc : SC c) (d : decode M.2.1 pc = .ok (.instanceof 243, 3)) (hp : pc + 3 = n) (he : ws[k]? = some (b, .inr (c, fs))) (kk : Z g M J cl sl n ll (.int (isK_X4 c) :: st) ws) : Z g M J cl sl pc ll (.ref b :: st) ws := by
  have w9 : Cond.classLink M.1.cls 243 "KingsBalance$Sides" ∈ TT := by rw [hM]; exact wX11_243
  rcases hc with rfl | rfl | rfl | rfl | rfl | rfl | rfl
  · exact Z.instN w9 he rfl (by decide +kernel) d hp kk
  · exact Z.instN w9 he rfl (by decide +kernel) d hp kk
  · exact Z.instY w9 he rfl (by decide +kernel) d hp kk
  · exact Z.instS w9 he rfl rfl d hp kk
  · exact Z.instN w9 he rfl (by decide +kernel) d hp kk
  · exact Z.instN w9 he rfl (by decide +kernel) d hp kk
  · exact Z.instN w9 he rfl (by decide +kernel) d hp kk
def isK_X9 (c : Nat) : Int32 := if c = 1 ∨ c = 7 ∨ c = 9 then 1 else 0
theorem zi_X11_246 {g : GP} {M : MI} {J : JT} {cl sl pc n k b c : Nat} {fs : List Value} {ll : List (Option Value)} {st : List Value} {ws : va_W} (hM : M.1.cls = RX11) (hc : SC c) (d : decode M.2.1 pc = .ok (.instanceof 246, 3)) (hp : pc + 3 = n) (he : ws[k]? = some (b, .inr (c, fs))) (kk : Z g M J cl sl n ll (.int (isK_X9 c) :: st) ws) : Z g M J cl sl pc ll (.ref b :: st) ws := by
  have w9 : Cond.classLink M.1.cls 246 "KingsBalance$Web" ∈ TT := by rw [hM]; exact wX11_246
  rcases hc with rfl | rfl | rfl | rfl | rfl | rfl | rfl
  · exact Z.instN w9 he rfl (by decide +kernel) d hp kk
  · exact Z.instY w9 he rfl (by decide +kernel) d hp kk
  · exact Z.instN w9 he rfl (by decide +kernel) d hp kk
  · exact Z.instN w9 he rfl (by decide +kernel) d hp kk
  · exact Z.instN w9 he rfl (by decide +kernel) d hp kk
  · exact Z.instY w9 he rfl (by decide +kernel) d hp kk
  · exact Z.instS w9 he rfl rfl d hp kk
def isK_X2 (c : Nat) : Int32 := if c = 2 then 1 else 0
theorem zi_X11_249 {g : GP} {M : MI} {J : JT} {cl sl pc n k b c : Nat} {fs : List Value} {ll : List (Option Value)} {st : List Value} {ws : va_W} (hM : M.1.cls = RX11) (hc : SC c) (d : decode M.2.1 pc = .ok (.instanceof 249, 3)) (hp : pc + 3 = n) (he : ws[k]? = some (b, .inr (c, fs))) (kk : Z g M J cl sl n ll (.int (isK_X2 c) :: st) ws) : Z g M J cl sl pc ll (.ref b :: st) ws := by
  have w9 : Cond.classLink M.1.cls 249 "KingsBalance$League" ∈ TT := by rw [hM]; exact wX11_249
  rcases hc with rfl | rfl | rfl | rfl | rfl | rfl | rfl
  · exact Z.instN w9 he rfl (by decide +kernel) d hp kk
  · exact Z.instN w9 he rfl (by decide +kernel) d hp kk
  · exact Z.instS w9 he rfl rfl d hp kk
  · exact Z.instN w9 he rfl (by decide +kernel) d hp kk
  · exact Z.instN w9 he rfl (by decide +kernel) d hp kk
  · exact Z.instN w9 he rfl (by decide +kernel) d hp kk
  · exact Z.instN w9 he rfl (by decide +kernel) d hp kk
def isK_X1 (c : Nat) : Int32 := if c = 1 then 1 else 0
theorem zi_X11_252 {g : GP} {M : MI} {J : JT} {cl sl pc n k b c : Nat} {fs : List Value} {ll : List (Option Value)} {st : List Value} {ws : va_W} (hM : M.1.cls = RX11) (hc : SC c) (d : decode M.2.1 pc = .ok (.instanceof 252, 3)) (hp : pc + 3 = n) (he : ws[k]? = some (b, .inr (c, fs))) (kk : Z g M J cl sl n ll (.int (isK_X1 c) :: st) ws) : Z g M J cl sl pc ll (.ref b :: st) ws := by
  have w9 : Cond.classLink M.1.cls 252 "KingsBalance$Guard" ∈ TT := by rw [hM]; exact wX11_252
  rcases hc with rfl | rfl | rfl | rfl | rfl | rfl | rfl
  · exact Z.instN w9 he rfl (by decide +kernel) d hp kk
  · exact Z.instS w9 he rfl rfl d hp kk
  · exact Z.instN w9 he rfl (by decide +kernel) d hp kk
  · exact Z.instN w9 he rfl (by decide +kernel) d hp kk
  · exact Z.instN w9 he rfl (by decide +kernel) d hp kk
  · exact Z.instN w9 he rfl (by decide +kernel) d hp kk
  · exact Z.instN w9 he rfl (by decide +kernel) d hp kk
def isK_X7 (c : Nat) : Int32 := if c = 7 then 1 else 0
theorem zi_X11_255 {g : GP} {M : MI} {J : JT} {cl sl pc n k b c : Nat} {fs : List Value} {ll : List (Option Value)} {st : List Value} {ws : va_W} (hM : M.1.cls = RX11) (hc : SC c) (d : decode M.2.1 pc = .ok (.instanceof 255, 3)) (hp : pc + 3 = n) (he : ws[k]? = some (b, .inr (c, fs))) (kk : Z g M J cl sl n ll (.int (isK_X7 c) :: st) ws) : Z g M J cl sl pc ll (.ref b :: st) ws := by
  have w9 : Cond.classLink M.1.cls 255 "KingsBalance$True" ∈ TT := by rw [hM]; exact wX11_255
  rcases hc with rfl | rfl | rfl | rfl | rfl | rfl | rfl
  · exact Z.instN w9 he rfl (by decide +kernel) d hp kk
  · exact Z.instN w9 he rfl (by decide +kernel) d hp kk
  · exact Z.instN w9 he rfl (by decide +kernel) d hp kk
  · exact Z.instN w9 he rfl (by decide +kernel) d hp kk
  · exact Z.instN w9 he rfl (by decide +kernel) d hp kk
  · exact Z.instS w9 he rfl rfl d hp kk
  · exact Z.instN w9 he rfl (by decide +kernel) d hp kk
def fX11_isOf (r : SR) (l1 : Int32) (h : HT) : Option (Int32 × HT) :=
  if l1 = 1 then (Option.bind (cb (isK_X0 r.1)) fun u2 =>
  some (isK_X0 r.1, h))
  else if l1 = 2 then (Option.bind (cb (isK_X4 r.1)) fun u4 =>
  some (isK_X4 r.1, h))
  else if l1 = 3 then (Option.bind (cb (isK_X9 r.1)) fun u6 =>
  some (isK_X9 r.1, h))
  else if l1 = 4 then (Option.bind (cb (isK_X2 r.1)) fun u8 =>
  some (isK_X2 r.1, h))
  else if l1 = 5 then (Option.bind (cb (isK_X1 r.1)) fun u10 =>
  some (isK_X1 r.1, h))
  else if l1 = 6 then (Option.bind (cb (isK_X7 r.1)) fun u12 =>
  some (isK_X7 r.1, h))
  else (some (1, h))
set_option maxHeartbeats 4000000 in
theorem ctX11_isOf {g : GP} {a : Nat → Nat} {P : PT} {h : HT} {z : Int32 × HT} {r : SR} {l1 : Int32} (k : Nat) (he : At g a P k r) (hc : SCX5 r.1) (hf : fX11_isOf r l1 h = some z) : Ct g 1 0 0 mX11_isOf [.ref (a k), .int l1] (WD g a h P) (PoI g a P z) := by
  refine Ct.of (by decide +kernel) (Nat.le_of_ble_eq_true rfl) fun J hJ => ?_
  show Z g mX11_isOf J 0 0 0 [some (.ref (a k)), some (.int l1)] [] (WD g a h P)
  unfold fX11_isOf at hf
  refine Z.iload_n (n := 1) dX11_isOf_0 rfl rfl ?_
  by_cases c1 : l1 = 1
  · rw [if_pos c1] at hf
    refine Z.tswI (off := 39) (tgt := 40) dX11_isOf_1 c1 (by decide +kernel) (by decide +kernel) (by decide +kernel) rfl ?_
    refine Z.aload_n (n := 41) dX11_isOf_40 rfl rfl ?_
    refine zi_X11_238 (n := 44) rfl hc dX11_isOf_41 rfl (he _) ?_
    obtain ⟨u2, eu2, hf⟩ := Option.bind_eq_some_iff.mp hf
    have hz := Option.some.inj hf
    subst hz
    exact Z.zret hJ dX11_isOf_44 rfl (cb_nar eu2) (Nat.le_refl _) (Nat.le_refl _) ⟨rfl, rfl⟩
  rw [if_neg c1] at hf
  by_cases c3 : l1 = 2
  · rw [if_pos c3] at hf
    refine Z.tswI (off := 44) (tgt := 45) dX11_isOf_1 c3 (by decide +kernel) (by decide +kernel) (by decide +kernel) rfl ?_
    refine Z.aload_n (n := 46) dX11_isOf_45 rfl rfl ?_
    refine zi_X11_243 (n := 49) rfl hc dX11_isOf_46 rfl (he _) ?_
    obtain ⟨u4, eu4, hf⟩ := Option.bind_eq_some_iff.mp hf
    have hz := Option.some.inj hf
    subst hz
    exact Z.zret hJ dX11_isOf_49 rfl (cb_nar eu4) (Nat.le_refl _) (Nat.le_refl _) ⟨rfl, rfl⟩
  rw [if_neg c3] at hf
  by_cases c5 : l1 = 3
  · rw [if_pos c5] at hf
    refine Z.tswI (off := 49) (tgt := 50) dX11_isOf_1 c5 (by decide +kernel) (by decide +kernel) (by decide +kernel) rfl ?_
    refine Z.aload_n (n := 51) dX11_isOf_50 rfl rfl ?_
    refine zi_X11_246 (n := 54) rfl hc dX11_isOf_51 rfl (he _) ?_
    obtain ⟨u6, eu6, hf⟩ := Option.bind_eq_some_iff.mp hf
    have hz := Option.some.inj hf
    subst hz
    exact Z.zret hJ dX11_isOf_54 rfl (cb_nar eu6) (Nat.le_refl _) (Nat.le_refl _) ⟨rfl, rfl⟩
  rw [if_neg c5] at hf
  by_cases c7 : l1 = 4
  · rw [if_pos c7] at hf
    refine Z.tswI (off := 54) (tgt := 55) dX11_isOf_1 c7 (by decide +kernel) (by decide +kernel) (by decide +kernel) rfl ?_
    refine Z.aload_n (n := 56) dX11_isOf_55 rfl rfl ?_
    refine zi_X11_249 (n := 59) rfl hc dX11_isOf_56 rfl (he _) ?_
    obtain ⟨u8, eu8, hf⟩ := Option.bind_eq_some_iff.mp hf
    have hz := Option.some.inj hf
    subst hz
    exact Z.zret hJ dX11_isOf_59 rfl (cb_nar eu8) (Nat.le_refl _) (Nat.le_refl _) ⟨rfl, rfl⟩
  rw [if_neg c7] at hf
  by_cases c9 : l1 = 5
  · rw [if_pos c9] at hf
    refine Z.tswI (off := 59) (tgt := 60) dX11_isOf_1 c9 (by decide +kernel) (by decide +kernel) (by decide +kernel) rfl ?_
    refine Z.aload_n (n := 61) dX11_isOf_60 rfl rfl ?_
    refine zi_X11_252 (n := 64) rfl hc dX11_isOf_61 rfl (he _) ?_
    obtain ⟨u10, eu10, hf⟩ := Option.bind_eq_some_iff.mp hf
    have hz := Option.some.inj hf
    subst hz
    exact Z.zret hJ dX11_isOf_64 rfl (cb_nar eu10) (Nat.le_refl _) (Nat.le_refl _) ⟨rfl, rfl⟩
  rw [if_neg c9] at hf
  by_cases c11 : l1 = 6
  · rw [if_pos c11] at hf
    refine Z.tswI (off := 64) (tgt := 65) dX11_isOf_1 c11 (by decide +kernel) (by decide +kernel) (by decide +kernel) rfl ?_
    refine Z.aload_n (n := 66) dX11_isOf_65 rfl rfl ?_
    refine zi_X11_255 (n := 69) rfl hc dX11_isOf_66 rfl (he _) ?_
    obtain ⟨u12, eu12, hf⟩ := Option.bind_eq_some_iff.mp hf
    have hz := Option.some.inj hf
    subst hz
    exact Z.zret hJ dX11_isOf_69 rfl (cb_nar eu12) (Nat.le_refl _) (Nat.le_refl _) ⟨rfl, rfl⟩
  rw [if_neg c11] at hf
  have tc1 := lv_neT (k := 1) c1 (a := 1) (by decide +kernel)
  have tc3 := lv_neT (k := 2) c3 (a := 2) (by decide +kernel)
  have tc5 := lv_neT (k := 3) c5 (a := 3) (by decide +kernel)
  have tc7 := lv_neT (k := 4) c7 (a := 4) (by decide +kernel)
  have tc9 := lv_neT (k := 5) c9 (a := 5) (by decide +kernel)
  have tc11 := lv_neT (k := 6) c11 (a := 6) (by decide +kernel)
  refine Z.tswO (tgt := 70) dX11_isOf_1 (by omega) rfl ?_
  refine Z.iconst (n := 71) (v := 1) dX11_isOf_70 rfl (by decide +kernel) ?_
  have hz := Option.some.inj hf
  subst hz
  exact Z.zret hJ dX11_isOf_71 rfl rfl (Nat.le_refl _) (Nat.le_refl _) ⟨rfl, rfl⟩
theorem fS_X11_221_X5 {c : Nat} (hc : SCX5 c) : FdOK RX11 221 c 1 := by
  rcases hc with rfl | rfl | rfl | rfl | rfl | rfl | rfl
  · exact fX11_221_X0
  · exact fX11_221_X1
  · exact fX11_221_X2
  · exact fX11_221_X4
  · exact fX11_221_X5
  · exact fX11_221_X7
  · exact fX11_221_X9
def fX11_as_22 (P : PT) (h : HT) : Option (Int32 × HT) :=
  some ((-1), h)
set_option maxHeartbeats 4000000 in
theorem zX11_as_22 {g : GP} {a : Nat → Nat} {P : PT} {J : JT} {z : Int32 × HT} (hJ : JX g 2 0 0 (PoI g a P z) J) (hPo : PoolOK P) (h : HT) (hf : fX11_as_22 P h = some z) : Z g mX11_as J 0 0 22 [none, none, none, none] [] (WD g a h P) := by
  unfold fX11_as_22 at hf
  refine Z.iconst (n := 23) (v := -1) dX11_as_22 rfl (by decide +kernel) ?_
  have hz := Option.some.inj hf
  subst hz
  exact Z.iret hJ dX11_as_23 rfl (Nat.le_refl _) (Nat.le_refl _) ⟨rfl, rfl⟩
def fX11_as_41 (P : PT) (s0 : Int32) (h : HT) : Option (Int32 × HT) :=
  some (s0, h)
set_option maxHeartbeats 4000000 in
theorem zX11_as_41 {g : GP} {a : Nat → Nat} {P : PT} {J : JT} {z : Int32 × HT} (hJ : JX g 2 0 0 (PoI g a P z) J) (hPo : PoolOK P) (s0 : Int32) (h : HT) (hf : fX11_as_41 P s0 h = some z) : Z g mX11_as J 0 0 41 [none, none, none, none] [.int s0] (WD g a h P) := by
  unfold fX11_as_41 at hf
  have hz := Option.some.inj hf
  subst hz
  exact Z.iret hJ dX11_as_41 rfl (Nat.le_refl _) (Nat.le_refl _) ⟨rfl, rfl⟩
def fX11_as (P : PT) (l1 : Int32) (l2 : Int32) (h : HT) : Option (Int32 × HT) :=
  Option.bind (fX3_standingAt l1 h) fun z1 =>
  onq (dq z1.1) (fX11_as_22 P z1.2) (fun t3 => Option.bind (P[t3]?) fun r4 => (Option.bind (fX11_outside l2 6 z1.2) fun z5 =>
  if z5.1 = 0 then (Option.bind (fX11_isOf r4 l2 z5.2) fun z7 =>
  if z7.1 = 0 then (fX11_as_41 P (-6) z7.2)
  else (fX11_as_41 P r4.2.2 z7.2))
  else (fX11_as_22 P z5.2)))
set_option maxHeartbeats 4000000 in
theorem ctX11_as {g : GP} {a : Nat → Nat} {P : PT} {h : HT} {z : Int32 × HT} {l1 : Int32} {l2 : Int32} (hPo : PoolOK P) (hf : fX11_as P l1 l2 h = some z) : Ct g 2 0 0 mX11_as [.ref (a 0), .int l1, .int l2] (WD g a h P) (PoI g a P z) := by
  refine Ct.of (by decide +kernel) (Nat.le_of_ble_eq_true rfl) fun J hJ => ?_
  show Z g mX11_as J 0 0 0 [some (.ref (a 0)), some (.int l1), some (.int l2), none] [] (WD g a h P)
  unfold fX11_as at hf
  refine Z.aload_n (n := 1) dX11_as_0 rfl rfl ?_
  refine Z.getf (n := 4) fX11_12 dX11_as_1 rfl W0 rfl ?_
  refine Z.iload_n (n := 5) dX11_as_4 rfl rfl ?_
  obtain ⟨z1, ez1, hf⟩ := Option.bind_eq_some_iff.mp hf
  refine Z.callV (n := 8) vX11_126 (ctX3_standingAt ez1) hJ.rm (Nat.le_of_ble_eq_true rfl) rfl rfl (Nat.le_refl _) (Nat.le_refl _) rfl W1 rfl rfl (Nat.le_of_ble_eq_true rfl) rfl dX11_as_5 rfl (fun v w hw => ?_)
  obtain ⟨rfl, rfl⟩ := hw
  generalize hdo2 : dq z1.1 = o2 at hf ⊢
  cases o2 with
  | none =>
    replace hf := onq_none hf
    show Z _ _ _ _ _ _ _ [.null] _
    refine Z.astore_nN (n := 9) dX11_as_8 rfl (by decide) rfl ?_
    refine Z.aload_nN (n := 10) dX11_as_9 rfl rfl ?_
    refine Z.ifnullN (tgt := 22) dX11_as_10 rfl ?_
    refine Z.fg [0, 1, 2, 3] ?_
    exact zX11_as_22 hJ hPo _ hf
  | some t3 =>
    replace hf := onq_some hf
    obtain ⟨r4, er4, hf⟩ := Option.bind_eq_some_iff.mp hf
    show Z _ _ _ _ _ _ _ [.ref (a (102 + t3))] _
    refine Z.astore_n (n := 9) dX11_as_8 rfl (by decide) rfl ?_
    refine Z.aload_n (n := 10) dX11_as_9 rfl rfl ?_
    refine Z.ifnull (n := 13) dX11_as_10 rfl ?_
    refine Z.iload_n (n := 14) dX11_as_13 rfl rfl ?_
    refine Z.bipush (n := 16) (v := 6) dX11_as_14 rfl (by decide +kernel) ?_
    obtain ⟨z5, ez5, hf⟩ := Option.bind_eq_some_iff.mp hf
    refine Z.callS (n := 19) vX11_46 (ctX11_outside ez5) hJ.rm (Nat.le_of_ble_eq_true rfl) rfl rfl (Nat.le_refl _) (Nat.le_refl _) rfl (Nat.le_of_ble_eq_true rfl) rfl dX11_as_16 rfl (fun v w hw => ?_)
    obtain ⟨rfl, rfl⟩ := hw
    show Z _ _ _ _ _ _ _ [.int z5.1] _
    refine Z.if_eq (tgt := 24) (n := 22) dX11_as_19 rfl rfl (fun c6 => ?_) (fun c6 => ?_)
    · rw [if_pos c6] at hf
      refine Z.aload_n (n := 25) dX11_as_24 rfl rfl ?_
      refine Z.iload_n (n := 26) dX11_as_25 rfl rfl ?_
      obtain ⟨z7, ez7, hf⟩ := Option.bind_eq_some_iff.mp hf
      refine Z.callS (n := 29) vX11_217 (ctX11_isOf (102 + t3) (At.pool er4) (hPo _ _ er4) ez7) hJ.rm (Nat.le_of_ble_eq_true rfl) rfl rfl (Nat.le_refl _) (Nat.le_refl _) rfl (Nat.le_of_ble_eq_true rfl) rfl dX11_as_26 rfl (fun v w hw => ?_)
      obtain ⟨rfl, rfl⟩ := hw
      show Z _ _ _ _ _ _ _ [.int z7.1] _
      refine Z.if_eq (tgt := 39) (n := 32) dX11_as_29 rfl rfl (fun c8 => ?_) (fun c8 => ?_)
      · rw [if_pos c8] at hf
        refine Z.bipush (n := 41) (v := -6) dX11_as_39 rfl (by decide +kernel) ?_
        refine Z.fg [0, 1, 2, 3] ?_
        exact zX11_as_41 hJ hPo _ _ hf
      · rw [if_neg c8] at hf
        refine Z.aload_n (n := 33) dX11_as_32 rfl rfl ?_
        refine Z.getf (n := 36) (fS_X11_221_X5 (hPo _ _ er4)) dX11_as_33 rfl ((At.pool er4) _) rfl ?_
        refine Z.goto (tgt := 41) dX11_as_36 rfl ?_
        refine Z.fg [0, 1, 2, 3] ?_
        exact zX11_as_41 hJ hPo _ _ hf
    · rw [if_neg c6] at hf
      refine Z.fg [0, 1, 2, 3] ?_
      exact zX11_as_22 hJ hPo _ hf
