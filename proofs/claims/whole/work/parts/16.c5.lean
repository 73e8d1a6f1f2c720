/-! walks, by program: 16.c5.lean.txt -/
def fX11_keeps_33 (h : HT) : Option (Int32 × HT) :=
  some ((-1), h)
set_option maxHeartbeats 4000000 in
theorem zX11_keeps_33 {g : GP} {a : Nat → Nat} {P : PT} {J : JT} {z : Int32 × HT} (hJ : JX g 3 0 0 (PoI g a P z) J) (h : HT) (hf : fX11_keeps_33 h = some z) : Z g mX11_keeps J 0 0 33 [none, none, none, none] [] (WD g a h P) := by
  unfold fX11_keeps_33 at hf
  refine Z.iconst (n := 34) (v := -1) dX11_keeps_33 rfl (by decide +kernel) ?_
  have hz := Option.some.inj hf
  subst hz
  exact Z.iret hJ dX11_keeps_34 rfl (Nat.le_refl _) (Nat.le_refl _) ⟨rfl, rfl⟩
def fX11_keeps_50 (h : HT) : Option (Int32 × HT) :=
  some ((-2), h)
set_option maxHeartbeats 4000000 in
theorem zX11_keeps_50 {g : GP} {a : Nat → Nat} {P : PT} {J : JT} {z : Int32 × HT} (hJ : JX g 3 0 0 (PoI g a P z) J) (h : HT) (hf : fX11_keeps_50 h = some z) : Z g mX11_keeps J 0 0 50 [none, none, none, none] [] (WD g a h P) := by
  unfold fX11_keeps_50 at hf
  refine Z.bipush (n := 52) (v := -2) dX11_keeps_50 rfl (by decide +kernel) ?_
  have hz := Option.some.inj hf
  subst hz
  exact Z.iret hJ dX11_keeps_52 rfl (Nat.le_refl _) (Nat.le_refl _) ⟨rfl, rfl⟩
def fX11_keeps_86 (h : HT) : Option (Int32 × HT) :=
  some ((-3), h)
set_option maxHeartbeats 4000000 in
theorem zX11_keeps_86 {g : GP} {a : Nat → Nat} {P : PT} {J : JT} {z : Int32 × HT} (hJ : JX g 3 0 0 (PoI g a P z) J) (h : HT) (hf : fX11_keeps_86 h = some z) : Z g mX11_keeps J 0 0 86 [none, none, none, none] [] (WD g a h P) := by
  unfold fX11_keeps_86 at hf
  refine Z.bipush (n := 88) (v := -3) dX11_keeps_86 rfl (by decide +kernel) ?_
  have hz := Option.some.inj hf
  subst hz
  exact Z.iret hJ dX11_keeps_88 rfl (Nat.le_refl _) (Nat.le_refl _) ⟨rfl, rfl⟩
def fX11_keeps_118 (s0 : Int32) (h : HT) : Option (Int32 × HT) :=
  some (s0, h)
set_option maxHeartbeats 4000000 in
theorem zX11_keeps_118 {g : GP} {a : Nat → Nat} {P : PT} {J : JT} {z : Int32 × HT} (hJ : JX g 3 0 0 (PoI g a P z) J) (s0 : Int32) (h : HT) (hf : fX11_keeps_118 s0 h = some z) : Z g mX11_keeps J 0 0 118 [none, none, none, none] [.int s0] (WD g a h P) := by
  unfold fX11_keeps_118 at hf
  have hz := Option.some.inj hf
  subst hz
  exact Z.iret hJ dX11_keeps_118 rfl (Nat.le_refl _) (Nat.le_refl _) ⟨rfl, rfl⟩
def fX11_keeps_117 (h : HT) : Option (Int32 × HT) :=
  fX11_keeps_118 0 h
set_option maxHeartbeats 4000000 in
theorem zX11_keeps_117 {g : GP} {a : Nat → Nat} {P : PT} {J : JT} {z : Int32 × HT} (hJ : JX g 3 0 0 (PoI g a P z) J) (h : HT) (hf : fX11_keeps_117 h = some z) : Z g mX11_keeps J 0 0 117 [none, none, none, none] [] (WD g a h P) := by
  unfold fX11_keeps_117 at hf
  refine Z.iconst (n := 118) (v := 0) dX11_keeps_117 rfl (by decide +kernel) ?_
  exact zX11_keeps_118 hJ _ _ hf
def fX11_keeps (l1 : Int32) (l2 : Int32) (l3 : Int32) (h : HT) : Option (Int32 × HT) :=
  Option.bind (fX3_has l1 h) fun z1 =>
  if z1.1 = 0 then (fX11_keeps_33 z1.2)
  else (Option.bind (fX3_has l2 z1.2) fun z3 =>
  if z3.1 = 0 then (fX11_keeps_33 z3.2)
  else (Option.bind (fX3_has l3 z3.2) fun z5 =>
  if z5.1 = 0 then (fX11_keeps_33 z5.2)
  else (if l1 = l2 then (fX11_keeps_50 z5.2)
  else (if l1 = l3 then (fX11_keeps_50 z5.2)
  else (if l2 = l3 then (fX11_keeps_50 z5.2)
  else (Option.bind (fX3_lives l1 z5.2) fun z10 =>
  if z10.1 = 0 then (fX11_keeps_86 z10.2)
  else (Option.bind (fX3_lives l2 z10.2) fun z12 =>
  if z12.1 = 0 then (fX11_keeps_86 z12.2)
  else (Option.bind (fX3_lives l3 z12.2) fun z14 =>
  if z14.1 = 0 then (fX11_keeps_86 z14.2)
  else (Option.bind (fX3_standsWith l1 l2 z14.2) fun z16 =>
  if z16.1 = 0 then (fX11_keeps_117 z16.2)
  else (Option.bind (fX3_bears l1 l3 z16.2) fun z18 =>
  if z18.1 = 0 then (fX11_keeps_117 z18.2)
  else (fX11_keeps_118 1 z18.2)))))))))))
set_option maxHeartbeats 4000000 in
theorem ctX11_keeps {g : GP} {a : Nat → Nat} {P : PT} {h : HT} {z : Int32 × HT} {l1 : Int32} {l2 : Int32} {l3 : Int32} (hf : fX11_keeps l1 l2 l3 h = some z) : Ct g 3 0 0 mX11_keeps [.ref (a 0), .int l1, .int l2, .int l3] (WD g a h P) (PoI g a P z) := by
  refine Ct.of (by decide +kernel) (Nat.le_of_ble_eq_true rfl) fun J hJ => ?_
  show Z g mX11_keeps J 0 0 0 [some (.ref (a 0)), some (.int l1), some (.int l2), some (.int l3)] [] (WD g a h P)
  unfold fX11_keeps at hf
  refine Z.aload_n (n := 1) dX11_keeps_0 rfl rfl ?_
  refine Z.getf (n := 4) fX11_12 dX11_keeps_1 rfl W0 rfl ?_
  refine Z.iload_n (n := 5) dX11_keeps_4 rfl rfl ?_
  obtain ⟨z1, ez1, hf⟩ := Option.bind_eq_some_iff.mp hf
  refine Z.callV (n := 8) vX11_58 (ctX3_has ez1) hJ.rm (Nat.le_of_ble_eq_true rfl) rfl rfl (Nat.le_refl _) (Nat.le_refl _) rfl W1 rfl rfl (Nat.le_of_ble_eq_true rfl) rfl dX11_keeps_5 rfl (fun v w hw => ?_)
  obtain ⟨rfl, rfl⟩ := hw
  show Z _ _ _ _ _ _ _ [.int z1.1] _
  refine Z.if_eq (tgt := 33) (n := 11) dX11_keeps_8 rfl rfl (fun c2 => ?_) (fun c2 => ?_)
  · rw [if_pos c2] at hf
    refine Z.fg [0, 1, 2, 3] ?_
    exact zX11_keeps_33 hJ _ hf
  · rw [if_neg c2] at hf
    refine Z.aload_n (n := 12) dX11_keeps_11 rfl rfl ?_
    refine Z.getf (n := 15) fX11_12 dX11_keeps_12 rfl W0 rfl ?_
    refine Z.iload_n (n := 16) dX11_keeps_15 rfl rfl ?_
    obtain ⟨z3, ez3, hf⟩ := Option.bind_eq_some_iff.mp hf
    refine Z.callV (n := 19) vX11_58 (ctX3_has ez3) hJ.rm (Nat.le_of_ble_eq_true rfl) rfl rfl (Nat.le_refl _) (Nat.le_refl _) rfl W1 rfl rfl (Nat.le_of_ble_eq_true rfl) rfl dX11_keeps_16 rfl (fun v w hw => ?_)
    obtain ⟨rfl, rfl⟩ := hw
    show Z _ _ _ _ _ _ _ [.int z3.1] _
    refine Z.if_eq (tgt := 33) (n := 22) dX11_keeps_19 rfl rfl (fun c4 => ?_) (fun c4 => ?_)
    · rw [if_pos c4] at hf
      refine Z.fg [0, 1, 2, 3] ?_
      exact zX11_keeps_33 hJ _ hf
    · rw [if_neg c4] at hf
      refine Z.aload_n (n := 23) dX11_keeps_22 rfl rfl ?_
      refine Z.getf (n := 26) fX11_12 dX11_keeps_23 rfl W0 rfl ?_
      refine Z.iload_n (n := 27) dX11_keeps_26 rfl rfl ?_
      obtain ⟨z5, ez5, hf⟩ := Option.bind_eq_some_iff.mp hf
      refine Z.callV (n := 30) vX11_58 (ctX3_has ez5) hJ.rm (Nat.le_of_ble_eq_true rfl) rfl rfl (Nat.le_refl _) (Nat.le_refl _) rfl W1 rfl rfl (Nat.le_of_ble_eq_true rfl) rfl dX11_keeps_27 rfl (fun v w hw => ?_)
      obtain ⟨rfl, rfl⟩ := hw
      show Z _ _ _ _ _ _ _ [.int z5.1] _
      refine Z.if_ne (tgt := 35) (n := 33) dX11_keeps_30 rfl rfl (fun c6 => ?_) (fun c6 => ?_)
      · rw [if_neg c6] at hf
        refine Z.iload_n (n := 36) dX11_keeps_35 rfl rfl ?_
        refine Z.iload_n (n := 37) dX11_keeps_36 rfl rfl ?_
        refine Z.icmp_eq (tgt := 50) (n := 40) dX11_keeps_37 rfl rfl (fun c7 => ?_) (fun c7 => ?_)
        · rw [if_pos c7] at hf
          refine Z.fg [0, 1, 2, 3] ?_
          exact zX11_keeps_50 hJ _ hf
        · rw [if_neg c7] at hf
          refine Z.iload_n (n := 41) dX11_keeps_40 rfl rfl ?_
          refine Z.iload_n (n := 42) dX11_keeps_41 rfl rfl ?_
          refine Z.icmp_eq (tgt := 50) (n := 45) dX11_keeps_42 rfl rfl (fun c8 => ?_) (fun c8 => ?_)
          · rw [if_pos c8] at hf
            refine Z.fg [0, 1, 2, 3] ?_
            exact zX11_keeps_50 hJ _ hf
          · rw [if_neg c8] at hf
            refine Z.iload_n (n := 46) dX11_keeps_45 rfl rfl ?_
            refine Z.iload_n (n := 47) dX11_keeps_46 rfl rfl ?_
            refine Z.icmp_ne (tgt := 53) (n := 50) dX11_keeps_47 rfl rfl (fun c9 => ?_) (fun c9 => ?_)
            · rw [if_neg c9] at hf
              refine Z.aload_n (n := 54) dX11_keeps_53 rfl rfl ?_
              refine Z.getf (n := 57) fX11_12 dX11_keeps_54 rfl W0 rfl ?_
              refine Z.iload_n (n := 58) dX11_keeps_57 rfl rfl ?_
              obtain ⟨z10, ez10, hf⟩ := Option.bind_eq_some_iff.mp hf
              refine Z.callV (n := 61) vX11_68 (ctX3_lives ez10) hJ.rm (Nat.le_of_ble_eq_true rfl) rfl rfl (Nat.le_refl _) (Nat.le_refl _) rfl W1 rfl rfl (Nat.le_of_ble_eq_true rfl) rfl dX11_keeps_58 rfl (fun v w hw => ?_)
              obtain ⟨rfl, rfl⟩ := hw
              show Z _ _ _ _ _ _ _ [.int z10.1] _
              refine Z.if_eq (tgt := 86) (n := 64) dX11_keeps_61 rfl rfl (fun c11 => ?_) (fun c11 => ?_)
              · rw [if_pos c11] at hf
                refine Z.fg [0, 1, 2, 3] ?_
                exact zX11_keeps_86 hJ _ hf
              · rw [if_neg c11] at hf
                refine Z.aload_n (n := 65) dX11_keeps_64 rfl rfl ?_
                refine Z.getf (n := 68) fX11_12 dX11_keeps_65 rfl W0 rfl ?_
                refine Z.iload_n (n := 69) dX11_keeps_68 rfl rfl ?_
                obtain ⟨z12, ez12, hf⟩ := Option.bind_eq_some_iff.mp hf
                refine Z.callV (n := 72) vX11_68 (ctX3_lives ez12) hJ.rm (Nat.le_of_ble_eq_true rfl) rfl rfl (Nat.le_refl _) (Nat.le_refl _) rfl W1 rfl rfl (Nat.le_of_ble_eq_true rfl) rfl dX11_keeps_69 rfl (fun v w hw => ?_)
                obtain ⟨rfl, rfl⟩ := hw
                show Z _ _ _ _ _ _ _ [.int z12.1] _
                refine Z.if_eq (tgt := 86) (n := 75) dX11_keeps_72 rfl rfl (fun c13 => ?_) (fun c13 => ?_)
                · rw [if_pos c13] at hf
                  refine Z.fg [0, 1, 2, 3] ?_
                  exact zX11_keeps_86 hJ _ hf
                · rw [if_neg c13] at hf
                  refine Z.aload_n (n := 76) dX11_keeps_75 rfl rfl ?_
                  refine Z.getf (n := 79) fX11_12 dX11_keeps_76 rfl W0 rfl ?_
                  refine Z.iload_n (n := 80) dX11_keeps_79 rfl rfl ?_
                  obtain ⟨z14, ez14, hf⟩ := Option.bind_eq_some_iff.mp hf
                  refine Z.callV (n := 83) vX11_68 (ctX3_lives ez14) hJ.rm (Nat.le_of_ble_eq_true rfl) rfl rfl (Nat.le_refl _) (Nat.le_refl _) rfl W1 rfl rfl (Nat.le_of_ble_eq_true rfl) rfl dX11_keeps_80 rfl (fun v w hw => ?_)
                  obtain ⟨rfl, rfl⟩ := hw
                  show Z _ _ _ _ _ _ _ [.int z14.1] _
                  refine Z.if_ne (tgt := 89) (n := 86) dX11_keeps_83 rfl rfl (fun c15 => ?_) (fun c15 => ?_)
                  · rw [if_neg c15] at hf
                    refine Z.aload_n (n := 90) dX11_keeps_89 rfl rfl ?_
                    refine Z.getf (n := 93) fX11_12 dX11_keeps_90 rfl W0 rfl ?_
                    refine Z.iload_n (n := 94) dX11_keeps_93 rfl rfl ?_
                    refine Z.iload_n (n := 95) dX11_keeps_94 rfl rfl ?_
                    obtain ⟨z16, ez16, hf⟩ := Option.bind_eq_some_iff.mp hf
                    refine Z.callV (n := 98) vX11_164 (ctX3_standsWith ez16) hJ.rm (Nat.le_of_ble_eq_true rfl) rfl rfl (Nat.le_refl _) (Nat.le_refl _) rfl W1 rfl rfl (Nat.le_of_ble_eq_true rfl) rfl dX11_keeps_95 rfl (fun v w hw => ?_)
                    obtain ⟨rfl, rfl⟩ := hw
                    show Z _ _ _ _ _ _ _ [.int z16.1] _
                    refine Z.if_eq (tgt := 117) (n := 101) dX11_keeps_98 rfl rfl (fun c17 => ?_) (fun c17 => ?_)
                    · rw [if_pos c17] at hf
                      refine Z.fg [0, 1, 2, 3] ?_
                      exact zX11_keeps_117 hJ _ hf
                    · rw [if_neg c17] at hf
                      refine Z.aload_n (n := 102) dX11_keeps_101 rfl rfl ?_
                      refine Z.getf (n := 105) fX11_12 dX11_keeps_102 rfl W0 rfl ?_
                      refine Z.iload_n (n := 106) dX11_keeps_105 rfl rfl ?_
                      refine Z.iload_n (n := 107) dX11_keeps_106 rfl rfl ?_
                      obtain ⟨z18, ez18, hf⟩ := Option.bind_eq_some_iff.mp hf
                      refine Z.callV (n := 110) vX11_167 (ctX3_bears ez18) hJ.rm (Nat.le_of_ble_eq_true rfl) rfl rfl (Nat.le_refl _) (Nat.le_refl _) rfl W1 rfl rfl (Nat.le_of_ble_eq_true rfl) rfl dX11_keeps_107 rfl (fun v w hw => ?_)
                      obtain ⟨rfl, rfl⟩ := hw
                      show Z _ _ _ _ _ _ _ [.int z18.1] _
                      refine Z.if_eq (tgt := 117) (n := 113) dX11_keeps_110 rfl rfl (fun c19 => ?_) (fun c19 => ?_)
                      · rw [if_pos c19] at hf
                        refine Z.fg [0, 1, 2, 3] ?_
                        exact zX11_keeps_117 hJ _ hf
                      · rw [if_neg c19] at hf
                        refine Z.iconst (n := 114) (v := 1) dX11_keeps_113 rfl (by decide +kernel) ?_
                        refine Z.goto (tgt := 118) dX11_keeps_114 rfl ?_
                        refine Z.fg [0, 1, 2, 3] ?_
                        exact zX11_keeps_118 hJ _ _ hf
                  · rw [if_pos c15] at hf
                    refine Z.fg [0, 1, 2, 3] ?_
                    exact zX11_keeps_86 hJ _ hf
            · rw [if_pos c9] at hf
              refine Z.fg [0, 1, 2, 3] ?_
              exact zX11_keeps_50 hJ _ hf
      · rw [if_pos c6] at hf
        refine Z.fg [0, 1, 2, 3] ?_
        exact zX11_keeps_33 hJ _ hf
def fX11_empty_87 (k30_ : Int32 → Int32 → Int32 → HT → Option (Int32 × HT)) (l1 : Int32) (l2 : Int32) (l3 : Int32) (h : HT) : Option (Int32 × HT) :=
  k30_ l1 l2 (l3 + 1) h
set_option maxHeartbeats 4000000 in
theorem zX11_empty_87 {g : GP} {a : Nat → Nat} {P : PT} {J : JT} {z : Int32 × HT} {k30_ : Int32 → Int32 → Int32 → HT → Option (Int32 × HT)} (hJ : JX g 4 0 0 (PoI g a P z) J) (hk30 : ∀ (l1 : Int32) (l2 : Int32) (l3 : Int32) (h : HT), k30_ l1 l2 l3 h = some z → Z g mX11_empty J 0 0 30 [some (.ref (a 0)), some (.int l1), some (.int l2), some (.int l3)] [] (WD g a h P)) (l1 : Int32) (l2 : Int32) (l3 : Int32) (h : HT) (hf : fX11_empty_87 k30_ l1 l2 l3 h = some z) : Z g mX11_empty J 0 0 87 [some (.ref (a 0)), some (.int l1), some (.int l2), some (.int l3)] [] (WD g a h P) := by
  unfold fX11_empty_87 at hf
  refine Z.iinc (n := 90) (v := l3 + 1) dX11_empty_87 rfl rfl rfl (by decide) rfl ?_
  refine Z.goto (tgt := 30) dX11_empty_90 rfl ?_
  exact hk30 _ _ _ _ hf
def fX11_empty_30 : Nat → Int32 → Int32 → Int32 → HT → Option (Int32 × HT)
  | 0, _, _, _, _ => none
  | n + 1, l1, l2, l3, h =>
  if (h 1 0) ≤ l3 then (some (l2, h))
  else (if l3 = l1 then (fX11_empty_87 (fX11_empty_30  n) l1 l2 l3 h)
  else (Option.bind (fX3_lives l3 h) fun z7 =>
  if z7.1 = 0 then (fX11_empty_87 (fX11_empty_30  n) l1 l2 l3 z7.2)
  else (Option.bind (fX3_standsWith l1 l3 z7.2) fun z9 =>
  if z9.1 = 0 then (fX11_empty_87 (fX11_empty_30  n) l1 l2 l3 z9.2)
  else (Option.bind (fX3_bearsOneBut l1 l3 z9.2) fun z11 =>
  if z11.1 = 0 then (fX11_empty_87 (fX11_empty_30  n) l1 (l2 ||| ((1 : Int32) <<< (l3 &&& 31))) l3 z11.2)
  else (fX11_empty_87 (fX11_empty_30  n) l1 l2 l3 z11.2)))))
set_option maxHeartbeats 4000000 in
theorem zX11_empty_30 {g : GP} {a : Nat → Nat} {P : PT} {J : JT} {z : Int32 × HT} (hJ : JX g 4 0 0 (PoI g a P z) J) : ∀ (n : Nat) (l1 : Int32) (l2 : Int32) (l3 : Int32) (h : HT), fX11_empty_30 n l1 l2 l3 h = some z → Z g mX11_empty J 0 0 30 [some (.ref (a 0)), some (.int l1), some (.int l2), some (.int l3)] [] (WD g a h P) := by
  intro n
  induction n with
  | zero =>
    intro _ _ _ _ hf
    cases hf
  | succ n ih =>
    intro l1 l2 l3 h hf
    unfold fX11_empty_30 at hf
    refine Z.iload_n (n := 31) dX11_empty_30 rfl rfl ?_
    refine Z.aload_n (n := 32) dX11_empty_31 rfl rfl ?_
    refine Z.getf (n := 35) fX11_12 dX11_empty_32 rfl W0 rfl ?_
    refine Z.getf (n := 38) fX11_50 dX11_empty_35 rfl W1 rfl ?_
    refine Z.icmp_ge (tgt := 93) (n := 41) dX11_empty_38 rfl rfl (fun c5 => ?_) (fun c5 => ?_)
    · rw [if_pos c5] at hf
      refine Z.iload_n (n := 94) dX11_empty_93 rfl rfl ?_
      have hz := Option.some.inj hf
      subst hz
      exact Z.iret hJ dX11_empty_94 rfl (Nat.le_refl _) (Nat.le_refl _) ⟨rfl, rfl⟩
    · rw [if_neg c5] at hf
      refine Z.iload_n (n := 42) dX11_empty_41 rfl rfl ?_
      refine Z.iload_n (n := 43) dX11_empty_42 rfl rfl ?_
      refine Z.icmp_eq (tgt := 87) (n := 46) dX11_empty_43 rfl rfl (fun c6 => ?_) (fun c6 => ?_)
      · rw [if_pos c6] at hf
        exact zX11_empty_87 hJ ih _ _ _ _ hf
      · rw [if_neg c6] at hf
        refine Z.aload_n (n := 47) dX11_empty_46 rfl rfl ?_
        refine Z.getf (n := 50) fX11_12 dX11_empty_47 rfl W0 rfl ?_
        refine Z.iload_n (n := 51) dX11_empty_50 rfl rfl ?_
        obtain ⟨z7, ez7, hf⟩ := Option.bind_eq_some_iff.mp hf
        refine Z.callV (n := 54) vX11_68 (ctX3_lives ez7) hJ.rm (Nat.le_of_ble_eq_true rfl) rfl rfl (Nat.le_refl _) (Nat.le_refl _) rfl W1 rfl rfl (Nat.le_of_ble_eq_true rfl) rfl dX11_empty_51 rfl (fun v w hw => ?_)
        obtain ⟨rfl, rfl⟩ := hw
        show Z _ _ _ _ _ _ _ [.int z7.1] _
        refine Z.if_eq (tgt := 87) (n := 57) dX11_empty_54 rfl rfl (fun c8 => ?_) (fun c8 => ?_)
        · rw [if_pos c8] at hf
          exact zX11_empty_87 hJ ih _ _ _ _ hf
        · rw [if_neg c8] at hf
          refine Z.aload_n (n := 58) dX11_empty_57 rfl rfl ?_
          refine Z.getf (n := 61) fX11_12 dX11_empty_58 rfl W0 rfl ?_
          refine Z.iload_n (n := 62) dX11_empty_61 rfl rfl ?_
          refine Z.iload_n (n := 63) dX11_empty_62 rfl rfl ?_
          obtain ⟨z9, ez9, hf⟩ := Option.bind_eq_some_iff.mp hf
          refine Z.callV (n := 66) vX11_164 (ctX3_standsWith ez9) hJ.rm (Nat.le_of_ble_eq_true rfl) rfl rfl (Nat.le_refl _) (Nat.le_refl _) rfl W1 rfl rfl (Nat.le_of_ble_eq_true rfl) rfl dX11_empty_63 rfl (fun v w hw => ?_)
          obtain ⟨rfl, rfl⟩ := hw
          show Z _ _ _ _ _ _ _ [.int z9.1] _
          refine Z.if_eq (tgt := 87) (n := 69) dX11_empty_66 rfl rfl (fun c10 => ?_) (fun c10 => ?_)
          · rw [if_pos c10] at hf
            exact zX11_empty_87 hJ ih _ _ _ _ hf
          · rw [if_neg c10] at hf
            refine Z.aload_n (n := 70) dX11_empty_69 rfl rfl ?_
            refine Z.getf (n := 73) fX11_12 dX11_empty_70 rfl W0 rfl ?_
            refine Z.iload_n (n := 74) dX11_empty_73 rfl rfl ?_
            refine Z.iload_n (n := 75) dX11_empty_74 rfl rfl ?_
            obtain ⟨z11, ez11, hf⟩ := Option.bind_eq_some_iff.mp hf
            refine Z.callV (n := 78) vX11_170 (ctX3_bearsOneBut ez11) hJ.rm (Nat.le_of_ble_eq_true rfl) rfl rfl (Nat.le_refl _) (Nat.le_refl _) rfl W1 rfl rfl (Nat.le_of_ble_eq_true rfl) rfl dX11_empty_75 rfl (fun v w hw => ?_)
            obtain ⟨rfl, rfl⟩ := hw
            show Z _ _ _ _ _ _ _ [.int z11.1] _
            refine Z.if_ne (tgt := 87) (n := 81) dX11_empty_78 rfl rfl (fun c12 => ?_) (fun c12 => ?_)
            · rw [if_neg c12] at hf
              exact zX11_empty_87 hJ ih _ _ _ _ hf
            · rw [if_pos c12] at hf
              refine Z.iload_n (n := 82) dX11_empty_81 rfl rfl ?_
              refine Z.iconst (n := 83) (v := 1) dX11_empty_82 rfl (by decide +kernel) ?_
              refine Z.iload_n (n := 84) dX11_empty_83 rfl rfl ?_
              refine Z.ishl (n := 85) dX11_empty_84 rfl ?_
              refine Z.ior (n := 86) dX11_empty_85 rfl ?_
              refine Z.istore_n (n := 87) dX11_empty_86 rfl (by decide) rfl ?_
              exact zX11_empty_87 hJ ih _ _ _ _ hf
def fX11_empty (l1 : Int32) (h : HT) : Option (Int32 × HT) :=
  Option.bind (fX3_has l1 h) fun z1 =>
  if z1.1 = 0 then (some ((-1), z1.2))
  else (Option.bind (fX3_lives l1 z1.2) fun z3 =>
  if z3.1 = 0 then (some (0, z3.2))
  else (fX11_empty_30 1000 l1 0 0 z3.2))
set_option maxHeartbeats 4000000 in
theorem ctX11_empty {g : GP} {a : Nat → Nat} {P : PT} {h : HT} {z : Int32 × HT} {l1 : Int32} (hf : fX11_empty l1 h = some z) : Ct g 4 0 0 mX11_empty [.ref (a 0), .int l1] (WD g a h P) (PoI g a P z) := by
  refine Ct.of (by decide +kernel) (Nat.le_of_ble_eq_true rfl) fun J hJ => ?_
  show Z g mX11_empty J 0 0 0 [some (.ref (a 0)), some (.int l1), none, none] [] (WD g a h P)
  unfold fX11_empty at hf
  refine Z.aload_n (n := 1) dX11_empty_0 rfl rfl ?_
  refine Z.getf (n := 4) fX11_12 dX11_empty_1 rfl W0 rfl ?_
  refine Z.iload_n (n := 5) dX11_empty_4 rfl rfl ?_
  obtain ⟨z1, ez1, hf⟩ := Option.bind_eq_some_iff.mp hf
  refine Z.callV (n := 8) vX11_58 (ctX3_has ez1) hJ.rm (Nat.le_of_ble_eq_true rfl) rfl rfl (Nat.le_refl _) (Nat.le_refl _) rfl W1 rfl rfl (Nat.le_of_ble_eq_true rfl) rfl dX11_empty_5 rfl (fun v w hw => ?_)
  obtain ⟨rfl, rfl⟩ := hw
  show Z _ _ _ _ _ _ _ [.int z1.1] _
  refine Z.if_ne (tgt := 13) (n := 11) dX11_empty_8 rfl rfl (fun c2 => ?_) (fun c2 => ?_)
  · rw [if_neg c2] at hf
    refine Z.aload_n (n := 14) dX11_empty_13 rfl rfl ?_
    refine Z.getf (n := 17) fX11_12 dX11_empty_14 rfl W0 rfl ?_
    refine Z.iload_n (n := 18) dX11_empty_17 rfl rfl ?_
    obtain ⟨z3, ez3, hf⟩ := Option.bind_eq_some_iff.mp hf
    refine Z.callV (n := 21) vX11_68 (ctX3_lives ez3) hJ.rm (Nat.le_of_ble_eq_true rfl) rfl rfl (Nat.le_refl _) (Nat.le_refl _) rfl W1 rfl rfl (Nat.le_of_ble_eq_true rfl) rfl dX11_empty_18 rfl (fun v w hw => ?_)
    obtain ⟨rfl, rfl⟩ := hw
    show Z _ _ _ _ _ _ _ [.int z3.1] _
    refine Z.if_ne (tgt := 26) (n := 24) dX11_empty_21 rfl rfl (fun c4 => ?_) (fun c4 => ?_)
    · rw [if_neg c4] at hf
      refine Z.iconst (n := 27) (v := 0) dX11_empty_26 rfl (by decide +kernel) ?_
      refine Z.istore_n (n := 28) dX11_empty_27 rfl (by decide) rfl ?_
      refine Z.iconst (n := 29) (v := 0) dX11_empty_28 rfl (by decide +kernel) ?_
      refine Z.istore_n (n := 30) dX11_empty_29 rfl (by decide) rfl ?_
      exact zX11_empty_30 hJ _ _ _ _ _ hf
    · rw [if_pos c4] at hf
      refine Z.iconst (n := 25) (v := 0) dX11_empty_24 rfl (by decide +kernel) ?_
      have hz := Option.some.inj hf
      subst hz
      exact Z.iret hJ dX11_empty_25 rfl (Nat.le_refl _) (Nat.le_refl _) ⟨rfl, rfl⟩
  · rw [if_pos c2] at hf
    refine Z.iconst (n := 12) (v := -1) dX11_empty_11 rfl (by decide +kernel) ?_
    have hz := Option.some.inj hf
    subst hz
    exact Z.iret hJ dX11_empty_12 rfl (Nat.le_refl _) (Nat.le_refl _) ⟨rfl, rfl⟩
def fX11_edge (l1 : Int32) (h : HT) : Option (Int32 × HT) :=
  Option.bind (fX3_has l1 h) fun z1 =>
  if z1.1 = 0 then (some ((-1), z1.2))
  else (Option.bind (fX3_lives l1 z1.2) fun z3 =>
  if z3.1 = 0 then (some ((-3), z3.2))
  else (Option.bind (fX3_turns l1 z3.2) fun z5 =>
  some (z5.1, z5.2)))
set_option maxHeartbeats 4000000 in
theorem ctX11_edge {g : GP} {a : Nat → Nat} {P : PT} {h : HT} {z : Int32 × HT} {l1 : Int32} (hf : fX11_edge l1 h = some z) : Ct g 3 0 0 mX11_edge [.ref (a 0), .int l1] (WD g a h P) (PoI g a P z) := by
  refine Ct.of (by decide +kernel) (Nat.le_of_ble_eq_true rfl) fun J hJ => ?_
  show Z g mX11_edge J 0 0 0 [some (.ref (a 0)), some (.int l1)] [] (WD g a h P)
  unfold fX11_edge at hf
  refine Z.aload_n (n := 1) dX11_edge_0 rfl rfl ?_
  refine Z.getf (n := 4) fX11_12 dX11_edge_1 rfl W0 rfl ?_
  refine Z.iload_n (n := 5) dX11_edge_4 rfl rfl ?_
  obtain ⟨z1, ez1, hf⟩ := Option.bind_eq_some_iff.mp hf
  refine Z.callV (n := 8) vX11_58 (ctX3_has ez1) hJ.rm (Nat.le_of_ble_eq_true rfl) rfl rfl (Nat.le_refl _) (Nat.le_refl _) rfl W1 rfl rfl (Nat.le_of_ble_eq_true rfl) rfl dX11_edge_5 rfl (fun v w hw => ?_)
  obtain ⟨rfl, rfl⟩ := hw
  show Z _ _ _ _ _ _ _ [.int z1.1] _
  refine Z.if_ne (tgt := 13) (n := 11) dX11_edge_8 rfl rfl (fun c2 => ?_) (fun c2 => ?_)
  · rw [if_neg c2] at hf
    refine Z.aload_n (n := 14) dX11_edge_13 rfl rfl ?_
    refine Z.getf (n := 17) fX11_12 dX11_edge_14 rfl W0 rfl ?_
    refine Z.iload_n (n := 18) dX11_edge_17 rfl rfl ?_
    obtain ⟨z3, ez3, hf⟩ := Option.bind_eq_some_iff.mp hf
    refine Z.callV (n := 21) vX11_68 (ctX3_lives ez3) hJ.rm (Nat.le_of_ble_eq_true rfl) rfl rfl (Nat.le_refl _) (Nat.le_refl _) rfl W1 rfl rfl (Nat.le_of_ble_eq_true rfl) rfl dX11_edge_18 rfl (fun v w hw => ?_)
    obtain ⟨rfl, rfl⟩ := hw
    show Z _ _ _ _ _ _ _ [.int z3.1] _
    refine Z.if_ne (tgt := 27) (n := 24) dX11_edge_21 rfl rfl (fun c4 => ?_) (fun c4 => ?_)
    · rw [if_neg c4] at hf
      refine Z.aload_n (n := 28) dX11_edge_27 rfl rfl ?_
      refine Z.getf (n := 31) fX11_12 dX11_edge_28 rfl W0 rfl ?_
      refine Z.iload_n (n := 32) dX11_edge_31 rfl rfl ?_
      obtain ⟨z5, ez5, hf⟩ := Option.bind_eq_some_iff.mp hf
      refine Z.callV (n := 35) vX11_192 (ctX3_turns ez5) hJ.rm (Nat.le_of_ble_eq_true rfl) rfl rfl (Nat.le_refl _) (Nat.le_refl _) rfl W1 rfl rfl (Nat.le_of_ble_eq_true rfl) rfl dX11_edge_32 rfl (fun v w hw => ?_)
      obtain ⟨rfl, rfl⟩ := hw
      show Z _ _ _ _ _ _ _ [.int z5.1] _
      have hz := Option.some.inj hf
      subst hz
      exact Z.iret hJ dX11_edge_35 rfl (Nat.le_refl _) (Nat.le_refl _) ⟨rfl, rfl⟩
    · rw [if_pos c4] at hf
      refine Z.bipush (n := 26) (v := -3) dX11_edge_24 rfl (by decide +kernel) ?_
      have hz := Option.some.inj hf
      subst hz
      exact Z.iret hJ dX11_edge_26 rfl (Nat.le_refl _) (Nat.le_refl _) ⟨rfl, rfl⟩
  · rw [if_pos c2] at hf
    refine Z.iconst (n := 12) (v := -1) dX11_edge_11 rfl (by decide +kernel) ?_
    have hz := Option.some.inj hf
    subst hz
    exact Z.iret hJ dX11_edge_12 rfl (Nat.le_refl _) (Nat.le_refl _) ⟨rfl, rfl⟩
def fX11_courted_79 (k7_ : Int32 → Int32 → Int32 → HT → Option (Int32 × HT)) (l1 : Int32) (l2 : Int32) (l3 : Int32) (h : HT) : Option (Int32 × HT) :=
  k7_ l1 l2 (l3 + 1) h
set_option maxHeartbeats 4000000 in
theorem zX11_courted_79 {g : GP} {a : Nat → Nat} {P : PT} {J : JT} {z : Int32 × HT} {k7_ : Int32 → Int32 → Int32 → HT → Option (Int32 × HT)} (hJ : JX g 3 0 0 (PoI g a P z) J) (hk7 : ∀ (l1 : Int32) (l2 : Int32) (l3 : Int32) (h : HT), k7_ l1 l2 l3 h = some z → Z g mX11_courted J 0 0 7 [some (.ref (a 0)), some (.int l1), some (.int l2), some (.int l3), none, none] [] (WD g a h P)) (l1 : Int32) (l2 : Int32) (l3 : Int32) (h : HT) (hf : fX11_courted_79 k7_ l1 l2 l3 h = some z) : Z g mX11_courted J 0 0 79 [some (.ref (a 0)), some (.int l1), some (.int l2), some (.int l3), none, none] [] (WD g a h P) := by
  unfold fX11_courted_79 at hf
  refine Z.iinc (n := 82) (v := l3 + 1) dX11_courted_79 rfl rfl rfl (by decide) rfl ?_
  refine Z.goto (tgt := 7) dX11_courted_82 rfl ?_
  exact hk7 _ _ _ _ hf
def fX11_courted_66 (k7_ : Int32 → Int32 → Int32 → HT → Option (Int32 × HT)) (l1 : Int32) (l2 : Int32) (l3 : Int32) (s0 : Int32) (h : HT) : Option (Int32 × HT) :=
  if s0 ≤ l2 then (fX11_courted_79 k7_ l1 l2 l3 h)
  else (fX11_courted_79 k7_ l3 s0 l3 h)
set_option maxHeartbeats 4000000 in
theorem zX11_courted_66 {g : GP} {a : Nat → Nat} {P : PT} {J : JT} {z : Int32 × HT} {k7_ : Int32 → Int32 → Int32 → HT → Option (Int32 × HT)} (hJ : JX g 3 0 0 (PoI g a P z) J) (hk7 : ∀ (l1 : Int32) (l2 : Int32) (l3 : Int32) (h : HT), k7_ l1 l2 l3 h = some z → Z g mX11_courted J 0 0 7 [some (.ref (a 0)), some (.int l1), some (.int l2), some (.int l3), none, none] [] (WD g a h P)) (l1 : Int32) (l2 : Int32) (l3 : Int32) (s0 : Int32) (h : HT) (hf : fX11_courted_66 k7_ l1 l2 l3 s0 h = some z) : Z g mX11_courted J 0 0 66 [some (.ref (a 0)), some (.int l1), some (.int l2), some (.int l3), none, none] [.int s0] (WD g a h P) := by
  unfold fX11_courted_66 at hf
  refine Z.istore (n := 68) dX11_courted_66 rfl (by decide) rfl ?_
  refine Z.iload (n := 70) dX11_courted_68 rfl rfl ?_
  refine Z.iload_n (n := 71) dX11_courted_70 rfl rfl ?_
  refine Z.icmp_le (tgt := 79) (n := 74) dX11_courted_71 rfl rfl (fun c6 => ?_) (fun c6 => ?_)
  · rw [if_pos c6] at hf
    refine Z.fg [5] ?_
    exact zX11_courted_79 hJ hk7 _ _ _ _ hf
  · rw [if_neg c6] at hf
    refine Z.iload (n := 76) dX11_courted_74 rfl rfl ?_
    refine Z.istore_n (n := 77) dX11_courted_76 rfl (by decide) rfl ?_
    refine Z.iload_n (n := 78) dX11_courted_77 rfl rfl ?_
    refine Z.istore_n (n := 79) dX11_courted_78 rfl (by decide) rfl ?_
    refine Z.fg [5] ?_
    exact zX11_courted_79 hJ hk7 _ _ _ _ hf
def fX11_courted_7 : Nat → Int32 → Int32 → Int32 → HT → Option (Int32 × HT)
  | 0, _, _, _, _ => none
  | n + 1, l1, l2, l3, h =>
  if (h 1 0) ≤ l3 then (some (l1, h))
  else (Option.bind (fX3_lives l3 h) fun z2 =>
  if z2.1 = 0 then (fX11_courted_79 (fX11_courted_7  n) l1 l2 l3 z2.2)
  else (Option.bind (ck 7 l3) fun j4 =>
  if (z2.2 2 j4) ≤ 0 then (fX11_courted_66 (fX11_courted_7  n) l1 l2 l3 0 z2.2)
  else (Option.bind (fX3_turns l3 z2.2) fun z7 =>
  Option.bind (nz (z2.2 2 j4)) fun u8 =>
  fX11_courted_66 (fX11_courted_7  n) l1 l2 l3 ((z7.1 * (100 : Int32)) / (z2.2 2 j4)) z7.2)))
set_option maxHeartbeats 4000000 in
theorem zX11_courted_7 {g : GP} {a : Nat → Nat} {P : PT} {J : JT} {z : Int32 × HT} (hJ : JX g 3 0 0 (PoI g a P z) J) : ∀ (n : Nat) (l1 : Int32) (l2 : Int32) (l3 : Int32) (h : HT), fX11_courted_7 n l1 l2 l3 h = some z → Z g mX11_courted J 0 0 7 [some (.ref (a 0)), some (.int l1), some (.int l2), some (.int l3), none, none] [] (WD g a h P) := by
  intro n
  induction n with
  | zero =>
    intro _ _ _ _ hf
    cases hf
  | succ n ih =>
    intro l1 l2 l3 h hf
    unfold fX11_courted_7 at hf
    refine Z.iload_n (n := 8) dX11_courted_7 rfl rfl ?_
    refine Z.aload_n (n := 9) dX11_courted_8 rfl rfl ?_
    refine Z.getf (n := 12) fX11_12 dX11_courted_9 rfl W0 rfl ?_
    refine Z.getf (n := 15) fX11_50 dX11_courted_12 rfl W1 rfl ?_
    refine Z.icmp_ge (tgt := 85) (n := 18) dX11_courted_15 rfl rfl (fun c1 => ?_) (fun c1 => ?_)
    · rw [if_pos c1] at hf
      refine Z.iload_n (n := 86) dX11_courted_85 rfl rfl ?_
      have hz := Option.some.inj hf
      subst hz
      exact Z.iret hJ dX11_courted_86 rfl (Nat.le_refl _) (Nat.le_refl _) ⟨rfl, rfl⟩
    · rw [if_neg c1] at hf
      refine Z.aload_n (n := 19) dX11_courted_18 rfl rfl ?_
      refine Z.getf (n := 22) fX11_12 dX11_courted_19 rfl W0 rfl ?_
      refine Z.iload_n (n := 23) dX11_courted_22 rfl rfl ?_
      obtain ⟨z2, ez2, hf⟩ := Option.bind_eq_some_iff.mp hf
      refine Z.callV (n := 26) vX11_68 (ctX3_lives ez2) hJ.rm (Nat.le_of_ble_eq_true rfl) rfl rfl (Nat.le_refl _) (Nat.le_refl _) rfl W1 rfl rfl (Nat.le_of_ble_eq_true rfl) rfl dX11_courted_23 rfl (fun v w hw => ?_)
      obtain ⟨rfl, rfl⟩ := hw
      show Z _ _ _ _ _ _ _ [.int z2.1] _
      refine Z.if_ne (tgt := 32) (n := 29) dX11_courted_26 rfl rfl (fun c3 => ?_) (fun c3 => ?_)
      · rw [if_neg c3] at hf
        refine Z.aload_n (n := 33) dX11_courted_32 rfl rfl ?_
        refine Z.getf (n := 36) fX11_12 dX11_courted_33 rfl W0 rfl ?_
        refine Z.getf (n := 39) fX11_62 dX11_courted_36 rfl W1 rfl ?_
        refine Z.iload_n (n := 40) dX11_courted_39 rfl rfl ?_
        obtain ⟨j4, ej4, hf⟩ := Option.bind_eq_some_iff.mp hf
        obtain ⟨hij4, hlj4⟩ := ck_spec ej4
        refine Z.iald (j := j4) (n := 41) dX11_courted_40 rfl W2 hij4 hlj4 (by decide) ?_
        refine Z.istore (n := 43) dX11_courted_41 rfl (by decide) rfl ?_
        refine Z.iload (n := 45) dX11_courted_43 rfl rfl ?_
        refine Z.if_le (tgt := 65) (n := 48) dX11_courted_45 rfl rfl (fun c5 => ?_) (fun c5 => ?_)
        · rw [if_pos c5] at hf
          refine Z.iconst (n := 66) (v := 0) dX11_courted_65 rfl (by decide +kernel) ?_
          refine Z.fg [4] ?_
          exact zX11_courted_66 hJ ih _ _ _ _ _ hf
        · rw [if_neg c5] at hf
          refine Z.aload_n (n := 49) dX11_courted_48 rfl rfl ?_
          refine Z.getf (n := 52) fX11_12 dX11_courted_49 rfl W0 rfl ?_
          refine Z.iload_n (n := 53) dX11_courted_52 rfl rfl ?_
          obtain ⟨z7, ez7, hf⟩ := Option.bind_eq_some_iff.mp hf
          refine Z.callV (n := 56) vX11_192 (ctX3_turns ez7) hJ.rm (Nat.le_of_ble_eq_true rfl) rfl rfl (Nat.le_refl _) (Nat.le_refl _) rfl W1 rfl rfl (Nat.le_of_ble_eq_true rfl) rfl dX11_courted_53 rfl (fun v w hw => ?_)
          obtain ⟨rfl, rfl⟩ := hw
          show Z _ _ _ _ _ _ _ [.int z7.1] _
          refine Z.bipush (n := 58) (v := 100) dX11_courted_56 rfl (by decide +kernel) ?_
          refine Z.imul (n := 59) dX11_courted_58 rfl ?_
          refine Z.iload (n := 61) dX11_courted_59 rfl rfl ?_
          obtain ⟨u8, eu8, hf⟩ := Option.bind_eq_some_iff.mp hf
          refine Z.idiv (n := 62) dX11_courted_61 rfl (nz_spec eu8) ?_
          refine Z.goto (tgt := 66) dX11_courted_62 rfl ?_
          refine Z.fg [4] ?_
          exact zX11_courted_66 hJ ih _ _ _ _ _ hf
      · rw [if_pos c3] at hf
        refine Z.goto (tgt := 79) dX11_courted_29 rfl ?_
        exact zX11_courted_79 hJ ih _ _ _ _ hf
def fX11_courted (h : HT) : Option (Int32 × HT) :=
  fX11_courted_7 1000 (-5) (-1) 0 h
set_option maxHeartbeats 4000000 in
theorem ctX11_courted {g : GP} {a : Nat → Nat} {P : PT} {h : HT} {z : Int32 × HT} (hf : fX11_courted h = some z) : Ct g 3 0 0 mX11_courted [.ref (a 0)] (WD g a h P) (PoI g a P z) := by
  refine Ct.of (by decide +kernel) (Nat.le_of_ble_eq_true rfl) fun J hJ => ?_
  show Z g mX11_courted J 0 0 0 [some (.ref (a 0)), none, none, none, none, none] [] (WD g a h P)
  unfold fX11_courted at hf
  refine Z.bipush (n := 2) (v := -5) dX11_courted_0 rfl (by decide +kernel) ?_
  refine Z.istore_n (n := 3) dX11_courted_2 rfl (by decide) rfl ?_
  refine Z.iconst (n := 4) (v := -1) dX11_courted_3 rfl (by decide +kernel) ?_
  refine Z.istore_n (n := 5) dX11_courted_4 rfl (by decide) rfl ?_
  refine Z.iconst (n := 6) (v := 0) dX11_courted_5 rfl (by decide +kernel) ?_
  refine Z.istore_n (n := 7) dX11_courted_6 rfl (by decide) rfl ?_
  exact zX11_courted_7 hJ _ _ _ _ _ hf
