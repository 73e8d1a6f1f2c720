/-! walks, by program: 16.c4.lean.txt -/
def fX11_war_24 (P : PT) (h : HT) : Option (Int64 × HT) :=
  some (((-9223372036854775808) : Int64), h)
set_option maxHeartbeats 4000000 in
theorem zX11_war_24 {g : GP} {a : Nat → Nat} {P : PT} {J : JT} {z : Int64 × HT} (hJ : JX g 4 0 0 (PoL g a P z) J) (hPo : PoolOK P) (h : HT) (hf : fX11_war_24 P h = some z) : Z g mX11_war J 0 0 24 [none, none, none, none, none, none, none, none, none] [] (WD g a h P) := by
  unfold fX11_war_24 at hf
  refine Z.ldc2 (n := 27) (v := (-9223372036854775808)) dX11_war_24 rfl wX11_148 ?_
  have hz := Option.some.inj hf
  subst hz
  exact Z.lret hJ dX11_war_27 rfl (Nat.le_refl _) (Nat.le_refl _) ⟨rfl, rfl⟩
def fX11_war_157 (P : PT) (l2 : Int32) (l3 : Int32) (s0 : Int32) (h : HT) : Option (Int64 × HT) :=
  Option.bind (fX10_costOf l2 l3 h) fun z20 =>
  some ((s0 - z20.1).toInt64, z20.2)
set_option maxHeartbeats 4000000 in
theorem zX11_war_157 {g : GP} {a : Nat → Nat} {P : PT} {J : JT} {z : Int64 × HT} (hJ : JX g 4 0 0 (PoL g a P z) J) (hPo : PoolOK P) (l2 : Int32) (l3 : Int32) (s0 : Int32) (h : HT) (hf : fX11_war_157 P l2 l3 s0 h = some z) : Z g mX11_war J 0 0 157 [some (.ref (a 0)), none, some (.int l2), some (.int l3), none, none, none, none, none] [.int s0] (WD g a h P) := by
  unfold fX11_war_157 at hf
  refine Z.aload_n (n := 158) dX11_war_157 rfl rfl ?_
  refine Z.getf (n := 161) fX11_12 dX11_war_158 rfl W0 rfl ?_
  refine Z.getf (n := 164) fX11_98 dX11_war_161 rfl W1 rfl ?_
  refine Z.aload_n (n := 165) dX11_war_164 rfl rfl ?_
  refine Z.getf (n := 168) fX11_12 dX11_war_165 rfl W0 rfl ?_
  refine Z.iload_n (n := 169) dX11_war_168 rfl rfl ?_
  refine Z.iload_n (n := 170) dX11_war_169 rfl rfl ?_
  obtain ⟨z20, ez20, hf⟩ := Option.bind_eq_some_iff.mp hf
  refine Z.callV (n := 173) vX11_108 (ctX10_costOf ez20) hJ.rm (Nat.le_of_ble_eq_true rfl) rfl rfl (Nat.le_refl _) (Nat.le_refl _) rfl W23 rfl rfl (Nat.le_of_ble_eq_true rfl) rfl dX11_war_170 rfl (fun v w hw => ?_)
  obtain ⟨rfl, rfl⟩ := hw
  show Z _ _ _ _ _ _ _ [.int z20.1, .int s0] _
  refine Z.isub (n := 174) dX11_war_173 rfl ?_
  refine Z.i2l (n := 175) dX11_war_174 rfl rfl ?_
  have hz := Option.some.inj hf
  subst hz
  exact Z.lret hJ dX11_war_175 rfl (Nat.le_refl _) (Nat.le_refl _) ⟨rfl, rfl⟩
def fX11_war (P : PT) (l1 : Int32) (l2 : Int32) (l3 : Int32) (l4 : Int32) (h : HT) : Option (Int64 × HT) :=
  Option.bind (fX3_standingAt l1 h) fun z1 =>
  onq (dq z1.1) (fX11_war_24 P z1.2) (fun t3 => Option.bind (P[t3]?) fun r4 => (Option.bind (fX11_pairRefusal l2 l3 z1.2) fun z5 =>
  if z5.1 = 0 then (Option.bind (fv_camps r4 l2 l3 z5.2) fun z7 =>
  Option.bind (fX5_attackers z7.1 z7.2) fun z8 =>
  Option.bind (ck 7 l3) fun j9 =>
  Option.bind (fX3_forcesAt z8.1 (z8.2 3 j9) z8.2) fun z10 =>
  Option.bind (fX5_defenders z7.1 z10.2) fun z11 =>
  Option.bind (ck 7 l3) fun j12 =>
  Option.bind (fX3_forcesAt z11.1 (z11.2 3 j12) z11.2) fun z13 =>
  if l4 = 0 then (some (z10.1.toInt64, z13.2))
  else if l4 = 1 then (some (z13.1.toInt64, z13.2))
  else if l4 = 2 then (if z10.1 ≤ z13.1 then (Option.bind (ck 7 l2) fun j18 =>
  Option.bind (ck 7 l3) fun j19 =>
  fX11_war_157 P l2 l3 (-(z13.2 (6 + j18) j19)) z13.2)
  else (Option.bind (ck 7 l3) fun j21 =>
  Option.bind (ck 7 l2) fun j22 =>
  fX11_war_157 P l2 l3 (z13.2 (6 + j21) j22) z13.2))
  else (some (((-9223372036854775808) : Int64), z13.2)))
  else (fX11_war_24 P z5.2)))
set_option maxHeartbeats 4000000 in
theorem ctX11_war {g : GP} {a : Nat → Nat} {P : PT} {h : HT} {z : Int64 × HT} {l1 : Int32} {l2 : Int32} {l3 : Int32} {l4 : Int32} (hPo : PoolOK P) (hf : fX11_war P l1 l2 l3 l4 h = some z) : Ct g 4 0 0 mX11_war [.ref (a 0), .int l1, .int l2, .int l3, .int l4] (WD g a h P) (PoL g a P z) := by
  refine Ct.of (by decide +kernel) (Nat.le_of_ble_eq_true rfl) fun J hJ => ?_
  show Z g mX11_war J 0 0 0 [some (.ref (a 0)), some (.int l1), some (.int l2), some (.int l3), some (.int l4), none, none, none, none] [] (WD g a h P)
  unfold fX11_war at hf
  refine Z.aload_n (n := 1) dX11_war_0 rfl rfl ?_
  refine Z.getf (n := 4) fX11_12 dX11_war_1 rfl W0 rfl ?_
  refine Z.iload_n (n := 5) dX11_war_4 rfl rfl ?_
  obtain ⟨z1, ez1, hf⟩ := Option.bind_eq_some_iff.mp hf
  refine Z.callV (n := 8) vX11_126 (ctX3_standingAt ez1) hJ.rm (Nat.le_of_ble_eq_true rfl) rfl rfl (Nat.le_refl _) (Nat.le_refl _) rfl W1 rfl rfl (Nat.le_of_ble_eq_true rfl) rfl dX11_war_5 rfl (fun v w hw => ?_)
  obtain ⟨rfl, rfl⟩ := hw
  generalize hdo2 : dq z1.1 = o2 at hf ⊢
  cases o2 with
  | none =>
    replace hf := onq_none hf
    show Z _ _ _ _ _ _ _ [.null] _
    refine Z.astoreN (n := 10) dX11_war_8 rfl (by decide) rfl ?_
    refine Z.aloadN (n := 12) dX11_war_10 rfl rfl ?_
    refine Z.ifnullN (tgt := 24) dX11_war_12 rfl ?_
    refine Z.fg [0, 1, 2, 3, 4, 5] ?_
    exact zX11_war_24 hJ hPo _ hf
  | some t3 =>
    replace hf := onq_some hf
    obtain ⟨r4, er4, hf⟩ := Option.bind_eq_some_iff.mp hf
    show Z _ _ _ _ _ _ _ [.ref (a (102 + t3))] _
    refine Z.astore (n := 10) dX11_war_8 rfl (by decide) rfl ?_
    refine Z.aload (n := 12) dX11_war_10 rfl rfl ?_
    refine Z.ifnull (n := 15) dX11_war_12 rfl ?_
    refine Z.aload_n (n := 16) dX11_war_15 rfl rfl ?_
    refine Z.iload_n (n := 17) dX11_war_16 rfl rfl ?_
    refine Z.iload_n (n := 18) dX11_war_17 rfl rfl ?_
    obtain ⟨z5, ez5, hf⟩ := Option.bind_eq_some_iff.mp hf
    refine Z.callV (n := 21) vX11_133 (ctX11_pairRefusal ez5) hJ.rm (Nat.le_of_ble_eq_true rfl) rfl rfl (Nat.le_refl _) (Nat.le_refl _) rfl W0 rfl rfl (Nat.le_of_ble_eq_true rfl) rfl dX11_war_18 rfl (fun v w hw => ?_)
    obtain ⟨rfl, rfl⟩ := hw
    show Z _ _ _ _ _ _ _ [.int z5.1] _
    refine Z.if_eq (tgt := 28) (n := 24) dX11_war_21 rfl rfl (fun c6 => ?_) (fun c6 => ?_)
    · rw [if_pos c6] at hf
      refine Z.aload (n := 30) dX11_war_28 rfl rfl ?_
      refine Z.aload_n (n := 31) dX11_war_30 rfl rfl ?_
      refine Z.getf (n := 34) fX11_12 dX11_war_31 rfl W0 rfl ?_
      refine Z.iload_n (n := 35) dX11_war_34 rfl rfl ?_
      refine Z.iload_n (n := 36) dX11_war_35 rfl rfl ?_
      obtain ⟨z7, ez7, hf⟩ := Option.bind_eq_some_iff.mp hf
      obtain ⟨M9, q9, d9, hq9, hd9, hu9, hC9⟩ := dv_X11_136_X5 (g := g) (a := a) (P := P) (102 + t3) (At.pool er4) (hPo _ _ er4) ez7
      refine Z.callU (n := 39) hu9 hC9 hJ.rm (by omega) rfl rfl (Nat.le_refl _) (Nat.le_refl _) rfl ((At.pool er4) _) hq9 (Nat.le_of_ble_eq_true rfl) rfl dX11_war_36 rfl (fun v w hw => ?_)
      obtain ⟨rfl, rfl⟩ := hw
      show Z _ _ _ _ _ _ _ [.int z7.1] _
      refine Z.istore (n := 41) dX11_war_39 rfl (by decide) rfl ?_
      refine Z.aload_n (n := 42) dX11_war_41 rfl rfl ?_
      refine Z.getf (n := 45) fX11_12 dX11_war_42 rfl W0 rfl ?_
      refine Z.iload (n := 47) dX11_war_45 rfl rfl ?_
      obtain ⟨z8, ez8, hf⟩ := Option.bind_eq_some_iff.mp hf
      refine Z.callS (n := 50) vX11_141 (ctX5_attackers ez8) hJ.rm (Nat.le_of_ble_eq_true rfl) rfl rfl (Nat.le_refl _) (Nat.le_refl _) rfl (Nat.le_of_ble_eq_true rfl) rfl dX11_war_47 rfl (fun v w hw => ?_)
      obtain ⟨rfl, rfl⟩ := hw
      show Z _ _ _ _ _ _ _ [.int z8.1, .ref (a 1)] _
      refine Z.aload_n (n := 51) dX11_war_50 rfl rfl ?_
      refine Z.getf (n := 54) fX11_12 dX11_war_51 rfl W0 rfl ?_
      refine Z.getf (n := 57) fX11_65 dX11_war_54 rfl W1 rfl ?_
      refine Z.iload_n (n := 58) dX11_war_57 rfl rfl ?_
      obtain ⟨j9, ej9, hf⟩ := Option.bind_eq_some_iff.mp hf
      obtain ⟨hij9, hlj9⟩ := ck_spec ej9
      refine Z.iald (j := j9) (n := 59) dX11_war_58 rfl W3 hij9 hlj9 (by decide) ?_
      obtain ⟨z10, ez10, hf⟩ := Option.bind_eq_some_iff.mp hf
      refine Z.callV (n := 62) vX11_150 (ctX3_forcesAt ez10) hJ.rm (Nat.le_of_ble_eq_true rfl) rfl rfl (Nat.le_refl _) (Nat.le_refl _) rfl W1 rfl rfl (Nat.le_of_ble_eq_true rfl) rfl dX11_war_59 rfl (fun v w hw => ?_)
      obtain ⟨rfl, rfl⟩ := hw
      show Z _ _ _ _ _ _ _ [.int z10.1] _
      refine Z.istore (n := 64) dX11_war_62 rfl (by decide) rfl ?_
      refine Z.aload_n (n := 65) dX11_war_64 rfl rfl ?_
      refine Z.getf (n := 68) fX11_12 dX11_war_65 rfl W0 rfl ?_
      refine Z.iload (n := 70) dX11_war_68 rfl rfl ?_
      obtain ⟨z11, ez11, hf⟩ := Option.bind_eq_some_iff.mp hf
      refine Z.callS (n := 73) vX11_145 (ctX5_defenders ez11) hJ.rm (Nat.le_of_ble_eq_true rfl) rfl rfl (Nat.le_refl _) (Nat.le_refl _) rfl (Nat.le_of_ble_eq_true rfl) rfl dX11_war_70 rfl (fun v w hw => ?_)
      obtain ⟨rfl, rfl⟩ := hw
      show Z _ _ _ _ _ _ _ [.int z11.1, .ref (a 1)] _
      refine Z.aload_n (n := 74) dX11_war_73 rfl rfl ?_
      refine Z.getf (n := 77) fX11_12 dX11_war_74 rfl W0 rfl ?_
      refine Z.getf (n := 80) fX11_65 dX11_war_77 rfl W1 rfl ?_
      refine Z.iload_n (n := 81) dX11_war_80 rfl rfl ?_
      obtain ⟨j12, ej12, hf⟩ := Option.bind_eq_some_iff.mp hf
      obtain ⟨hij12, hlj12⟩ := ck_spec ej12
      refine Z.iald (j := j12) (n := 82) dX11_war_81 rfl W3 hij12 hlj12 (by decide) ?_
      obtain ⟨z13, ez13, hf⟩ := Option.bind_eq_some_iff.mp hf
      refine Z.callV (n := 85) vX11_150 (ctX3_forcesAt ez13) hJ.rm (Nat.le_of_ble_eq_true rfl) rfl rfl (Nat.le_refl _) (Nat.le_refl _) rfl W1 rfl rfl (Nat.le_of_ble_eq_true rfl) rfl dX11_war_82 rfl (fun v w hw => ?_)
      obtain ⟨rfl, rfl⟩ := hw
      show Z _ _ _ _ _ _ _ [.int z13.1] _
      refine Z.istore (n := 87) dX11_war_85 rfl (by decide) rfl ?_
      refine Z.iload (n := 89) dX11_war_87 rfl rfl ?_
      by_cases c14 : l4 = 0
      · rw [if_pos c14] at hf
        refine Z.tswI (off := 27) (tgt := 116) dX11_war_89 c14 (by decide +kernel) (by decide +kernel) (by decide +kernel) rfl ?_
        refine Z.iload (n := 118) dX11_war_116 rfl rfl ?_
        refine Z.i2l (n := 119) dX11_war_118 rfl rfl ?_
        have hz := Option.some.inj hf
        subst hz
        exact Z.lret hJ dX11_war_119 rfl (Nat.le_refl _) (Nat.le_refl _) ⟨rfl, rfl⟩
      rw [if_neg c14] at hf
      by_cases c15 : l4 = 1
      · rw [if_pos c15] at hf
        refine Z.tswI (off := 31) (tgt := 120) dX11_war_89 c15 (by decide +kernel) (by decide +kernel) (by decide +kernel) rfl ?_
        refine Z.iload (n := 122) dX11_war_120 rfl rfl ?_
        refine Z.i2l (n := 123) dX11_war_122 rfl rfl ?_
        have hz := Option.some.inj hf
        subst hz
        exact Z.lret hJ dX11_war_123 rfl (Nat.le_refl _) (Nat.le_refl _) ⟨rfl, rfl⟩
      rw [if_neg c15] at hf
      by_cases c16 : l4 = 2
      · rw [if_pos c16] at hf
        refine Z.tswI (off := 35) (tgt := 124) dX11_war_89 c16 (by decide +kernel) (by decide +kernel) (by decide +kernel) rfl ?_
        refine Z.iload (n := 126) dX11_war_124 rfl rfl ?_
        refine Z.iload (n := 128) dX11_war_126 rfl rfl ?_
        refine Z.icmp_le (tgt := 145) (n := 131) dX11_war_128 rfl rfl (fun c17 => ?_) (fun c17 => ?_)
        · rw [if_pos c17] at hf
          refine Z.aload_n (n := 146) dX11_war_145 rfl rfl ?_
          refine Z.getf (n := 149) fX11_12 dX11_war_146 rfl W0 rfl ?_
          refine Z.getf (n := 152) fX11_74 dX11_war_149 rfl W1 rfl ?_
          refine Z.iload_n (n := 153) dX11_war_152 rfl rfl ?_
          obtain ⟨j18, ej18, hf⟩ := Option.bind_eq_some_iff.mp hf
          obtain ⟨hij18, hlj18⟩ := ck_spec ej18
          refine Z.aald (j := j18) (ty := 3) (n := 154) dX11_war_153 rfl W5 rfl rfl hij18 hlj18 (by decide) ?_
          rw [if_pos hlj18]
          show Z _ _ _ _ _ _ _ (.ref (a (6 + j18)) :: _) _
          refine Z.iload_n (n := 155) dX11_war_154 rfl rfl ?_
          obtain ⟨j19, ej19, hf⟩ := Option.bind_eq_some_iff.mp hf
          obtain ⟨hij19, hlj19⟩ := ck_spec ej19
          refine Z.iald (j := j19) (n := 156) dX11_war_155 rfl (Wwo (r := j18) hlj18) hij19 hlj19 (by decide) ?_
          refine Z.ineg (n := 157) dX11_war_156 rfl ?_
          refine Z.fg [1, 4, 5, 6, 7, 8] ?_
          exact zX11_war_157 hJ hPo _ _ _ _ hf
        · rw [if_neg c17] at hf
          refine Z.aload_n (n := 132) dX11_war_131 rfl rfl ?_
          refine Z.getf (n := 135) fX11_12 dX11_war_132 rfl W0 rfl ?_
          refine Z.getf (n := 138) fX11_74 dX11_war_135 rfl W1 rfl ?_
          refine Z.iload_n (n := 139) dX11_war_138 rfl rfl ?_
          obtain ⟨j21, ej21, hf⟩ := Option.bind_eq_some_iff.mp hf
          obtain ⟨hij21, hlj21⟩ := ck_spec ej21
          refine Z.aald (j := j21) (ty := 3) (n := 140) dX11_war_139 rfl W5 rfl rfl hij21 hlj21 (by decide) ?_
          rw [if_pos hlj21]
          show Z _ _ _ _ _ _ _ (.ref (a (6 + j21)) :: _) _
          refine Z.iload_n (n := 141) dX11_war_140 rfl rfl ?_
          obtain ⟨j22, ej22, hf⟩ := Option.bind_eq_some_iff.mp hf
          obtain ⟨hij22, hlj22⟩ := ck_spec ej22
          refine Z.iald (j := j22) (n := 142) dX11_war_141 rfl (Wwo (r := j21) hlj21) hij22 hlj22 (by decide) ?_
          refine Z.goto (tgt := 157) dX11_war_142 rfl ?_
          refine Z.fg [1, 4, 5, 6, 7, 8] ?_
          exact zX11_war_157 hJ hPo _ _ _ _ hf
      rw [if_neg c16] at hf
      have tc14 := lv_neT (k := 0) c14 (a := 0) (by decide +kernel)
      have tc15 := lv_neT (k := 1) c15 (a := 1) (by decide +kernel)
      have tc16 := lv_neT (k := 2) c16 (a := 2) (by decide +kernel)
      refine Z.tswO (tgt := 176) dX11_war_89 (by omega) rfl ?_
      refine Z.ldc2 (n := 179) (v := (-9223372036854775808)) dX11_war_176 rfl wX11_148 ?_
      have hz := Option.some.inj hf
      subst hz
      exact Z.lret hJ dX11_war_179 rfl (Nat.le_refl _) (Nat.le_refl _) ⟨rfl, rfl⟩
    · rw [if_neg c6] at hf
      refine Z.fg [0, 1, 2, 3, 4, 5] ?_
      exact zX11_war_24 hJ hPo _ hf
