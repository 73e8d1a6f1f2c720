/-! walks, by program: 16.c8.lean.txt -/
def fX11_married_239 (r : SR) (s0 : Int32) (h : HT) : Option (Int32 × HT) :=
  some (s0, h)
set_option maxHeartbeats 4000000 in
theorem zX11_married_239 {g : GP} {a : Nat → Nat} {P : PT} {J : JT} {z : Int32 × HT} {r : SR} (hJ : JX g 6 0 0 (PoI g a P z) J) (k : Nat) (he : At g a P k r) (hc : SCX5 r.1) (s0 : Int32) (h : HT) (hf : fX11_married_239 r s0 h = some z) : Z g mX11_married J 0 0 239 [none, none, none, none, none, none, none, none, none, none, none] [.int s0] (WD g a h P) := by
  unfold fX11_married_239 at hf
  have hz := Option.some.inj hf
  subst hz
  exact Z.iret hJ dX11_married_239 rfl (Nat.le_refl _) (Nat.le_refl _) ⟨rfl, rfl⟩
def fX11_married_184 (r : SR) (k116_ : Int32 → Int32 → Int32 → Int32 → Int32 → Int32 → Int32 → Int32 → HT → Option (Int32 × HT)) (l2 : Int32) (l3 : Int32) (l4 : Int32) (l5 : Int32) (l6 : Int32) (l7 : Int32) (l8 : Int32) (l9 : Int32) (h : HT) : Option (Int32 × HT) :=
  k116_ l2 l3 l4 l5 l6 l7 l8 (l9 + 1) h
set_option maxHeartbeats 4000000 in
theorem zX11_married_184 {g : GP} {a : Nat → Nat} {P : PT} {J : JT} {z : Int32 × HT} {r : SR} {k116_ : Int32 → Int32 → Int32 → Int32 → Int32 → Int32 → Int32 → Int32 → HT → Option (Int32 × HT)} (hJ : JX g 6 0 0 (PoI g a P z) J) (k : Nat) (he : At g a P k r) (hc : SCX5 r.1) (hk116 : ∀ (l2 : Int32) (l3 : Int32) (l4 : Int32) (l5 : Int32) (l6 : Int32) (l7 : Int32) (l8 : Int32) (l9 : Int32) (h : HT), k116_ l2 l3 l4 l5 l6 l7 l8 l9 h = some z → Z g mX11_married J 0 0 116 [some (.ref (a 0)), some (.ref (a k)), some (.int l2), some (.int l3), some (.int l4), some (.int l5), some (.int l6), some (.int l7), some (.int l8), some (.int l9), none] [] (WD g a h P)) (l2 : Int32) (l3 : Int32) (l4 : Int32) (l5 : Int32) (l6 : Int32) (l7 : Int32) (l8 : Int32) (l9 : Int32) (h : HT) (hf : fX11_married_184 r k116_ l2 l3 l4 l5 l6 l7 l8 l9 h = some z) : Z g mX11_married J 0 0 184 [some (.ref (a 0)), some (.ref (a k)), some (.int l2), some (.int l3), some (.int l4), some (.int l5), some (.int l6), some (.int l7), some (.int l8), some (.int l9), none] [] (WD g a h P) := by
  unfold fX11_married_184 at hf
  refine Z.iinc (n := 187) (v := l9 + 1) dX11_married_184 rfl rfl rfl (by decide) rfl ?_
  refine Z.goto (tgt := 116) dX11_married_187 rfl ?_
  exact hk116 _ _ _ _ _ _ _ _ _ hf
def fX11_married_116 (r : SR) : Nat → Int32 → Int32 → Int32 → Int32 → Int32 → Int32 → Int32 → Int32 → HT → Option (Int32 × HT)
  | 0, _, _, _, _, _, _, _, _, _ => none
  | n + 1, l2, l3, l4, l5, l6, l7, l8, l9, h =>
  if (h 1 0) ≤ l9 then (Option.bind (ck 7 l3) fun j7 =>
  Option.bind (ck 7 l2) fun j8 =>
  if l4 = 0 then (fX11_married_239 r l8 (hu (hu (hu h 1 1 ((h 1 1) ^^^ ((1 : Int32) <<< (l3 &&& 31)))) 2 j7 l6) 2 j8 l5))
  else (fX11_married_239 r l7 (hu (hu (hu h 1 1 ((h 1 1) ^^^ ((1 : Int32) <<< (l3 &&& 31)))) 2 j7 l6) 2 j8 l5)))
  else (Option.bind (fX5_hunters r l9 h) fun z10 =>
  Option.bind (fJ6_bitCount_0f7a4 z10.1 z10.2) fun z11 =>
  Option.bind (ck 7 l9) fun j12 =>
  if (z11.1 - (z11.2 92 j12)) ≤ 0 then (fX11_married_184 r (fX11_married_116 r  n) l2 l3 l4 l5 l6 (l7 + (z11.1 - (z11.2 92 j12))) l8 l9 z11.2)
  else (if l9 = l2 then (fX11_married_184 r (fX11_married_116 r  n) l2 l3 l4 l5 l6 (l7 + (z11.1 - (z11.2 92 j12))) l8 l9 z11.2)
  else (if l9 = l3 then (fX11_married_184 r (fX11_married_116 r  n) l2 l3 l4 l5 l6 (l7 + (z11.1 - (z11.2 92 j12))) l8 l9 z11.2)
  else (fX11_married_184 r (fX11_married_116 r  n) l2 l3 l4 l5 l6 (l7 + (z11.1 - (z11.2 92 j12))) (l8 ||| ((1 : Int32) <<< (l9 &&& 31))) l9 z11.2))))
set_option maxHeartbeats 4000000 in
theorem zX11_married_116 {g : GP} {a : Nat → Nat} {P : PT} {J : JT} {z : Int32 × HT} {r : SR} (hJ : JX g 6 0 0 (PoI g a P z) J) (k : Nat) (he : At g a P k r) (hc : SCX5 r.1) : ∀ (n : Nat) (l2 : Int32) (l3 : Int32) (l4 : Int32) (l5 : Int32) (l6 : Int32) (l7 : Int32) (l8 : Int32) (l9 : Int32) (h : HT), fX11_married_116 r n l2 l3 l4 l5 l6 l7 l8 l9 h = some z → Z g mX11_married J 0 0 116 [some (.ref (a 0)), some (.ref (a k)), some (.int l2), some (.int l3), some (.int l4), some (.int l5), some (.int l6), some (.int l7), some (.int l8), some (.int l9), none] [] (WD g a h P) := by
  intro n
  induction n with
  | zero =>
    intro _ _ _ _ _ _ _ _ _ hf
    cases hf
  | succ n ih =>
    intro l2 l3 l4 l5 l6 l7 l8 l9 h hf
    unfold fX11_married_116 at hf
    refine Z.iload (n := 118) dX11_married_116 rfl rfl ?_
    refine Z.aload_n (n := 119) dX11_married_118 rfl rfl ?_
    refine Z.getf (n := 122) fX11_12 dX11_married_119 rfl W0 rfl ?_
    refine Z.getf (n := 125) fX11_50 dX11_married_122 rfl W1 rfl ?_
    refine Z.icmp_ge (tgt := 190) (n := 128) dX11_married_125 rfl rfl (fun c6 => ?_) (fun c6 => ?_)
    · rw [if_pos c6] at hf
      refine Z.aload_n (n := 191) dX11_married_190 rfl rfl ?_
      refine Z.getf (n := 194) fX11_12 dX11_married_191 rfl W0 rfl ?_
      refine Z.dup (n := 195) dX11_married_194 rfl rfl ?_
      refine Z.getf (n := 198) fX11_227 dX11_married_195 rfl W1 rfl ?_
      refine Z.iconst (n := 199) (v := 1) dX11_married_198 rfl (by decide +kernel) ?_
      refine Z.iload_n (n := 200) dX11_married_199 rfl rfl ?_
      refine Z.ishl (n := 201) dX11_married_200 rfl ?_
      refine Z.ixor (n := 202) dX11_married_201 rfl ?_
      refine Z.putf (n := 205) pX11_227 dX11_married_202 rfl W1 (Nat.le_of_ble_eq_true rfl) rfl rfl W1s_1 ?_
      refine Z.aload_n (n := 206) dX11_married_205 rfl rfl ?_
      refine Z.getf (n := 209) fX11_12 dX11_married_206 rfl W0 rfl ?_
      refine Z.getf (n := 212) fX11_62 dX11_married_209 rfl W1 rfl ?_
      refine Z.iload_n (n := 213) dX11_married_212 rfl rfl ?_
      refine Z.iload (n := 215) dX11_married_213 rfl rfl ?_
      obtain ⟨j7, ej7, hf⟩ := Option.bind_eq_some_iff.mp hf
      obtain ⟨hij7, hlj7⟩ := ck_spec ej7
      refine Z.iast (j := j7) (n := 216) dX11_married_215 rfl W2 hij7 hlj7 (by decide) W2s ?_
      refine Z.aload_n (n := 217) dX11_married_216 rfl rfl ?_
      refine Z.getf (n := 220) fX11_12 dX11_married_217 rfl W0 rfl ?_
      refine Z.getf (n := 223) fX11_62 dX11_married_220 rfl W1 rfl ?_
      refine Z.iload_n (n := 224) dX11_married_223 rfl rfl ?_
      refine Z.iload (n := 226) dX11_married_224 rfl rfl ?_
      obtain ⟨j8, ej8, hf⟩ := Option.bind_eq_some_iff.mp hf
      obtain ⟨hij8, hlj8⟩ := ck_spec ej8
      refine Z.iast (j := j8) (n := 227) dX11_married_226 rfl W2 hij8 hlj8 (by decide) W2s ?_
      refine Z.iload (n := 229) dX11_married_227 rfl rfl ?_
      refine Z.if_eq (tgt := 237) (n := 232) dX11_married_229 rfl rfl (fun c9 => ?_) (fun c9 => ?_)
      · rw [if_pos c9] at hf
        refine Z.iload (n := 239) dX11_married_237 rfl rfl ?_
        refine Z.fg [0, 1, 2, 3, 4, 5, 6, 7, 8, 9] ?_
        exact zX11_married_239 hJ k he hc _ _ hf
      · rw [if_neg c9] at hf
        refine Z.iload (n := 234) dX11_married_232 rfl rfl ?_
        refine Z.goto (tgt := 239) dX11_married_234 rfl ?_
        refine Z.fg [0, 1, 2, 3, 4, 5, 6, 7, 8, 9] ?_
        exact zX11_married_239 hJ k he hc _ _ hf
    · rw [if_neg c6] at hf
      refine Z.aload_n (n := 129) dX11_married_128 rfl rfl ?_
      refine Z.aload_n (n := 130) dX11_married_129 rfl rfl ?_
      refine Z.getf (n := 133) fX11_12 dX11_married_130 rfl W0 rfl ?_
      refine Z.iload (n := 135) dX11_married_133 rfl rfl ?_
      obtain ⟨z10, ez10, hf⟩ := Option.bind_eq_some_iff.mp hf
      obtain ⟨q9, hq9, hu9⟩ := uS_X11_157_X5 hc
      refine Z.callU (n := 138) hu9 (ctX5_hunters k he hc ez10) hJ.rm (Nat.le_of_ble_eq_true rfl) rfl rfl (Nat.le_refl _) (Nat.le_refl _) rfl (he _) hq9 (Nat.le_of_ble_eq_true rfl) rfl dX11_married_135 rfl (fun v w hw => ?_)
      obtain ⟨rfl, rfl⟩ := hw
      show Z _ _ _ _ _ _ _ [.int z10.1] _
      obtain ⟨z11, ez11, hf⟩ := Option.bind_eq_some_iff.mp hf
      refine Z.callS (n := 141) vX11_230 (ctJ6_bitCount_0f7a4 ez11) hJ.rm (Nat.le_of_ble_eq_true rfl) rfl rfl (Nat.le_refl _) (Nat.le_refl _) rfl (Nat.le_of_ble_eq_true rfl) rfl dX11_married_138 rfl (fun v w hw => ?_)
      obtain ⟨rfl, rfl⟩ := hw
      show Z _ _ _ _ _ _ _ [.int z11.1] _
      refine Z.aload_n (n := 142) dX11_married_141 rfl rfl ?_
      refine Z.getf (n := 145) fX11_43 dX11_married_142 rfl W0 rfl ?_
      refine Z.iload (n := 147) dX11_married_145 rfl rfl ?_
      obtain ⟨j12, ej12, hf⟩ := Option.bind_eq_some_iff.mp hf
      obtain ⟨hij12, hlj12⟩ := ck_spec ej12
      refine Z.iald (j := j12) (n := 148) dX11_married_147 rfl W92 hij12 hlj12 (by decide) ?_
      refine Z.isub (n := 149) dX11_married_148 rfl ?_
      refine Z.istore (n := 151) dX11_married_149 rfl (by decide) rfl ?_
      refine Z.iload (n := 153) dX11_married_151 rfl rfl ?_
      refine Z.iload (n := 155) dX11_married_153 rfl rfl ?_
      refine Z.iadd (n := 156) dX11_married_155 rfl ?_
      refine Z.istore (n := 158) dX11_married_156 rfl (by decide) rfl ?_
      refine Z.iload (n := 160) dX11_married_158 rfl rfl ?_
      refine Z.if_le (tgt := 184) (n := 163) dX11_married_160 rfl rfl (fun c13 => ?_) (fun c13 => ?_)
      · rw [if_pos c13] at hf
        refine Z.fg [10] ?_
        exact zX11_married_184 hJ k he hc ih _ _ _ _ _ _ _ _ _ hf
      · rw [if_neg c13] at hf
        refine Z.iload (n := 165) dX11_married_163 rfl rfl ?_
        refine Z.iload_n (n := 166) dX11_married_165 rfl rfl ?_
        refine Z.icmp_eq (tgt := 184) (n := 169) dX11_married_166 rfl rfl (fun c14 => ?_) (fun c14 => ?_)
        · rw [if_pos c14] at hf
          refine Z.fg [10] ?_
          exact zX11_married_184 hJ k he hc ih _ _ _ _ _ _ _ _ _ hf
        · rw [if_neg c14] at hf
          refine Z.iload (n := 171) dX11_married_169 rfl rfl ?_
          refine Z.iload_n (n := 172) dX11_married_171 rfl rfl ?_
          refine Z.icmp_eq (tgt := 184) (n := 175) dX11_married_172 rfl rfl (fun c15 => ?_) (fun c15 => ?_)
          · rw [if_pos c15] at hf
            refine Z.fg [10] ?_
            exact zX11_married_184 hJ k he hc ih _ _ _ _ _ _ _ _ _ hf
          · rw [if_neg c15] at hf
            refine Z.iload (n := 177) dX11_married_175 rfl rfl ?_
            refine Z.iconst (n := 178) (v := 1) dX11_married_177 rfl (by decide +kernel) ?_
            refine Z.iload (n := 180) dX11_married_178 rfl rfl ?_
            refine Z.ishl (n := 181) dX11_married_180 rfl ?_
            refine Z.ior (n := 182) dX11_married_181 rfl ?_
            refine Z.istore (n := 184) dX11_married_182 rfl (by decide) rfl ?_
            refine Z.fg [10] ?_
            exact zX11_married_184 hJ k he hc ih _ _ _ _ _ _ _ _ _ hf
def fX11_married_31 (r : SR) : Nat → Int32 → Int32 → Int32 → Int32 → Int32 → Int32 → Int32 → Int32 → HT → Option (Int32 × HT)
  | 0, _, _, _, _, _, _, _, _, _ => none
  | n + 1, l2, l3, l4, l5, l6, l7, l8, l9, h =>
  if (h 1 0) ≤ l9 then (Option.bind (ck 7 l2) fun j4 =>
  Option.bind (ck 7 l3) fun j5 =>
  fX11_married_116 r 1000 l2 l3 l4 l5 l6 l7 l8 0 (hu (hu (hu h 2 j4 (if (l5 + l6) < (99 : Int32) then (l5 + l6) else (99 : Int32))) 2 j5 0) 1 1 (((hu (hu h 2 j4 (if (l5 + l6) < (99 : Int32) then (l5 + l6) else (99 : Int32))) 2 j5 0) 1 1) ^^^ ((1 : Int32) <<< (l3 &&& 31)))))
  else (Option.bind (fX5_hunters r l9 h) fun z16 =>
  Option.bind (fJ6_bitCount_0f7a4 z16.1 z16.2) fun z17 =>
  Option.bind (ck 7 l9) fun j18 =>
  fX11_married_31 r  n l2 l3 l4 l5 l6 l7 l8 (l9 + 1) (hu z17.2 92 j18 z17.1))
set_option maxHeartbeats 4000000 in
theorem zX11_married_31 {g : GP} {a : Nat → Nat} {P : PT} {J : JT} {z : Int32 × HT} {r : SR} (hJ : JX g 6 0 0 (PoI g a P z) J) (k : Nat) (he : At g a P k r) (hc : SCX5 r.1) : ∀ (n : Nat) (l2 : Int32) (l3 : Int32) (l4 : Int32) (l5 : Int32) (l6 : Int32) (l7 : Int32) (l8 : Int32) (l9 : Int32) (h : HT), fX11_married_31 r n l2 l3 l4 l5 l6 l7 l8 l9 h = some z → Z g mX11_married J 0 0 31 [some (.ref (a 0)), some (.ref (a k)), some (.int l2), some (.int l3), some (.int l4), some (.int l5), some (.int l6), some (.int l7), some (.int l8), some (.int l9), none] [] (WD g a h P) := by
  intro n
  induction n with
  | zero =>
    intro _ _ _ _ _ _ _ _ _ hf
    cases hf
  | succ n ih =>
    intro l2 l3 l4 l5 l6 l7 l8 l9 h hf
    unfold fX11_married_31 at hf
    refine Z.iload (n := 33) dX11_married_31 rfl rfl ?_
    refine Z.aload_n (n := 34) dX11_married_33 rfl rfl ?_
    refine Z.getf (n := 37) fX11_12 dX11_married_34 rfl W0 rfl ?_
    refine Z.getf (n := 40) fX11_50 dX11_married_37 rfl W1 rfl ?_
    refine Z.icmp_ge (tgt := 69) (n := 43) dX11_married_40 rfl rfl (fun c3 => ?_) (fun c3 => ?_)
    · rw [if_pos c3] at hf
      refine Z.aload_n (n := 70) dX11_married_69 rfl rfl ?_
      refine Z.getf (n := 73) fX11_12 dX11_married_70 rfl W0 rfl ?_
      refine Z.getf (n := 76) fX11_62 dX11_married_73 rfl W1 rfl ?_
      refine Z.iload_n (n := 77) dX11_married_76 rfl rfl ?_
      refine Z.bipush (n := 79) (v := 99) dX11_married_77 rfl (by decide +kernel) ?_
      refine Z.iload (n := 81) dX11_married_79 rfl rfl ?_
      refine Z.iload (n := 83) dX11_married_81 rfl rfl ?_
      refine Z.iadd (n := 84) dX11_married_83 rfl ?_
      refine Z.mmin (n := 87) wX11_259 w_min2 w_math3 w_min4 hJ.rm (Nat.le_of_ble_eq_true rfl) (Nat.le_refl _) (Nat.le_refl _) (Nat.le_of_ble_eq_true rfl) dX11_married_84 rfl rfl ?_
      obtain ⟨j4, ej4, hf⟩ := Option.bind_eq_some_iff.mp hf
      obtain ⟨hij4, hlj4⟩ := ck_spec ej4
      refine Z.iast (j := j4) (n := 88) dX11_married_87 rfl W2 hij4 hlj4 (by decide) W2s ?_
      refine Z.aload_n (n := 89) dX11_married_88 rfl rfl ?_
      refine Z.getf (n := 92) fX11_12 dX11_married_89 rfl W0 rfl ?_
      refine Z.getf (n := 95) fX11_62 dX11_married_92 rfl W1 rfl ?_
      refine Z.iload_n (n := 96) dX11_married_95 rfl rfl ?_
      refine Z.iconst (n := 97) (v := 0) dX11_married_96 rfl (by decide +kernel) ?_
      obtain ⟨j5, ej5, hf⟩ := Option.bind_eq_some_iff.mp hf
      obtain ⟨hij5, hlj5⟩ := ck_spec ej5
      refine Z.iast (j := j5) (n := 98) dX11_married_97 rfl W2 hij5 hlj5 (by decide) W2s ?_
      refine Z.aload_n (n := 99) dX11_married_98 rfl rfl ?_
      refine Z.getf (n := 102) fX11_12 dX11_married_99 rfl W0 rfl ?_
      refine Z.dup (n := 103) dX11_married_102 rfl rfl ?_
      refine Z.getf (n := 106) fX11_227 dX11_married_103 rfl W1 rfl ?_
      refine Z.iconst (n := 107) (v := 1) dX11_married_106 rfl (by decide +kernel) ?_
      refine Z.iload_n (n := 108) dX11_married_107 rfl rfl ?_
      refine Z.ishl (n := 109) dX11_married_108 rfl ?_
      refine Z.ixor (n := 110) dX11_married_109 rfl ?_
      refine Z.putf (n := 113) pX11_227 dX11_married_110 rfl W1 (Nat.le_of_ble_eq_true rfl) rfl rfl W1s_1 ?_
      refine Z.iconst (n := 114) (v := 0) dX11_married_113 rfl (by decide +kernel) ?_
      refine Z.istore (n := 116) dX11_married_114 rfl (by decide) rfl ?_
      exact zX11_married_116 hJ k he hc _ _ _ _ _ _ _ _ _ _ hf
    · rw [if_neg c3] at hf
      refine Z.aload_n (n := 44) dX11_married_43 rfl rfl ?_
      refine Z.getf (n := 47) fX11_43 dX11_married_44 rfl W0 rfl ?_
      refine Z.iload (n := 49) dX11_married_47 rfl rfl ?_
      refine Z.aload_n (n := 50) dX11_married_49 rfl rfl ?_
      refine Z.aload_n (n := 51) dX11_married_50 rfl rfl ?_
      refine Z.getf (n := 54) fX11_12 dX11_married_51 rfl W0 rfl ?_
      refine Z.iload (n := 56) dX11_married_54 rfl rfl ?_
      obtain ⟨z16, ez16, hf⟩ := Option.bind_eq_some_iff.mp hf
      obtain ⟨q9, hq9, hu9⟩ := uS_X11_157_X5 hc
      refine Z.callU (n := 59) hu9 (ctX5_hunters k he hc ez16) hJ.rm (Nat.le_of_ble_eq_true rfl) rfl rfl (Nat.le_refl _) (Nat.le_refl _) rfl (he _) hq9 (Nat.le_of_ble_eq_true rfl) rfl dX11_married_56 rfl (fun v w hw => ?_)
      obtain ⟨rfl, rfl⟩ := hw
      show Z _ _ _ _ _ _ _ [.int z16.1, .int l9, .ref (a 92)] _
      obtain ⟨z17, ez17, hf⟩ := Option.bind_eq_some_iff.mp hf
      refine Z.callS (n := 62) vX11_230 (ctJ6_bitCount_0f7a4 ez17) hJ.rm (Nat.le_of_ble_eq_true rfl) rfl rfl (Nat.le_refl _) (Nat.le_refl _) rfl (Nat.le_of_ble_eq_true rfl) rfl dX11_married_59 rfl (fun v w hw => ?_)
      obtain ⟨rfl, rfl⟩ := hw
      show Z _ _ _ _ _ _ _ [.int z17.1, .int l9, .ref (a 92)] _
      obtain ⟨j18, ej18, hf⟩ := Option.bind_eq_some_iff.mp hf
      obtain ⟨hij18, hlj18⟩ := ck_spec ej18
      refine Z.iast (j := j18) (n := 63) dX11_married_62 rfl W92 hij18 hlj18 (by decide) W92s ?_
      refine Z.iinc (n := 66) (v := l9 + 1) dX11_married_63 rfl rfl rfl (by decide) rfl ?_
      refine Z.goto (tgt := 31) dX11_married_66 rfl ?_
      exact ih _ _ _ _ _ _ _ _ _ hf
def fX11_married (r : SR) (l2 : Int32) (l3 : Int32) (l4 : Int32) (h : HT) : Option (Int32 × HT) :=
  Option.bind (ck 7 l2) fun j1 =>
  Option.bind (ck 7 l3) fun j2 =>
  fX11_married_31 r 1000 l2 l3 l4 (h 2 j1) (h 2 j2) 0 0 0 h
set_option maxHeartbeats 4000000 in
theorem ctX11_married {g : GP} {a : Nat → Nat} {P : PT} {h : HT} {z : Int32 × HT} {r : SR} {l2 : Int32} {l3 : Int32} {l4 : Int32} (k : Nat) (he : At g a P k r) (hc : SCX5 r.1) (hf : fX11_married r l2 l3 l4 h = some z) : Ct g 6 0 0 mX11_married [.ref (a 0), .ref (a k), .int l2, .int l3, .int l4] (WD g a h P) (PoI g a P z) := by
  refine Ct.of (by decide +kernel) (Nat.le_of_ble_eq_true rfl) fun J hJ => ?_
  show Z g mX11_married J 0 0 0 [some (.ref (a 0)), some (.ref (a k)), some (.int l2), some (.int l3), some (.int l4), none, none, none, none, none, none] [] (WD g a h P)
  unfold fX11_married at hf
  refine Z.aload_n (n := 1) dX11_married_0 rfl rfl ?_
  refine Z.getf (n := 4) fX11_12 dX11_married_1 rfl W0 rfl ?_
  refine Z.getf (n := 7) fX11_62 dX11_married_4 rfl W1 rfl ?_
  refine Z.iload_n (n := 8) dX11_married_7 rfl rfl ?_
  obtain ⟨j1, ej1, hf⟩ := Option.bind_eq_some_iff.mp hf
  obtain ⟨hij1, hlj1⟩ := ck_spec ej1
  refine Z.iald (j := j1) (n := 9) dX11_married_8 rfl W2 hij1 hlj1 (by decide) ?_
  refine Z.istore (n := 11) dX11_married_9 rfl (by decide) rfl ?_
  refine Z.aload_n (n := 12) dX11_married_11 rfl rfl ?_
  refine Z.getf (n := 15) fX11_12 dX11_married_12 rfl W0 rfl ?_
  refine Z.getf (n := 18) fX11_62 dX11_married_15 rfl W1 rfl ?_
  refine Z.iload_n (n := 19) dX11_married_18 rfl rfl ?_
  obtain ⟨j2, ej2, hf⟩ := Option.bind_eq_some_iff.mp hf
  obtain ⟨hij2, hlj2⟩ := ck_spec ej2
  refine Z.iald (j := j2) (n := 20) dX11_married_19 rfl W2 hij2 hlj2 (by decide) ?_
  refine Z.istore (n := 22) dX11_married_20 rfl (by decide) rfl ?_
  refine Z.iconst (n := 23) (v := 0) dX11_married_22 rfl (by decide +kernel) ?_
  refine Z.istore (n := 25) dX11_married_23 rfl (by decide) rfl ?_
  refine Z.iconst (n := 26) (v := 0) dX11_married_25 rfl (by decide +kernel) ?_
  refine Z.istore (n := 28) dX11_married_26 rfl (by decide) rfl ?_
  refine Z.iconst (n := 29) (v := 0) dX11_married_28 rfl (by decide +kernel) ?_
  refine Z.istore (n := 31) dX11_married_29 rfl (by decide) rfl ?_
  exact zX11_married_31 hJ k he hc _ _ _ _ _ _ _ _ _ _ hf
def fX11_marry_24 (P : PT) (h : HT) : Option (Int32 × HT) :=
  some ((-1000), h)
set_option maxHeartbeats 4000000 in
theorem zX11_marry_24 {g : GP} {a : Nat → Nat} {P : PT} {J : JT} {z : Int32 × HT} (hJ : JX g 7 0 0 (PoI g a P z) J) (hPo : PoolOK P) (h : HT) (hf : fX11_marry_24 P h = some z) : Z g mX11_marry J 0 0 24 [none, none, none, none, none, none] [] (WD g a h P) := by
  unfold fX11_marry_24 at hf
  refine Z.sipush (n := 27) (v := -1000) dX11_marry_24 rfl (by decide +kernel) ?_
  have hz := Option.some.inj hf
  subst hz
  exact Z.iret hJ dX11_marry_27 rfl (Nat.le_refl _) (Nat.le_refl _) ⟨rfl, rfl⟩
def fX11_marry_87 (P : PT) (s0 : Int32) (s1 : Int32) (s2 : Int32) (rs3 : SR) (h : HT) : Option (Int32 × HT) :=
  Option.bind (fX11_married rs3 s2 s1 s0 h) fun z12 =>
  some (z12.1, z12.2)
set_option maxHeartbeats 4000000 in
theorem zX11_marry_87 {g : GP} {a : Nat → Nat} {P : PT} {J : JT} {z : Int32 × HT} (hJ : JX g 7 0 0 (PoI g a P z) J) (hPo : PoolOK P) (s0 : Int32) (s1 : Int32) (s2 : Int32) (rs3 : SR) (h : HT) (ks3 : Nat) (hes3 : At g a P ks3 rs3) (hcs3 : SCX5 rs3.1) (hf : fX11_marry_87 P s0 s1 s2 rs3 h = some z) : Z g mX11_marry J 0 0 87 [none, none, none, none, none, none] [.int s0, .int s1, .int s2, .ref (a ks3), .ref (a 0)] (WD g a h P) := by
  unfold fX11_marry_87 at hf
  obtain ⟨z12, ez12, hf⟩ := Option.bind_eq_some_iff.mp hf
  refine Z.callV (n := 90) vX11_203 (ctX11_married ks3 hes3 hcs3 ez12) hJ.rm (Nat.le_of_ble_eq_true rfl) rfl rfl (Nat.le_refl _) (Nat.le_refl _) rfl W0 rfl rfl (Nat.le_of_ble_eq_true rfl) rfl dX11_marry_87 rfl (fun v w hw => ?_)
  obtain ⟨rfl, rfl⟩ := hw
  show Z _ _ _ _ _ _ _ [.int z12.1] _
  have hz := Option.some.inj hf
  subst hz
  exact Z.iret hJ dX11_marry_90 rfl (Nat.le_refl _) (Nat.le_refl _) ⟨rfl, rfl⟩
def fX11_marry (P : PT) (l1 : Int32) (l2 : Int32) (l3 : Int32) (l4 : Int32) (h : HT) : Option (Int32 × HT) :=
  Option.bind (fX3_standingAt l1 h) fun z1 =>
  onq (dq z1.1) (fX11_marry_24 P z1.2) (fun t3 => Option.bind (P[t3]?) fun r4 => (Option.bind (fX11_outside l4 1 z1.2) fun z5 =>
  if z5.1 = 0 then (Option.bind (fX11_pairRefusal l2 l3 z5.2) fun z7 =>
  if z7.1 = (-3) then (some ((-1002), z7.2))
  else if z7.1 = (-2) then (some ((-1001), z7.2))
  else if z7.1 = (-1) then (some ((-1000), z7.2))
  else (if l4 = 0 then (fX11_marry_87 P 1 l3 l2 r4 z7.2)
  else (fX11_marry_87 P 0 l3 l2 r4 z7.2)))
  else (fX11_marry_24 P z5.2)))
set_option maxHeartbeats 4000000 in
theorem ctX11_marry {g : GP} {a : Nat → Nat} {P : PT} {h : HT} {z : Int32 × HT} {l1 : Int32} {l2 : Int32} {l3 : Int32} {l4 : Int32} (hPo : PoolOK P) (hf : fX11_marry P l1 l2 l3 l4 h = some z) : Ct g 7 0 0 mX11_marry [.ref (a 0), .int l1, .int l2, .int l3, .int l4] (WD g a h P) (PoI g a P z) := by
  refine Ct.of (by decide +kernel) (Nat.le_of_ble_eq_true rfl) fun J hJ => ?_
  show Z g mX11_marry J 0 0 0 [some (.ref (a 0)), some (.int l1), some (.int l2), some (.int l3), some (.int l4), none] [] (WD g a h P)
  unfold fX11_marry at hf
  refine Z.aload_n (n := 1) dX11_marry_0 rfl rfl ?_
  refine Z.getf (n := 4) fX11_12 dX11_marry_1 rfl W0 rfl ?_
  refine Z.iload_n (n := 5) dX11_marry_4 rfl rfl ?_
  obtain ⟨z1, ez1, hf⟩ := Option.bind_eq_some_iff.mp hf
  refine Z.callV (n := 8) vX11_126 (ctX3_standingAt ez1) hJ.rm (Nat.le_of_ble_eq_true rfl) rfl rfl (Nat.le_refl _) (Nat.le_refl _) rfl W1 rfl rfl (Nat.le_of_ble_eq_true rfl) rfl dX11_marry_5 rfl (fun v w hw => ?_)
  obtain ⟨rfl, rfl⟩ := hw
  generalize hdo2 : dq z1.1 = o2 at hf ⊢
  cases o2 with
  | none =>
    replace hf := onq_none hf
    show Z _ _ _ _ _ _ _ [.null] _
    refine Z.astoreN (n := 10) dX11_marry_8 rfl (by decide) rfl ?_
    refine Z.aloadN (n := 12) dX11_marry_10 rfl rfl ?_
    refine Z.ifnullN (tgt := 24) dX11_marry_12 rfl ?_
    refine Z.fg [0, 1, 2, 3, 4, 5] ?_
    exact zX11_marry_24 hJ hPo _ hf
  | some t3 =>
    replace hf := onq_some hf
    obtain ⟨r4, er4, hf⟩ := Option.bind_eq_some_iff.mp hf
    show Z _ _ _ _ _ _ _ [.ref (a (102 + t3))] _
    refine Z.astore (n := 10) dX11_marry_8 rfl (by decide) rfl ?_
    refine Z.aload (n := 12) dX11_marry_10 rfl rfl ?_
    refine Z.ifnull (n := 15) dX11_marry_12 rfl ?_
    refine Z.iload (n := 17) dX11_marry_15 rfl rfl ?_
    refine Z.iconst (n := 18) (v := 1) dX11_marry_17 rfl (by decide +kernel) ?_
    obtain ⟨z5, ez5, hf⟩ := Option.bind_eq_some_iff.mp hf
    refine Z.callS (n := 21) vX11_46 (ctX11_outside ez5) hJ.rm (Nat.le_of_ble_eq_true rfl) rfl rfl (Nat.le_refl _) (Nat.le_refl _) rfl (Nat.le_of_ble_eq_true rfl) rfl dX11_marry_18 rfl (fun v w hw => ?_)
    obtain ⟨rfl, rfl⟩ := hw
    show Z _ _ _ _ _ _ _ [.int z5.1] _
    refine Z.if_eq (tgt := 28) (n := 24) dX11_marry_21 rfl rfl (fun c6 => ?_) (fun c6 => ?_)
    · rw [if_pos c6] at hf
      refine Z.aload_n (n := 29) dX11_marry_28 rfl rfl ?_
      refine Z.iload_n (n := 30) dX11_marry_29 rfl rfl ?_
      refine Z.iload_n (n := 31) dX11_marry_30 rfl rfl ?_
      obtain ⟨z7, ez7, hf⟩ := Option.bind_eq_some_iff.mp hf
      refine Z.callV (n := 34) vX11_133 (ctX11_pairRefusal ez7) hJ.rm (Nat.le_of_ble_eq_true rfl) rfl rfl (Nat.le_refl _) (Nat.le_refl _) rfl W0 rfl rfl (Nat.le_of_ble_eq_true rfl) rfl dX11_marry_31 rfl (fun v w hw => ?_)
      obtain ⟨rfl, rfl⟩ := hw
      show Z _ _ _ _ _ _ _ [.int z7.1] _
      by_cases c8 : z7.1 = (-3)
      · rw [if_pos c8] at hf
        refine Z.tswI (off := 34) (tgt := 68) dX11_marry_34 c8 (by decide +kernel) (by decide +kernel) (by decide +kernel) rfl ?_
        refine Z.sipush (n := 71) (v := -1002) dX11_marry_68 rfl (by decide +kernel) ?_
        have hz := Option.some.inj hf
        subst hz
        exact Z.iret hJ dX11_marry_71 rfl (Nat.le_refl _) (Nat.le_refl _) ⟨rfl, rfl⟩
      rw [if_neg c8] at hf
      by_cases c9 : z7.1 = (-2)
      · rw [if_pos c9] at hf
        refine Z.tswI (off := 30) (tgt := 64) dX11_marry_34 c9 (by decide +kernel) (by decide +kernel) (by decide +kernel) rfl ?_
        refine Z.sipush (n := 67) (v := -1001) dX11_marry_64 rfl (by decide +kernel) ?_
        have hz := Option.some.inj hf
        subst hz
        exact Z.iret hJ dX11_marry_67 rfl (Nat.le_refl _) (Nat.le_refl _) ⟨rfl, rfl⟩
      rw [if_neg c9] at hf
      by_cases c10 : z7.1 = (-1)
      · rw [if_pos c10] at hf
        refine Z.tswI (off := 26) (tgt := 60) dX11_marry_34 c10 (by decide +kernel) (by decide +kernel) (by decide +kernel) rfl ?_
        refine Z.sipush (n := 63) (v := -1000) dX11_marry_60 rfl (by decide +kernel) ?_
        have hz := Option.some.inj hf
        subst hz
        exact Z.iret hJ dX11_marry_63 rfl (Nat.le_refl _) (Nat.le_refl _) ⟨rfl, rfl⟩
      rw [if_neg c10] at hf
      have tc8 := lv_neT (k := (-3)) c8 (a := (-3)) (by decide +kernel)
      have tc9 := lv_neT (k := (-2)) c9 (a := (-2)) (by decide +kernel)
      have tc10 := lv_neT (k := (-1)) c10 (a := (-1)) (by decide +kernel)
      refine Z.tswO (tgt := 72) dX11_marry_34 (by omega) rfl ?_
      refine Z.aload_n (n := 73) dX11_marry_72 rfl rfl ?_
      refine Z.aload (n := 75) dX11_marry_73 rfl rfl ?_
      refine Z.iload_n (n := 76) dX11_marry_75 rfl rfl ?_
      refine Z.iload_n (n := 77) dX11_marry_76 rfl rfl ?_
      refine Z.iload (n := 79) dX11_marry_77 rfl rfl ?_
      refine Z.if_ne (tgt := 86) (n := 82) dX11_marry_79 rfl rfl (fun c11 => ?_) (fun c11 => ?_)
      · rw [if_neg c11] at hf
        refine Z.iconst (n := 87) (v := 0) dX11_marry_86 rfl (by decide +kernel) ?_
        refine Z.fg [0, 1, 2, 3, 4, 5] ?_
        exact zX11_marry_87 hJ hPo _ _ _ _ _ (102 + t3) (At.pool er4) (hPo _ _ er4) hf
      · rw [if_pos c11] at hf
        refine Z.iconst (n := 83) (v := 1) dX11_marry_82 rfl (by decide +kernel) ?_
        refine Z.goto (tgt := 87) dX11_marry_83 rfl ?_
        refine Z.fg [0, 1, 2, 3, 4, 5] ?_
        exact zX11_marry_87 hJ hPo _ _ _ _ _ (102 + t3) (At.pool er4) (hPo _ _ er4) hf
    · rw [if_neg c6] at hf
      refine Z.fg [0, 1, 2, 3, 4, 5] ?_
      exact zX11_marry_24 hJ hPo _ hf
