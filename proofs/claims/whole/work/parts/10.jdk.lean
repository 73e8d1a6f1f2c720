/-! walks, by program: 10.jdk.lean.txt -/
def fJ6_bitCount_0f7a4 (l0 : Int32) (h : HT) : Option (Int32 × HT) :=
  some ((((((((l0 - (((l0.toUInt32 >>> ((1 : Int32).toUInt32 &&& Int32.toUInt32 31)).toInt32) &&& (1431655765 : Int32))) &&& (858993459 : Int32)) + ((((l0 - (((l0.toUInt32 >>> ((1 : Int32).toUInt32 &&& Int32.toUInt32 31)).toInt32) &&& (1431655765 : Int32))).toUInt32 >>> ((2 : Int32).toUInt32 &&& Int32.toUInt32 31)).toInt32) &&& (858993459 : Int32))) + (((((l0 - (((l0.toUInt32 >>> ((1 : Int32).toUInt32 &&& Int32.toUInt32 31)).toInt32) &&& (1431655765 : Int32))) &&& (858993459 : Int32)) + ((((l0 - (((l0.toUInt32 >>> ((1 : Int32).toUInt32 &&& Int32.toUInt32 31)).toInt32) &&& (1431655765 : Int32))).toUInt32 >>> ((2 : Int32).toUInt32 &&& Int32.toUInt32 31)).toInt32) &&& (858993459 : Int32))).toUInt32 >>> ((4 : Int32).toUInt32 &&& Int32.toUInt32 31)).toInt32)) &&& (252645135 : Int32)) + (((((((l0 - (((l0.toUInt32 >>> ((1 : Int32).toUInt32 &&& Int32.toUInt32 31)).toInt32) &&& (1431655765 : Int32))) &&& (858993459 : Int32)) + ((((l0 - (((l0.toUInt32 >>> ((1 : Int32).toUInt32 &&& Int32.toUInt32 31)).toInt32) &&& (1431655765 : Int32))).toUInt32 >>> ((2 : Int32).toUInt32 &&& Int32.toUInt32 31)).toInt32) &&& (858993459 : Int32))) + (((((l0 - (((l0.toUInt32 >>> ((1 : Int32).toUInt32 &&& Int32.toUInt32 31)).toInt32) &&& (1431655765 : Int32))) &&& (858993459 : Int32)) + ((((l0 - (((l0.toUInt32 >>> ((1 : Int32).toUInt32 &&& Int32.toUInt32 31)).toInt32) &&& (1431655765 : Int32))).toUInt32 >>> ((2 : Int32).toUInt32 &&& Int32.toUInt32 31)).toInt32) &&& (858993459 : Int32))).toUInt32 >>> ((4 : Int32).toUInt32 &&& Int32.toUInt32 31)).toInt32)) &&& (252645135 : Int32)).toUInt32 >>> ((8 : Int32).toUInt32 &&& Int32.toUInt32 31)).toInt32)) + ((((((((l0 - (((l0.toUInt32 >>> ((1 : Int32).toUInt32 &&& Int32.toUInt32 31)).toInt32) &&& (1431655765 : Int32))) &&& (858993459 : Int32)) + ((((l0 - (((l0.toUInt32 >>> ((1 : Int32).toUInt32 &&& Int32.toUInt32 31)).toInt32) &&& (1431655765 : Int32))).toUInt32 >>> ((2 : Int32).toUInt32 &&& Int32.toUInt32 31)).toInt32) &&& (858993459 : Int32))) + (((((l0 - (((l0.toUInt32 >>> ((1 : Int32).toUInt32 &&& Int32.toUInt32 31)).toInt32) &&& (1431655765 : Int32))) &&& (858993459 : Int32)) + ((((l0 - (((l0.toUInt32 >>> ((1 : Int32).toUInt32 &&& Int32.toUInt32 31)).toInt32) &&& (1431655765 : Int32))).toUInt32 >>> ((2 : Int32).toUInt32 &&& Int32.toUInt32 31)).toInt32) &&& (858993459 : Int32))).toUInt32 >>> ((4 : Int32).toUInt32 &&& Int32.toUInt32 31)).toInt32)) &&& (252645135 : Int32)) + (((((((l0 - (((l0.toUInt32 >>> ((1 : Int32).toUInt32 &&& Int32.toUInt32 31)).toInt32) &&& (1431655765 : Int32))) &&& (858993459 : Int32)) + ((((l0 - (((l0.toUInt32 >>> ((1 : Int32).toUInt32 &&& Int32.toUInt32 31)).toInt32) &&& (1431655765 : Int32))).toUInt32 >>> ((2 : Int32).toUInt32 &&& Int32.toUInt32 31)).toInt32) &&& (858993459 : Int32))) + (((((l0 - (((l0.toUInt32 >>> ((1 : Int32).toUInt32 &&& Int32.toUInt32 31)).toInt32) &&& (1431655765 : Int32))) &&& (858993459 : Int32)) + ((((l0 - (((l0.toUInt32 >>> ((1 : Int32).toUInt32 &&& Int32.toUInt32 31)).toInt32) &&& (1431655765 : Int32))).toUInt32 >>> ((2 : Int32).toUInt32 &&& Int32.toUInt32 31)).toInt32) &&& (858993459 : Int32))).toUInt32 >>> ((4 : Int32).toUInt32 &&& Int32.toUInt32 31)).toInt32)) &&& (252645135 : Int32)).toUInt32 >>> ((8 : Int32).toUInt32 &&& Int32.toUInt32 31)).toInt32)).toUInt32 >>> ((16 : Int32).toUInt32 &&& Int32.toUInt32 31)).toInt32)) &&& (63 : Int32), h)
set_option maxHeartbeats 4000000 in
theorem ctJ6_bitCount_0f7a4 {g : GP} {a : Nat → Nat} {P : PT} {h : HT} {z : Int32 × HT} {l0 : Int32} (hf : fJ6_bitCount_0f7a4 l0 h = some z) : Ct g 1 0 0 mJ6_bitCount_0f7a4 [.int l0] (WD g a h P) (PoI g a P z) := by
  refine Ct.of (by decide +kernel) (Nat.le_of_ble_eq_true rfl) fun J hJ => ?_
  show Z g mJ6_bitCount_0f7a4 J 0 0 0 [some (.int l0)] [] (WD g a h P)
  unfold fJ6_bitCount_0f7a4 at hf
  refine Z.iload_n (n := 1) dJ6_bitCount_0f7a4_0 rfl rfl ?_
  refine Z.iload_n (n := 2) dJ6_bitCount_0f7a4_1 rfl rfl ?_
  refine Z.iconst (n := 3) (v := 1) dJ6_bitCount_0f7a4_2 rfl (by decide +kernel) ?_
  refine Z.iushr (n := 4) dJ6_bitCount_0f7a4_3 rfl rfl ?_
  refine Z.ldcw (n := 7) (v := 1431655765) dJ6_bitCount_0f7a4_4 rfl wJ6_265 ?_
  refine Z.iand (n := 8) dJ6_bitCount_0f7a4_7 rfl ?_
  refine Z.isub (n := 9) dJ6_bitCount_0f7a4_8 rfl ?_
  refine Z.istore_n (n := 10) dJ6_bitCount_0f7a4_9 rfl (by decide) rfl ?_
  refine Z.iload_n (n := 11) dJ6_bitCount_0f7a4_10 rfl rfl ?_
  refine Z.ldcw (n := 14) (v := 858993459) dJ6_bitCount_0f7a4_11 rfl wJ6_266 ?_
  refine Z.iand (n := 15) dJ6_bitCount_0f7a4_14 rfl ?_
  refine Z.iload_n (n := 16) dJ6_bitCount_0f7a4_15 rfl rfl ?_
  refine Z.iconst (n := 17) (v := 2) dJ6_bitCount_0f7a4_16 rfl (by decide +kernel) ?_
  refine Z.iushr (n := 18) dJ6_bitCount_0f7a4_17 rfl rfl ?_
  refine Z.ldcw (n := 21) (v := 858993459) dJ6_bitCount_0f7a4_18 rfl wJ6_266 ?_
  refine Z.iand (n := 22) dJ6_bitCount_0f7a4_21 rfl ?_
  refine Z.iadd (n := 23) dJ6_bitCount_0f7a4_22 rfl ?_
  refine Z.istore_n (n := 24) dJ6_bitCount_0f7a4_23 rfl (by decide) rfl ?_
  refine Z.iload_n (n := 25) dJ6_bitCount_0f7a4_24 rfl rfl ?_
  refine Z.iload_n (n := 26) dJ6_bitCount_0f7a4_25 rfl rfl ?_
  refine Z.iconst (n := 27) (v := 4) dJ6_bitCount_0f7a4_26 rfl (by decide +kernel) ?_
  refine Z.iushr (n := 28) dJ6_bitCount_0f7a4_27 rfl rfl ?_
  refine Z.iadd (n := 29) dJ6_bitCount_0f7a4_28 rfl ?_
  refine Z.ldcw (n := 32) (v := 252645135) dJ6_bitCount_0f7a4_29 rfl wJ6_267 ?_
  refine Z.iand (n := 33) dJ6_bitCount_0f7a4_32 rfl ?_
  refine Z.istore_n (n := 34) dJ6_bitCount_0f7a4_33 rfl (by decide) rfl ?_
  refine Z.iload_n (n := 35) dJ6_bitCount_0f7a4_34 rfl rfl ?_
  refine Z.iload_n (n := 36) dJ6_bitCount_0f7a4_35 rfl rfl ?_
  refine Z.bipush (n := 38) (v := 8) dJ6_bitCount_0f7a4_36 rfl (by decide +kernel) ?_
  refine Z.iushr (n := 39) dJ6_bitCount_0f7a4_38 rfl rfl ?_
  refine Z.iadd (n := 40) dJ6_bitCount_0f7a4_39 rfl ?_
  refine Z.istore_n (n := 41) dJ6_bitCount_0f7a4_40 rfl (by decide) rfl ?_
  refine Z.iload_n (n := 42) dJ6_bitCount_0f7a4_41 rfl rfl ?_
  refine Z.iload_n (n := 43) dJ6_bitCount_0f7a4_42 rfl rfl ?_
  refine Z.bipush (n := 45) (v := 16) dJ6_bitCount_0f7a4_43 rfl (by decide +kernel) ?_
  refine Z.iushr (n := 46) dJ6_bitCount_0f7a4_45 rfl rfl ?_
  refine Z.iadd (n := 47) dJ6_bitCount_0f7a4_46 rfl ?_
  refine Z.istore_n (n := 48) dJ6_bitCount_0f7a4_47 rfl (by decide) rfl ?_
  refine Z.iload_n (n := 49) dJ6_bitCount_0f7a4_48 rfl rfl ?_
  refine Z.bipush (n := 51) (v := 63) dJ6_bitCount_0f7a4_49 rfl (by decide +kernel) ?_
  refine Z.iand (n := 52) dJ6_bitCount_0f7a4_51 rfl ?_
  have hz := Option.some.inj hf
  subst hz
  exact Z.iret hJ dJ6_bitCount_0f7a4_52 rfl (Nat.le_refl _) (Nat.le_refl _) ⟨rfl, rfl⟩
def fJ0_coder_7d493_14 (si : Nat) (s0 : Int32) (h : HT) : Option (Int32 × HT) :=
  Option.bind (cb s0) fun u1 =>
  some (s0, h)
set_option maxHeartbeats 4000000 in
theorem zJ0_coder_7d493_14 {g : GP} {a : Nat → Nat} {P : PT} {J : JT} {z : Int32 × HT} {si : Nat} (hJ : JX g 1 0 0 (PoI g a P z) J) (hsi : si < 18) (s0 : Int32) (h : HT) (hf : fJ0_coder_7d493_14 si s0 h = some z) : Z g mJ0_coder_7d493 J 0 0 14 [none] [.int s0] (WD g a h P) := by
  unfold fJ0_coder_7d493_14 at hf
  obtain ⟨u1, eu1, hf⟩ := Option.bind_eq_some_iff.mp hf
  have hz := Option.some.inj hf
  subst hz
  exact Z.zret hJ dJ0_coder_7d493_14 rfl (cb_narB eu1) (Nat.le_refl _) (Nat.le_refl _) ⟨rfl, rfl⟩
def fJ0_coder_7d493 (si : Nat) (h : HT) : Option (Int32 × HT) :=
  fJ0_coder_7d493_14 si 0 h
set_option maxHeartbeats 4000000 in
theorem ctJ0_coder_7d493 {g : GP} {a : Nat → Nat} {P : PT} {h : HT} {z : Int32 × HT} {si : Nat} (hsi : si < 18) (hf : fJ0_coder_7d493 si h = some z) : Ct g 1 0 0 mJ0_coder_7d493 [.ref (gK g si)] (WD g a h P) (PoI g a P z) := by
  refine Ct.of (by decide +kernel) (Nat.le_of_ble_eq_true rfl) fun J hJ => ?_
  show Z g mJ0_coder_7d493 J 0 0 0 [some (.ref (gK g si))] [] (WD g a h P)
  unfold fJ0_coder_7d493 at hf
  refine Z.strCS (n := 3) wJ0_38 dJ0_coder_7d493_0 rfl ?_
  refine Z.if_eq (tgt := 13) (n := 6) dJ0_coder_7d493_3 rfl rfl (fun c9 => ?_) (fun c9 => ?_)
  · exact absurd c9 (by decide +kernel)
  refine Z.aload_n (n := 7) dJ0_coder_7d493_6 rfl rfl ?_
  refine Z.strC (n := 10) wJ0_15 hsi dJ0_coder_7d493_7 rfl ?_
  refine Z.goto (tgt := 14) dJ0_coder_7d493_10 rfl ?_
  refine Z.fg [0] ?_
  exact zJ0_coder_7d493_14 hJ hsi _ _ hf
def fJ0_length_8abf5 (si : Nat) (h : HT) : Option (Int32 × HT) :=
  Option.bind (fJ0_coder_7d493 si h) fun z1 =>
  some ((nI (strLen.getD si 0)) >>> (z1.1 &&& 31), z1.2)
set_option maxHeartbeats 4000000 in
theorem ctJ0_length_8abf5 {g : GP} {a : Nat → Nat} {P : PT} {h : HT} {z : Int32 × HT} {si : Nat} (hsi : si < 18) (hf : fJ0_length_8abf5 si h = some z) : Ct g 2 0 0 mJ0_length_8abf5 [.ref (gK g si)] (WD g a h P) (PoI g a P z) := by
  refine Ct.of (by decide +kernel) (Nat.le_of_ble_eq_true rfl) fun J hJ => ?_
  show Z g mJ0_length_8abf5 J 0 0 0 [some (.ref (gK g si))] [] (WD g a h P)
  unfold fJ0_length_8abf5 at hf
  refine Z.aload_n (n := 1) dJ0_length_8abf5_0 rfl rfl ?_
  refine Z.strV (n := 4) wJ0_9 hsi dJ0_length_8abf5_1 rfl ?_
  refine Z.strL (n := 5) hsi rfl dJ0_length_8abf5_4 rfl ?_
  refine Z.aload_n (n := 6) dJ0_length_8abf5_5 rfl rfl ?_
  obtain ⟨z1, ez1, hf⟩ := Option.bind_eq_some_iff.mp hf
  refine Z.callK (n := 9) vJ0_335 (ctJ0_coder_7d493 hsi ez1) hJ.rm (Nat.le_of_ble_eq_true rfl) rfl rfl (Nat.le_refl _) (Nat.le_refl _) rfl hsi rfl rfl (Nat.le_of_ble_eq_true rfl) rfl dJ0_length_8abf5_6 rfl (fun v w hw => ?_)
  obtain ⟨rfl, rfl⟩ := hw
  show Z _ _ _ _ _ _ _ [.int z1.1, .int (nI (strLen.getD si 0))] _
  refine Z.ishr (n := 10) dJ0_length_8abf5_9 rfl ?_
  have hz := Option.some.inj hf
  subst hz
  exact Z.iret hJ dJ0_length_8abf5_10 rfl (Nat.le_refl _) (Nat.le_refl _) ⟨rfl, rfl⟩
def fJ0_isLatin1_aae02_18 (si : Nat) (s0 : Int32) (h : HT) : Option (Int32 × HT) :=
  Option.bind (cb s0) fun u1 =>
  some (s0, h)
set_option maxHeartbeats 4000000 in
theorem zJ0_isLatin1_aae02_18 {g : GP} {a : Nat → Nat} {P : PT} {J : JT} {z : Int32 × HT} {si : Nat} (hJ : JX g 1 0 0 (PoI g a P z) J) (hsi : si < 18) (s0 : Int32) (h : HT) (hf : fJ0_isLatin1_aae02_18 si s0 h = some z) : Z g mJ0_isLatin1_aae02 J 0 0 18 [none] [.int s0] (WD g a h P) := by
  unfold fJ0_isLatin1_aae02_18 at hf
  obtain ⟨u1, eu1, hf⟩ := Option.bind_eq_some_iff.mp hf
  have hz := Option.some.inj hf
  subst hz
  exact Z.zret hJ dJ0_isLatin1_aae02_18 rfl (cb_nar eu1) (Nat.le_refl _) (Nat.le_refl _) ⟨rfl, rfl⟩
def fJ0_isLatin1_aae02 (si : Nat) (h : HT) : Option (Int32 × HT) :=
  fJ0_isLatin1_aae02_18 si 1 h
set_option maxHeartbeats 4000000 in
theorem ctJ0_isLatin1_aae02 {g : GP} {a : Nat → Nat} {P : PT} {h : HT} {z : Int32 × HT} {si : Nat} (hsi : si < 18) (hf : fJ0_isLatin1_aae02 si h = some z) : Ct g 1 0 0 mJ0_isLatin1_aae02 [.ref (gK g si)] (WD g a h P) (PoI g a P z) := by
  refine Ct.of (by decide +kernel) (Nat.le_of_ble_eq_true rfl) fun J hJ => ?_
  show Z g mJ0_isLatin1_aae02 J 0 0 0 [some (.ref (gK g si))] [] (WD g a h P)
  unfold fJ0_isLatin1_aae02 at hf
  refine Z.strCS (n := 3) wJ0_38 dJ0_isLatin1_aae02_0 rfl ?_
  refine Z.if_eq (tgt := 17) (n := 6) dJ0_isLatin1_aae02_3 rfl rfl (fun c9 => ?_) (fun c9 => ?_)
  · exact absurd c9 (by decide +kernel)
  refine Z.aload_n (n := 7) dJ0_isLatin1_aae02_6 rfl rfl ?_
  refine Z.strC (n := 10) wJ0_15 hsi dJ0_isLatin1_aae02_7 rfl ?_
  refine Z.if_ne (tgt := 17) (n := 13) dJ0_isLatin1_aae02_10 rfl rfl (fun c9 => ?_) (fun c9 => ?_)
  · exact absurd c9 (by decide +kernel)
  refine Z.iconst (n := 14) (v := 1) dJ0_isLatin1_aae02_13 rfl (by decide +kernel) ?_
  refine Z.goto (tgt := 18) dJ0_isLatin1_aae02_14 rfl ?_
  refine Z.fg [0] ?_
  exact zJ0_isLatin1_aae02_18 hJ hsi _ _ hf
def fJ3_checkIndex_8e157_9 (l0 : Int32) (l1 : Int32) (h : HT) : Option (Int32 × HT) :=
  none
set_option maxHeartbeats 4000000 in
theorem zJ3_checkIndex_8e157_9 {g : GP} {a : Nat → Nat} {P : PT} {J : JT} {z : Int32 × HT} (hJ : JX g 1 0 0 (PoI g a P z) J) (l0 : Int32) (l1 : Int32) (h : HT) (hf : fJ3_checkIndex_8e157_9 l0 l1 h = some z) : Z g mJ3_checkIndex_8e157 J 0 0 9 [some (.int l0), some (.int l1), some (.null)] [] (WD g a h P) := by
  unfold fJ3_checkIndex_8e157_9 at hf
  refine Z.aload_nN (n := 10) dJ3_checkIndex_8e157_9 rfl rfl ?_
  refine Z.iload_n (n := 11) dJ3_checkIndex_8e157_10 rfl rfl ?_
  refine Z.iload_n (n := 12) dJ3_checkIndex_8e157_11 rfl rfl ?_
  cases hf
def fJ3_checkIndex_8e157 (l0 : Int32) (l1 : Int32) (h : HT) : Option (Int32 × HT) :=
  if l0 < 0 then (fJ3_checkIndex_8e157_9 l0 l1 h)
  else (if l0 < l1 then (some (l0, h))
  else (fJ3_checkIndex_8e157_9 l0 l1 h))
set_option maxHeartbeats 4000000 in
theorem ctJ3_checkIndex_8e157 {g : GP} {a : Nat → Nat} {P : PT} {h : HT} {z : Int32 × HT} {l0 : Int32} {l1 : Int32} (hf : fJ3_checkIndex_8e157 l0 l1 h = some z) : Ct g 1 0 0 mJ3_checkIndex_8e157 [.int l0, .int l1, .null] (WD g a h P) (PoI g a P z) := by
  refine Ct.of (by decide +kernel) (Nat.le_of_ble_eq_true rfl) fun J hJ => ?_
  show Z g mJ3_checkIndex_8e157 J 0 0 0 [some (.int l0), some (.int l1), some (.null)] [] (WD g a h P)
  unfold fJ3_checkIndex_8e157 at hf
  refine Z.iload_n (n := 1) dJ3_checkIndex_8e157_0 rfl rfl ?_
  refine Z.if_lt (tgt := 9) (n := 4) dJ3_checkIndex_8e157_1 rfl rfl (fun c1 => ?_) (fun c1 => ?_)
  · rw [if_pos c1] at hf
    exact zJ3_checkIndex_8e157_9 hJ _ _ _ hf
  · rw [if_neg c1] at hf
    refine Z.iload_n (n := 5) dJ3_checkIndex_8e157_4 rfl rfl ?_
    refine Z.iload_n (n := 6) dJ3_checkIndex_8e157_5 rfl rfl ?_
    refine Z.icmp_lt (tgt := 16) (n := 9) dJ3_checkIndex_8e157_6 rfl rfl (fun c2 => ?_) (fun c2 => ?_)
    · rw [if_pos c2] at hf
      refine Z.iload_n (n := 17) dJ3_checkIndex_8e157_16 rfl rfl ?_
      have hz := Option.some.inj hf
      subst hz
      exact Z.iret hJ dJ3_checkIndex_8e157_17 rfl (Nat.le_refl _) (Nat.le_refl _) ⟨rfl, rfl⟩
    · rw [if_neg c2] at hf
      exact zJ3_checkIndex_8e157_9 hJ _ _ _ hf
set_option maxHeartbeats 4000000 in
theorem zJ3_checkIndex_8e157_R9 {tR : Nat} {g : GP} {a : Nat → Nat} {P : PT} {J : JT} {z : Int32 × HT} (hJ : JX g 1 0 0 (PoI g a P z) J) (l0 : Int32) (l1 : Int32) (h : HT) (hf : fJ3_checkIndex_8e157_9 l0 l1 h = some z) : Z g mJ3_checkIndex_8e157 J 0 0 9 [some (.int l0), some (.int l1), some (.ref tR)] [] (WD g a h P) := by
  unfold fJ3_checkIndex_8e157_9 at hf
  refine Z.aload_n (n := 10) dJ3_checkIndex_8e157_9 rfl rfl ?_
  refine Z.iload_n (n := 11) dJ3_checkIndex_8e157_10 rfl rfl ?_
  refine Z.iload_n (n := 12) dJ3_checkIndex_8e157_11 rfl rfl ?_
  cases hf
set_option maxHeartbeats 4000000 in
theorem ctJ3_checkIndex_8e157_R {tR : Nat} {g : GP} {a : Nat → Nat} {P : PT} {h : HT} {z : Int32 × HT} {l0 : Int32} {l1 : Int32} (hf : fJ3_checkIndex_8e157 l0 l1 h = some z) : Ct g 1 0 0 mJ3_checkIndex_8e157 [.int l0, .int l1, .ref tR] (WD g a h P) (PoI g a P z) := by
  refine Ct.of (by decide +kernel) (Nat.le_of_ble_eq_true rfl) fun J hJ => ?_
  show Z g mJ3_checkIndex_8e157 J 0 0 0 [some (.int l0), some (.int l1), some (.ref tR)] [] (WD g a h P)
  unfold fJ3_checkIndex_8e157 at hf
  refine Z.iload_n (n := 1) dJ3_checkIndex_8e157_0 rfl rfl ?_
  refine Z.if_lt (tgt := 9) (n := 4) dJ3_checkIndex_8e157_1 rfl rfl (fun c1 => ?_) (fun c1 => ?_)
  · rw [if_pos c1] at hf
    exact zJ3_checkIndex_8e157_R9 hJ _ _ _ hf
  · rw [if_neg c1] at hf
    refine Z.iload_n (n := 5) dJ3_checkIndex_8e157_4 rfl rfl ?_
    refine Z.iload_n (n := 6) dJ3_checkIndex_8e157_5 rfl rfl ?_
    refine Z.icmp_lt (tgt := 16) (n := 9) dJ3_checkIndex_8e157_6 rfl rfl (fun c2 => ?_) (fun c2 => ?_)
    · rw [if_pos c2] at hf
      refine Z.iload_n (n := 17) dJ3_checkIndex_8e157_16 rfl rfl ?_
      have hz := Option.some.inj hf
      subst hz
      exact Z.iret hJ dJ3_checkIndex_8e157_17 rfl (Nat.le_refl _) (Nat.le_refl _) ⟨rfl, rfl⟩
    · rw [if_neg c2] at hf
      exact zJ3_checkIndex_8e157_R9 hJ _ _ _ hf
def fJ0_checkIndex_df160 (l0 : Int32) (l1 : Int32) (h : HT) : Option (Int32 × HT) :=
  Option.bind (fJ3_checkIndex_8e157 l0 l1 h) fun z1 =>
  some (0, z1.2)
set_option maxHeartbeats 4000000 in
theorem ctJ0_checkIndex_df160 {g : GP} {a : Nat → Nat} {P : PT} {h : HT} {z : Int32 × HT} {l0 : Int32} {l1 : Int32} (hf : fJ0_checkIndex_df160 l0 l1 h = some z) : Ct g 2 0 0 mJ0_checkIndex_df160 [.int l0, .int l1] (WD g a h P) (PoV g a P z) := by
  refine Ct.of (by decide +kernel) (Nat.le_of_ble_eq_true rfl) fun J hJ => ?_
  show Z g mJ0_checkIndex_df160 J 0 0 0 [some (.int l0), some (.int l1)] [] (WD g a h P)
  unfold fJ0_checkIndex_df160 at hf
  refine Z.iload_n (n := 1) dJ0_checkIndex_df160_0 rfl rfl ?_
  refine Z.iload_n (n := 2) dJ0_checkIndex_df160_1 rfl rfl ?_
  refine Z.strSF (n := 5) wJ0_1053 dJ0_checkIndex_df160_2 rfl (fun v9 hv9 => ?_)
  rcases hv9 with rfl | ⟨tR, rfl⟩
  · obtain ⟨z1, ez1, hf⟩ := Option.bind_eq_some_iff.mp hf
    refine Z.callS (n := 8) vJ0_1059 (ctJ3_checkIndex_8e157 ez1) hJ.rm (Nat.le_of_ble_eq_true rfl) rfl rfl (Nat.le_refl _) (Nat.le_refl _) rfl (Nat.le_of_ble_eq_true rfl) rfl dJ0_checkIndex_df160_5 rfl (fun v w hw => ?_)
    obtain ⟨rfl, rfl⟩ := hw
    show Z _ _ _ _ _ _ _ [.int z1.1] _
    refine Z.pop (n := 9) dJ0_checkIndex_df160_8 rfl rfl ?_
    have hz := Option.some.inj hf
    subst hz
    exact Z.vret hJ dJ0_checkIndex_df160_9 rfl (Nat.le_refl _) (Nat.le_refl _) ⟨rfl, rfl⟩
  · obtain ⟨z1, ez1, hf⟩ := Option.bind_eq_some_iff.mp hf
    refine Z.callS (n := 8) vJ0_1059 (ctJ3_checkIndex_8e157_R ez1) hJ.rm (Nat.le_of_ble_eq_true rfl) rfl rfl (Nat.le_refl _) (Nat.le_refl _) rfl (Nat.le_of_ble_eq_true rfl) rfl dJ0_checkIndex_df160_5 rfl (fun v w hw => ?_)
    obtain ⟨rfl, rfl⟩ := hw
    show Z _ _ _ _ _ _ _ [.int z1.1] _
    refine Z.pop (n := 9) dJ0_checkIndex_df160_8 rfl rfl ?_
    have hz := Option.some.inj hf
    subst hz
    exact Z.vret hJ dJ0_checkIndex_df160_9 rfl (Nat.le_refl _) (Nat.le_refl _) ⟨rfl, rfl⟩
def fJ1_charAt_3b067 (si : Nat) (l1 : Int32) (h : HT) : Option (Int32 × HT) :=
  Option.bind (fJ0_checkIndex_df160 l1 (nI (strLen.getD si 0)) h) fun z1 =>
  Option.bind (ck (strLen.getD si 0) l1) fun j2 =>
  Option.bind (cch (((((strByt.getD si []).getD j2 0) &&& (255 : Int32)).toUInt32 % 65536).toInt32)) fun u3 =>
  some (((((strByt.getD si []).getD j2 0) &&& (255 : Int32)).toUInt32 % 65536).toInt32, z1.2)
set_option maxHeartbeats 4000000 in
theorem ctJ1_charAt_3b067 {g : GP} {a : Nat → Nat} {P : PT} {h : HT} {z : Int32 × HT} {si : Nat} {l1 : Int32} (hsi : si < 18) (hf : fJ1_charAt_3b067 si l1 h = some z) : Ct g 3 0 0 mJ1_charAt_3b067 [.ref (gV g si), .int l1] (WD g a h P) (PoI g a P z) := by
  refine Ct.of (by decide +kernel) (Nat.le_of_ble_eq_true rfl) fun J hJ => ?_
  show Z g mJ1_charAt_3b067 J 0 0 0 [some (.ref (gV g si)), some (.int l1)] [] (WD g a h P)
  unfold fJ1_charAt_3b067 at hf
  refine Z.iload_n (n := 1) dJ1_charAt_3b067_0 rfl rfl ?_
  refine Z.aload_n (n := 2) dJ1_charAt_3b067_1 rfl rfl ?_
  refine Z.strL (n := 3) hsi rfl dJ1_charAt_3b067_2 rfl ?_
  obtain ⟨z1, ez1, hf⟩ := Option.bind_eq_some_iff.mp hf
  refine Z.callS (n := 6) vJ1_9 (ctJ0_checkIndex_df160 ez1) hJ.rm (Nat.le_of_ble_eq_true rfl) rfl rfl (Nat.le_refl _) (Nat.le_refl _) rfl (Nat.le_of_ble_eq_true rfl) rfl dJ1_charAt_3b067_3 rfl (fun v w hw => ?_)
  obtain ⟨rfl, rfl⟩ := hw
  show Z _ _ _ _ _ _ _ [] _
  refine Z.aload_n (n := 7) dJ1_charAt_3b067_6 rfl rfl ?_
  refine Z.iload_n (n := 8) dJ1_charAt_3b067_7 rfl rfl ?_
  obtain ⟨j2, ej2, hf⟩ := Option.bind_eq_some_iff.mp hf
  obtain ⟨hij2, hlj2⟩ := ck_spec ej2
  refine Z.strB (j := j2) (n := 9) hsi hij2 hlj2 (strLen_lt _) rfl dJ1_charAt_3b067_8 rfl ?_
  refine Z.sipush (n := 12) (v := 255) dJ1_charAt_3b067_9 rfl (by decide +kernel) ?_
  refine Z.iand (n := 13) dJ1_charAt_3b067_12 rfl ?_
  refine Z.i2c (n := 14) dJ1_charAt_3b067_13 rfl rfl ?_
  obtain ⟨u3, eu3, hf⟩ := Option.bind_eq_some_iff.mp hf
  have hz := Option.some.inj hf
  subst hz
  exact Z.zret hJ dJ1_charAt_3b067_14 rfl (cch_nar eu3) (Nat.le_refl _) (Nat.le_refl _) ⟨rfl, rfl⟩
def fJ0_charAt_5068e (si : Nat) (l1 : Int32) (h : HT) : Option (Int32 × HT) :=
  Option.bind (fJ0_isLatin1_aae02 si h) fun z1 =>
  if z1.1 = 0 then (none)
  else (Option.bind (fJ1_charAt_3b067 si l1 z1.2) fun z3 =>
  Option.bind (cch z3.1) fun u4 =>
  some (z3.1, z3.2))
set_option maxHeartbeats 4000000 in
theorem ctJ0_charAt_5068e {g : GP} {a : Nat → Nat} {P : PT} {h : HT} {z : Int32 × HT} {si : Nat} {l1 : Int32} (hsi : si < 18) (hf : fJ0_charAt_5068e si l1 h = some z) : Ct g 4 0 0 mJ0_charAt_5068e [.ref (gK g si), .int l1] (WD g a h P) (PoI g a P z) := by
  refine Ct.of (by decide +kernel) (Nat.le_of_ble_eq_true rfl) fun J hJ => ?_
  show Z g mJ0_charAt_5068e J 0 0 0 [some (.ref (gK g si)), some (.int l1)] [] (WD g a h P)
  unfold fJ0_charAt_5068e at hf
  refine Z.aload_n (n := 1) dJ0_charAt_5068e_0 rfl rfl ?_
  obtain ⟨z1, ez1, hf⟩ := Option.bind_eq_some_iff.mp hf
  refine Z.callK (n := 4) vJ0_492 (ctJ0_isLatin1_aae02 hsi ez1) hJ.rm (Nat.le_of_ble_eq_true rfl) rfl rfl (Nat.le_refl _) (Nat.le_refl _) rfl hsi rfl rfl (Nat.le_of_ble_eq_true rfl) rfl dJ0_charAt_5068e_1 rfl (fun v w hw => ?_)
  obtain ⟨rfl, rfl⟩ := hw
  show Z _ _ _ _ _ _ _ [.int z1.1] _
  refine Z.if_eq (tgt := 16) (n := 7) dJ0_charAt_5068e_4 rfl rfl (fun c2 => ?_) (fun c2 => ?_)
  · rw [if_pos c2] at hf
    refine Z.aload_n (n := 17) dJ0_charAt_5068e_16 rfl rfl ?_
    refine Z.strV (n := 20) wJ0_9 hsi dJ0_charAt_5068e_17 rfl ?_
    refine Z.iload_n (n := 21) dJ0_charAt_5068e_20 rfl rfl ?_
    cases hf
  · rw [if_neg c2] at hf
    refine Z.aload_n (n := 8) dJ0_charAt_5068e_7 rfl rfl ?_
    refine Z.strV (n := 11) wJ0_9 hsi dJ0_charAt_5068e_8 rfl ?_
    refine Z.iload_n (n := 12) dJ0_charAt_5068e_11 rfl rfl ?_
    obtain ⟨z3, ez3, hf⟩ := Option.bind_eq_some_iff.mp hf
    refine Z.callS (n := 15) vJ0_495 (ctJ1_charAt_3b067 hsi ez3) hJ.rm (Nat.le_of_ble_eq_true rfl) rfl rfl (Nat.le_refl _) (Nat.le_refl _) rfl (Nat.le_of_ble_eq_true rfl) rfl dJ0_charAt_5068e_12 rfl (fun v w hw => ?_)
    obtain ⟨rfl, rfl⟩ := hw
    show Z _ _ _ _ _ _ _ [.int z3.1] _
    obtain ⟨u4, eu4, hf⟩ := Option.bind_eq_some_iff.mp hf
    have hz := Option.some.inj hf
    subst hz
    exact Z.zret hJ dJ0_charAt_5068e_15 rfl (cch_nar eu4) (Nat.le_refl _) (Nat.le_refl _) ⟨rfl, rfl⟩
