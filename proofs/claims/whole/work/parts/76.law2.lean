/-! the law's arms (printed by mklaw.py) -/
section ARM
variable {g : GP} {J : JT} {b L i t K nn : Nat} {Lw : Wld} {xs : Nat → Int32} {a : Nat → Nat} {h : HT} {P : PT}
theorem arm_22 (hJ : JL g b L xs J) (hi : i + 5 ≤ L) (hL : L ≤ 320) (X : Ix P K Lw nn h) (hP : P.length ≤ t) (ht : t < 100) (next : Nx g b J t i) : Z g mL_law J (200 + t) (4000 + 2 * t) 993 [some (.ref b), some (.ref (a 0)), some (.ref (a 93)), some (.int (nI i))] [] (WD g a h P) := by
  obtain ⟨y, h1, h2, e1, e2, iv⟩ := Bo.mu X (b_courted X)
  refine Z.aload_n (n := 994) dL_law_993 rfl rfl ?_
  refine Z.callV (cl' := 200 + t) (sl' := 4000 + 2 * t) (n := 997) vL_111 (ctX11_courted e1) hJ.rm (Nat.le_of_ble_eq_true rfl) rfl rfl (by omega) (by omega) rfl W0 rfl rfl (Nat.le_of_ble_eq_true rfl) rfl dL_law_994 rfl (fun v w hw => ?_)
  obtain ⟨rfl, rfl⟩ := hw
  show Z g mL_law J _ _ 997 [some (.ref b), some (.ref (a 0)), some (.ref (a 93)), some (.int (nI i))] [.int y] (WD g a h1 P)
  refine Z.aload_n (n := 998) dL_law_997 rfl rfl ?_
  refine Z.callV (cl' := 200 + t) (sl' := 4000 + 2 * t) (n := 1001) vL_114 (ctX12_courted e2) hJ.rm (Nat.le_of_ble_eq_true rfl) rfl rfl (by omega) (by omega) rfl W93 rfl rfl (Nat.le_of_ble_eq_true rfl) rfl dL_law_998 rfl (fun v w hw => ?_)
  obtain ⟨rfl, rfl⟩ := hw
  show Z g mL_law J _ _ 1001 [some (.ref b), some (.ref (a 0)), some (.ref (a 93)), some (.int (nI i))] [.int y, .int y] (WD g a h2 P)
  exact Z.icmp_eq (n := 1004) (tgt := 1286) dL_law_1001 (by decide +kernel) rfl (fun _ => (Z.wd (by omega) (by omega) (next a h2 P iv (by omega)))) (fun cc => absurd rfl cc)
theorem arm_23 (hJ : JL g b L xs J) (hi : i + 5 ≤ L) (hL : L ≤ 320) (X : Ix P K Lw nn h) (hP : P.length ≤ t) (ht : t < 100) (next : Nx g b J t i) : Z g mL_law J (200 + t) (4000 + 2 * t) 1006 [some (.ref b), some (.ref (a 0)), some (.ref (a 93)), some (.int (nI i))] [] (WD g a h P) := by
  obtain ⟨y, h1, h2, e1, e2, iv⟩ := m_race X (xs (i + 1))
  refine Z.aload_n (n := 1007) dL_law_1006 rfl rfl ?_
  refine Z.aload_n (n := 1008) dL_law_1007 rfl rfl ?_
  refine Z.iload_n (n := 1009) dL_law_1008 rfl rfl ?_
  refine Z.iconst (n := 1010) (v := 1) dL_law_1009 rfl (by decide +kernel) ?_
  refine Z.iadd (n := 1011) dL_law_1010 rfl ?_
  refine Z.sld (n := 1012) (j := i + 1) hJ dL_law_1011 rfl (nI_add i 1) (by omega) (by omega) ?_
  refine Z.callV (cl' := 200 + t) (sl' := 4000 + 2 * t) (n := 1015) vL_115 (ctX11_race X.2.1.1 e1) hJ.rm (Nat.le_of_ble_eq_true rfl) rfl rfl (by omega) (by omega) rfl W0 rfl rfl (Nat.le_of_ble_eq_true rfl) rfl dL_law_1012 rfl (fun v w hw => ?_)
  obtain ⟨rfl, rfl⟩ := hw
  show Z g mL_law J _ _ 1015 [some (.ref b), some (.ref (a 0)), some (.ref (a 93)), some (.int (nI i))] [.int y] (WD g a h1 P)
  refine Z.aload_n (n := 1016) dL_law_1015 rfl rfl ?_
  refine Z.aload_n (n := 1017) dL_law_1016 rfl rfl ?_
  refine Z.iload_n (n := 1018) dL_law_1017 rfl rfl ?_
  refine Z.iconst (n := 1019) (v := 1) dL_law_1018 rfl (by decide +kernel) ?_
  refine Z.iadd (n := 1020) dL_law_1019 rfl ?_
  refine Z.sld (n := 1021) (j := i + 1) hJ dL_law_1020 rfl (nI_add i 1) (by omega) (by omega) ?_
  refine Z.callV (cl' := 200 + t) (sl' := 4000 + 2 * t) (n := 1024) vL_118 (ctX12_race e2) hJ.rm (Nat.le_of_ble_eq_true rfl) rfl rfl (by omega) (by omega) rfl W93 rfl rfl (Nat.le_of_ble_eq_true rfl) rfl dL_law_1021 rfl (fun v w hw => ?_)
  obtain ⟨rfl, rfl⟩ := hw
  show Z g mL_law J _ _ 1024 [some (.ref b), some (.ref (a 0)), some (.ref (a 93)), some (.int (nI i))] [.int y, .int y] (WD g a h2 P)
  exact Z.icmp_eq (n := 1027) (tgt := 1286) dL_law_1024 (by decide +kernel) rfl (fun _ => (Z.wd (by omega) (by omega) (next a h2 P iv (by omega)))) (fun cc => absurd rfl cc)
theorem arm_24 (hJ : JL g b L xs J) (hi : i + 5 ≤ L) (hL : L ≤ 320) (X : Ix P K Lw nn h) (hP : P.length ≤ t) (ht : t < 100) (next : Nx g b J t i) : Z g mL_law J (200 + t) (4000 + 2 * t) 1029 [some (.ref b), some (.ref (a 0)), some (.ref (a 93)), some (.int (nI i))] [] (WD g a h P) := by
  obtain ⟨y, h1, h2, e1, e2, iv⟩ := Bo.mu X (b_few X (xs (i + 1)) (xs (i + 2)))
  refine Z.aload_n (n := 1030) dL_law_1029 rfl rfl ?_
  refine Z.aload_n (n := 1031) dL_law_1030 rfl rfl ?_
  refine Z.iload_n (n := 1032) dL_law_1031 rfl rfl ?_
  refine Z.iconst (n := 1033) (v := 1) dL_law_1032 rfl (by decide +kernel) ?_
  refine Z.iadd (n := 1034) dL_law_1033 rfl ?_
  refine Z.sld (n := 1035) (j := i + 1) hJ dL_law_1034 rfl (nI_add i 1) (by omega) (by omega) ?_
  refine Z.aload_n (n := 1036) dL_law_1035 rfl rfl ?_
  refine Z.iload_n (n := 1037) dL_law_1036 rfl rfl ?_
  refine Z.iconst (n := 1038) (v := 2) dL_law_1037 rfl (by decide +kernel) ?_
  refine Z.iadd (n := 1039) dL_law_1038 rfl ?_
  refine Z.sld (n := 1040) (j := i + 2) hJ dL_law_1039 rfl (nI_add i 2) (by omega) (by omega) ?_
  refine Z.callV (cl' := 200 + t) (sl' := 4000 + 2 * t) (n := 1043) vL_119 (ctX11_few X.2.1.1 e1) hJ.rm (Nat.le_of_ble_eq_true rfl) rfl rfl (by omega) (by omega) rfl W0 rfl rfl (Nat.le_of_ble_eq_true rfl) rfl dL_law_1040 rfl (fun v w hw => ?_)
  obtain ⟨rfl, rfl⟩ := hw
  show Z g mL_law J _ _ 1043 [some (.ref b), some (.ref (a 0)), some (.ref (a 93)), some (.int (nI i))] [.int y] (WD g a h1 P)
  refine Z.aload_n (n := 1044) dL_law_1043 rfl rfl ?_
  refine Z.aload_n (n := 1045) dL_law_1044 rfl rfl ?_
  refine Z.iload_n (n := 1046) dL_law_1045 rfl rfl ?_
  refine Z.iconst (n := 1047) (v := 1) dL_law_1046 rfl (by decide +kernel) ?_
  refine Z.iadd (n := 1048) dL_law_1047 rfl ?_
  refine Z.sld (n := 1049) (j := i + 1) hJ dL_law_1048 rfl (nI_add i 1) (by omega) (by omega) ?_
  refine Z.aload_n (n := 1050) dL_law_1049 rfl rfl ?_
  refine Z.iload_n (n := 1051) dL_law_1050 rfl rfl ?_
  refine Z.iconst (n := 1052) (v := 2) dL_law_1051 rfl (by decide +kernel) ?_
  refine Z.iadd (n := 1053) dL_law_1052 rfl ?_
  refine Z.sld (n := 1054) (j := i + 2) hJ dL_law_1053 rfl (nI_add i 2) (by omega) (by omega) ?_
  refine Z.callV (cl' := 200 + t) (sl' := 4000 + 2 * t) (n := 1057) vL_122 (ctX12_few e2) hJ.rm (Nat.le_of_ble_eq_true rfl) rfl rfl (by omega) (by omega) rfl W93 rfl rfl (Nat.le_of_ble_eq_true rfl) rfl dL_law_1054 rfl (fun v w hw => ?_)
  obtain ⟨rfl, rfl⟩ := hw
  show Z g mL_law J _ _ 1057 [some (.ref b), some (.ref (a 0)), some (.ref (a 93)), some (.int (nI i))] [.int y, .int y] (WD g a h2 P)
  exact Z.icmp_eq (n := 1060) (tgt := 1286) dL_law_1057 (by decide +kernel) rfl (fun _ => (Z.wd (by omega) (by omega) (next a h2 P iv (by omega)))) (fun cc => absurd rfl cc)
theorem arm_25 (hJ : JL g b L xs J) (hi : i + 5 ≤ L) (hL : L ≤ 320) (X : Ix P K Lw nn h) (hP : P.length ≤ t) (ht : t < 100) (next : Nx g b J t i) : Z g mL_law J (200 + t) (4000 + 2 * t) 1062 [some (.ref b), some (.ref (a 0)), some (.ref (a 93)), some (.int (nI i))] [] (WD g a h P) := by
  obtain ⟨y, h1, h2, e1, e2, iv⟩ := Bo.mu X (b_guarded X (xs (i + 1)))
  refine Z.aload_n (n := 1063) dL_law_1062 rfl rfl ?_
  refine Z.aload_n (n := 1064) dL_law_1063 rfl rfl ?_
  refine Z.iload_n (n := 1065) dL_law_1064 rfl rfl ?_
  refine Z.iconst (n := 1066) (v := 1) dL_law_1065 rfl (by decide +kernel) ?_
  refine Z.iadd (n := 1067) dL_law_1066 rfl ?_
  refine Z.sld (n := 1068) (j := i + 1) hJ dL_law_1067 rfl (nI_add i 1) (by omega) (by omega) ?_
  refine Z.callV (cl' := 200 + t) (sl' := 4000 + 2 * t) (n := 1071) vL_123 (ctX11_guarded X.2.1.1 e1) hJ.rm (Nat.le_of_ble_eq_true rfl) rfl rfl (by omega) (by omega) rfl W0 rfl rfl (Nat.le_of_ble_eq_true rfl) rfl dL_law_1068 rfl (fun v w hw => ?_)
  obtain ⟨rfl, rfl⟩ := hw
  show Z g mL_law J _ _ 1071 [some (.ref b), some (.ref (a 0)), some (.ref (a 93)), some (.int (nI i))] [.int y] (WD g a h1 P)
  refine Z.aload_n (n := 1072) dL_law_1071 rfl rfl ?_
  refine Z.aload_n (n := 1073) dL_law_1072 rfl rfl ?_
  refine Z.iload_n (n := 1074) dL_law_1073 rfl rfl ?_
  refine Z.iconst (n := 1075) (v := 1) dL_law_1074 rfl (by decide +kernel) ?_
  refine Z.iadd (n := 1076) dL_law_1075 rfl ?_
  refine Z.sld (n := 1077) (j := i + 1) hJ dL_law_1076 rfl (nI_add i 1) (by omega) (by omega) ?_
  refine Z.callV (cl' := 200 + t) (sl' := 4000 + 2 * t) (n := 1080) vL_126 (ctX12_guarded e2) hJ.rm (Nat.le_of_ble_eq_true rfl) rfl rfl (by omega) (by omega) rfl W93 rfl rfl (Nat.le_of_ble_eq_true rfl) rfl dL_law_1077 rfl (fun v w hw => ?_)
  obtain ⟨rfl, rfl⟩ := hw
  show Z g mL_law J _ _ 1080 [some (.ref b), some (.ref (a 0)), some (.ref (a 93)), some (.int (nI i))] [.int y, .int y] (WD g a h2 P)
  exact Z.icmp_eq (n := 1083) (tgt := 1286) dL_law_1080 (by decide +kernel) rfl (fun _ => (Z.wd (by omega) (by omega) (next a h2 P iv (by omega)))) (fun cc => absurd rfl cc)
theorem arm_26 (hJ : JL g b L xs J) (hi : i + 5 ≤ L) (hL : L ≤ 320) (X : Ix P K Lw nn h) (hP : P.length ≤ t) (ht : t < 100) (next : Nx g b J t i) : Z g mL_law J (200 + t) (4000 + 2 * t) 1085 [some (.ref b), some (.ref (a 0)), some (.ref (a 93)), some (.int (nI i))] [] (WD g a h P) := by
  obtain ⟨y, h1, h2, e1, e2, iv⟩ := Bo.mu X (b_marry X (xs (i + 1)) (xs (i + 2)) (xs (i + 3)) (xs (i + 4)))
  refine Z.aload_n (n := 1086) dL_law_1085 rfl rfl ?_
  refine Z.aload_n (n := 1087) dL_law_1086 rfl rfl ?_
  refine Z.iload_n (n := 1088) dL_law_1087 rfl rfl ?_
  refine Z.iconst (n := 1089) (v := 1) dL_law_1088 rfl (by decide +kernel) ?_
  refine Z.iadd (n := 1090) dL_law_1089 rfl ?_
  refine Z.sld (n := 1091) (j := i + 1) hJ dL_law_1090 rfl (nI_add i 1) (by omega) (by omega) ?_
  refine Z.aload_n (n := 1092) dL_law_1091 rfl rfl ?_
  refine Z.iload_n (n := 1093) dL_law_1092 rfl rfl ?_
  refine Z.iconst (n := 1094) (v := 2) dL_law_1093 rfl (by decide +kernel) ?_
  refine Z.iadd (n := 1095) dL_law_1094 rfl ?_
  refine Z.sld (n := 1096) (j := i + 2) hJ dL_law_1095 rfl (nI_add i 2) (by omega) (by omega) ?_
  refine Z.aload_n (n := 1097) dL_law_1096 rfl rfl ?_
  refine Z.iload_n (n := 1098) dL_law_1097 rfl rfl ?_
  refine Z.iconst (n := 1099) (v := 3) dL_law_1098 rfl (by decide +kernel) ?_
  refine Z.iadd (n := 1100) dL_law_1099 rfl ?_
  refine Z.sld (n := 1101) (j := i + 3) hJ dL_law_1100 rfl (nI_add i 3) (by omega) (by omega) ?_
  refine Z.aload_n (n := 1102) dL_law_1101 rfl rfl ?_
  refine Z.iload_n (n := 1103) dL_law_1102 rfl rfl ?_
  refine Z.iconst (n := 1104) (v := 4) dL_law_1103 rfl (by decide +kernel) ?_
  refine Z.iadd (n := 1105) dL_law_1104 rfl ?_
  refine Z.sld (n := 1106) (j := i + 4) hJ dL_law_1105 rfl (nI_add i 4) (by omega) (by omega) ?_
  refine Z.callV (cl' := 200 + t) (sl' := 4000 + 2 * t) (n := 1109) vL_127 (ctX11_marry X.2.1.1 e1) hJ.rm (Nat.le_of_ble_eq_true rfl) rfl rfl (by omega) (by omega) rfl W0 rfl rfl (Nat.le_of_ble_eq_true rfl) rfl dL_law_1106 rfl (fun v w hw => ?_)
  obtain ⟨rfl, rfl⟩ := hw
  show Z g mL_law J _ _ 1109 [some (.ref b), some (.ref (a 0)), some (.ref (a 93)), some (.int (nI i))] [.int y] (WD g a h1 P)
  refine Z.aload_n (n := 1110) dL_law_1109 rfl rfl ?_
  refine Z.aload_n (n := 1111) dL_law_1110 rfl rfl ?_
  refine Z.iload_n (n := 1112) dL_law_1111 rfl rfl ?_
  refine Z.iconst (n := 1113) (v := 1) dL_law_1112 rfl (by decide +kernel) ?_
  refine Z.iadd (n := 1114) dL_law_1113 rfl ?_
  refine Z.sld (n := 1115) (j := i + 1) hJ dL_law_1114 rfl (nI_add i 1) (by omega) (by omega) ?_
  refine Z.aload_n (n := 1116) dL_law_1115 rfl rfl ?_
  refine Z.iload_n (n := 1117) dL_law_1116 rfl rfl ?_
  refine Z.iconst (n := 1118) (v := 2) dL_law_1117 rfl (by decide +kernel) ?_
  refine Z.iadd (n := 1119) dL_law_1118 rfl ?_
  refine Z.sld (n := 1120) (j := i + 2) hJ dL_law_1119 rfl (nI_add i 2) (by omega) (by omega) ?_
  refine Z.aload_n (n := 1121) dL_law_1120 rfl rfl ?_
  refine Z.iload_n (n := 1122) dL_law_1121 rfl rfl ?_
  refine Z.iconst (n := 1123) (v := 3) dL_law_1122 rfl (by decide +kernel) ?_
  refine Z.iadd (n := 1124) dL_law_1123 rfl ?_
  refine Z.sld (n := 1125) (j := i + 3) hJ dL_law_1124 rfl (nI_add i 3) (by omega) (by omega) ?_
  refine Z.aload_n (n := 1126) dL_law_1125 rfl rfl ?_
  refine Z.iload_n (n := 1127) dL_law_1126 rfl rfl ?_
  refine Z.iconst (n := 1128) (v := 4) dL_law_1127 rfl (by decide +kernel) ?_
  refine Z.iadd (n := 1129) dL_law_1128 rfl ?_
  refine Z.sld (n := 1130) (j := i + 4) hJ dL_law_1129 rfl (nI_add i 4) (by omega) (by omega) ?_
  refine Z.callV (cl' := 200 + t) (sl' := 4000 + 2 * t) (n := 1133) vL_130 (ctX12_marry e2) hJ.rm (Nat.le_of_ble_eq_true rfl) rfl rfl (by omega) (by omega) rfl W93 rfl rfl (Nat.le_of_ble_eq_true rfl) rfl dL_law_1130 rfl (fun v w hw => ?_)
  obtain ⟨rfl, rfl⟩ := hw
  show Z g mL_law J _ _ 1133 [some (.ref b), some (.ref (a 0)), some (.ref (a 93)), some (.int (nI i))] [.int y, .int y] (WD g a h2 P)
  exact Z.icmp_eq (n := 1136) (tgt := 1286) dL_law_1133 (by decide +kernel) rfl (fun _ => (Z.wd (by omega) (by omega) (next a h2 P iv (by omega)))) (fun cc => absurd rfl cc)
theorem arm_27 (hJ : JL g b L xs J) (hi : i + 5 ≤ L) (hL : L ≤ 320) (X : Ix P K Lw nn h) (hP : P.length ≤ t) (ht : t < 100) (next : Nx g b J t i) : Z g mL_law J (200 + t) (4000 + 2 * t) 1138 [some (.ref b), some (.ref (a 0)), some (.ref (a 93)), some (.int (nI i))] [] (WD g a h P) := by
  obtain ⟨y, h1, h2, e1, e2, iv⟩ := m_act X (xs (i + 1)) (xs (i + 2)) (xs (i + 3))
  refine Z.aload_n (n := 1139) dL_law_1138 rfl rfl ?_
  refine Z.aload_n (n := 1140) dL_law_1139 rfl rfl ?_
  refine Z.iload_n (n := 1141) dL_law_1140 rfl rfl ?_
  refine Z.iconst (n := 1142) (v := 1) dL_law_1141 rfl (by decide +kernel) ?_
  refine Z.iadd (n := 1143) dL_law_1142 rfl ?_
  refine Z.sld (n := 1144) (j := i + 1) hJ dL_law_1143 rfl (nI_add i 1) (by omega) (by omega) ?_
  refine Z.aload_n (n := 1145) dL_law_1144 rfl rfl ?_
  refine Z.iload_n (n := 1146) dL_law_1145 rfl rfl ?_
  refine Z.iconst (n := 1147) (v := 2) dL_law_1146 rfl (by decide +kernel) ?_
  refine Z.iadd (n := 1148) dL_law_1147 rfl ?_
  refine Z.sld (n := 1149) (j := i + 2) hJ dL_law_1148 rfl (nI_add i 2) (by omega) (by omega) ?_
  refine Z.aload_n (n := 1150) dL_law_1149 rfl rfl ?_
  refine Z.iload_n (n := 1151) dL_law_1150 rfl rfl ?_
  refine Z.iconst (n := 1152) (v := 3) dL_law_1151 rfl (by decide +kernel) ?_
  refine Z.iadd (n := 1153) dL_law_1152 rfl ?_
  refine Z.sld (n := 1154) (j := i + 3) hJ dL_law_1153 rfl (nI_add i 3) (by omega) (by omega) ?_
  refine Z.callV (cl' := 200 + t) (sl' := 4000 + 2 * t) (n := 1157) vL_131 (ctX11_act X.2.1.1 e1) hJ.rm (Nat.le_of_ble_eq_true rfl) rfl rfl (by omega) (by omega) rfl W0 rfl rfl (Nat.le_of_ble_eq_true rfl) rfl dL_law_1154 rfl (fun v w hw => ?_)
  obtain ⟨rfl, rfl⟩ := hw
  show Z g mL_law J _ _ 1157 [some (.ref b), some (.ref (a 0)), some (.ref (a 93)), some (.int (nI i))] [.int y] (WD g a h1 P)
  refine Z.aload_n (n := 1158) dL_law_1157 rfl rfl ?_
  refine Z.aload_n (n := 1159) dL_law_1158 rfl rfl ?_
  refine Z.iload_n (n := 1160) dL_law_1159 rfl rfl ?_
  refine Z.iconst (n := 1161) (v := 1) dL_law_1160 rfl (by decide +kernel) ?_
  refine Z.iadd (n := 1162) dL_law_1161 rfl ?_
  refine Z.sld (n := 1163) (j := i + 1) hJ dL_law_1162 rfl (nI_add i 1) (by omega) (by omega) ?_
  refine Z.aload_n (n := 1164) dL_law_1163 rfl rfl ?_
  refine Z.iload_n (n := 1165) dL_law_1164 rfl rfl ?_
  refine Z.iconst (n := 1166) (v := 2) dL_law_1165 rfl (by decide +kernel) ?_
  refine Z.iadd (n := 1167) dL_law_1166 rfl ?_
  refine Z.sld (n := 1168) (j := i + 2) hJ dL_law_1167 rfl (nI_add i 2) (by omega) (by omega) ?_
  refine Z.aload_n (n := 1169) dL_law_1168 rfl rfl ?_
  refine Z.iload_n (n := 1170) dL_law_1169 rfl rfl ?_
  refine Z.iconst (n := 1171) (v := 3) dL_law_1170 rfl (by decide +kernel) ?_
  refine Z.iadd (n := 1172) dL_law_1171 rfl ?_
  refine Z.sld (n := 1173) (j := i + 3) hJ dL_law_1172 rfl (nI_add i 3) (by omega) (by omega) ?_
  refine Z.callV (cl' := 200 + t) (sl' := 4000 + 2 * t) (n := 1176) vL_134 (ctX12_act e2) hJ.rm (Nat.le_of_ble_eq_true rfl) rfl rfl (by omega) (by omega) rfl W93 rfl rfl (Nat.le_of_ble_eq_true rfl) rfl dL_law_1173 rfl (fun v w hw => ?_)
  obtain ⟨rfl, rfl⟩ := hw
  show Z g mL_law J _ _ 1176 [some (.ref b), some (.ref (a 0)), some (.ref (a 93)), some (.int (nI i))] [.int y, .int y] (WD g a h2 P)
  exact Z.icmp_eq (n := 1179) (tgt := 1286) dL_law_1176 (by decide +kernel) rfl (fun _ => (Z.wd (by omega) (by omega) (next a h2 P iv (by omega)))) (fun cc => absurd rfl cc)
theorem arm_28 (hJ : JL g b L xs J) (hi : i + 5 ≤ L) (hL : L ≤ 320) (X : Ix P K Lw nn h) (hP : P.length ≤ t) (ht : t < 100) (next : Nx g b J t i) : Z g mL_law J (200 + t) (4000 + 2 * t) 1181 [some (.ref b), some (.ref (a 0)), some (.ref (a 93)), some (.int (nI i))] [] (WD g a h P) := by
  obtain ⟨y, h1, h2, e1, e2, iv⟩ := Bo.mu X (b_trace X (xs (i + 1)))
  refine Z.aload_n (n := 1182) dL_law_1181 rfl rfl ?_
  refine Z.aload_n (n := 1183) dL_law_1182 rfl rfl ?_
  refine Z.iload_n (n := 1184) dL_law_1183 rfl rfl ?_
  refine Z.iconst (n := 1185) (v := 1) dL_law_1184 rfl (by decide +kernel) ?_
  refine Z.iadd (n := 1186) dL_law_1185 rfl ?_
  refine Z.sld (n := 1187) (j := i + 1) hJ dL_law_1186 rfl (nI_add i 1) (by omega) (by omega) ?_
  refine Z.callV (cl' := 200 + t) (sl' := 4000 + 2 * t) (n := 1190) vL_135 (ctX11_trace e1) hJ.rm (Nat.le_of_ble_eq_true rfl) rfl rfl (by omega) (by omega) rfl W0 rfl rfl (Nat.le_of_ble_eq_true rfl) rfl dL_law_1187 rfl (fun v w hw => ?_)
  obtain ⟨rfl, rfl⟩ := hw
  show Z g mL_law J _ _ 1190 [some (.ref b), some (.ref (a 0)), some (.ref (a 93)), some (.int (nI i))] [.int y] (WD g a h1 P)
  refine Z.aload_n (n := 1191) dL_law_1190 rfl rfl ?_
  refine Z.aload_n (n := 1192) dL_law_1191 rfl rfl ?_
  refine Z.iload_n (n := 1193) dL_law_1192 rfl rfl ?_
  refine Z.iconst (n := 1194) (v := 1) dL_law_1193 rfl (by decide +kernel) ?_
  refine Z.iadd (n := 1195) dL_law_1194 rfl ?_
  refine Z.sld (n := 1196) (j := i + 1) hJ dL_law_1195 rfl (nI_add i 1) (by omega) (by omega) ?_
  refine Z.callV (cl' := 200 + t) (sl' := 4000 + 2 * t) (n := 1199) vL_138 (ctX12_trace e2) hJ.rm (Nat.le_of_ble_eq_true rfl) rfl rfl (by omega) (by omega) rfl W93 rfl rfl (Nat.le_of_ble_eq_true rfl) rfl dL_law_1196 rfl (fun v w hw => ?_)
  obtain ⟨rfl, rfl⟩ := hw
  show Z g mL_law J _ _ 1199 [some (.ref b), some (.ref (a 0)), some (.ref (a 93)), some (.int (nI i))] [.int y, .int y] (WD g a h2 P)
  exact Z.icmp_eq (n := 1202) (tgt := 1286) dL_law_1199 (by decide +kernel) rfl (fun _ => (Z.wd (by omega) (by omega) (next a h2 P iv (by omega)))) (fun cc => absurd rfl cc)
theorem arm_29 (hJ : JL g b L xs J) (hi : i + 5 ≤ L) (hL : L ≤ 320) (X : Ix P K Lw nn h) (hP : P.length ≤ t) (ht : t < 100) (next : Nx g b J t i) : Z g mL_law J (200 + t) (4000 + 2 * t) 1204 [some (.ref b), some (.ref (a 0)), some (.ref (a 93)), some (.int (nI i))] [] (WD g a h P) := by
  obtain ⟨y, h1, h2, e1, e2, iv⟩ := Bo.mu X (b_as X (xs (i + 1)) (xs (i + 2)))
  refine Z.aload_n (n := 1205) dL_law_1204 rfl rfl ?_
  refine Z.aload_n (n := 1206) dL_law_1205 rfl rfl ?_
  refine Z.iload_n (n := 1207) dL_law_1206 rfl rfl ?_
  refine Z.iconst (n := 1208) (v := 1) dL_law_1207 rfl (by decide +kernel) ?_
  refine Z.iadd (n := 1209) dL_law_1208 rfl ?_
  refine Z.sld (n := 1210) (j := i + 1) hJ dL_law_1209 rfl (nI_add i 1) (by omega) (by omega) ?_
  refine Z.aload_n (n := 1211) dL_law_1210 rfl rfl ?_
  refine Z.iload_n (n := 1212) dL_law_1211 rfl rfl ?_
  refine Z.iconst (n := 1213) (v := 2) dL_law_1212 rfl (by decide +kernel) ?_
  refine Z.iadd (n := 1214) dL_law_1213 rfl ?_
  refine Z.sld (n := 1215) (j := i + 2) hJ dL_law_1214 rfl (nI_add i 2) (by omega) (by omega) ?_
  refine Z.callV (cl' := 200 + t) (sl' := 4000 + 2 * t) (n := 1218) vL_139 (ctX11_as X.2.1.1 e1) hJ.rm (Nat.le_of_ble_eq_true rfl) rfl rfl (by omega) (by omega) rfl W0 rfl rfl (Nat.le_of_ble_eq_true rfl) rfl dL_law_1215 rfl (fun v w hw => ?_)
  obtain ⟨rfl, rfl⟩ := hw
  show Z g mL_law J _ _ 1218 [some (.ref b), some (.ref (a 0)), some (.ref (a 93)), some (.int (nI i))] [.int y] (WD g a h1 P)
  refine Z.aload_n (n := 1219) dL_law_1218 rfl rfl ?_
  refine Z.aload_n (n := 1220) dL_law_1219 rfl rfl ?_
  refine Z.iload_n (n := 1221) dL_law_1220 rfl rfl ?_
  refine Z.iconst (n := 1222) (v := 1) dL_law_1221 rfl (by decide +kernel) ?_
  refine Z.iadd (n := 1223) dL_law_1222 rfl ?_
  refine Z.sld (n := 1224) (j := i + 1) hJ dL_law_1223 rfl (nI_add i 1) (by omega) (by omega) ?_
  refine Z.aload_n (n := 1225) dL_law_1224 rfl rfl ?_
  refine Z.iload_n (n := 1226) dL_law_1225 rfl rfl ?_
  refine Z.iconst (n := 1227) (v := 2) dL_law_1226 rfl (by decide +kernel) ?_
  refine Z.iadd (n := 1228) dL_law_1227 rfl ?_
  refine Z.sld (n := 1229) (j := i + 2) hJ dL_law_1228 rfl (nI_add i 2) (by omega) (by omega) ?_
  refine Z.callV (cl' := 200 + t) (sl' := 4000 + 2 * t) (n := 1232) vL_142 (ctX12_as e2) hJ.rm (Nat.le_of_ble_eq_true rfl) rfl rfl (by omega) (by omega) rfl W93 rfl rfl (Nat.le_of_ble_eq_true rfl) rfl dL_law_1229 rfl (fun v w hw => ?_)
  obtain ⟨rfl, rfl⟩ := hw
  show Z g mL_law J _ _ 1232 [some (.ref b), some (.ref (a 0)), some (.ref (a 93)), some (.int (nI i))] [.int y, .int y] (WD g a h2 P)
  exact Z.icmp_eq (n := 1235) (tgt := 1286) dL_law_1232 (by decide +kernel) rfl (fun _ => (Z.wd (by omega) (by omega) (next a h2 P iv (by omega)))) (fun cc => absurd rfl cc)
theorem arm_30 (hJ : JL g b L xs J) (hi : i + 5 ≤ L) (hL : L ≤ 320) (X : Ix P K Lw nn h) (hP : P.length ≤ t) (ht : t < 100) (next : Nx g b J t i) : Z g mL_law J (200 + t) (4000 + 2 * t) 1237 [some (.ref b), some (.ref (a 0)), some (.ref (a 93)), some (.int (nI i))] [] (WD g a h P) := by
  obtain ⟨y, h1, h2, e1, e2, iv⟩ := m_image X
  refine Z.aload_n (n := 1238) dL_law_1237 rfl rfl ?_
  refine Z.callV (cl' := 200 + t) (sl' := 4000 + 2 * t) (n := 1241) vL_143 (ctX11_image X.2.1.1 e1) hJ.rm (Nat.le_of_ble_eq_true rfl) rfl rfl (by omega) (by omega) rfl W0 rfl rfl (Nat.le_of_ble_eq_true rfl) rfl dL_law_1238 rfl (fun v w hw => ?_)
  obtain ⟨rfl, rfl⟩ := hw
  show Z g mL_law J _ _ 1241 [some (.ref b), some (.ref (a 0)), some (.ref (a 93)), some (.int (nI i))] [.int y] (WD g a h1 P)
  refine Z.aload_n (n := 1242) dL_law_1241 rfl rfl ?_
  refine Z.callV (cl' := 200 + t) (sl' := 4000 + 2 * t) (n := 1245) vL_146 (ctX12_image e2) hJ.rm (Nat.le_of_ble_eq_true rfl) rfl rfl (by omega) (by omega) rfl W93 rfl rfl (Nat.le_of_ble_eq_true rfl) rfl dL_law_1242 rfl (fun v w hw => ?_)
  obtain ⟨rfl, rfl⟩ := hw
  show Z g mL_law J _ _ 1245 [some (.ref b), some (.ref (a 0)), some (.ref (a 93)), some (.int (nI i))] [.int y, .int y] (WD g a h2 P)
  exact Z.icmp_eq (n := 1248) (tgt := 1286) dL_law_1245 (by decide +kernel) rfl (fun _ => (Z.wd (by omega) (by omega) (next a h2 P iv (by omega)))) (fun cc => absurd rfl cc)
theorem arm_31 (hJ : JL g b L xs J) (hi : i + 5 ≤ L) (hL : L ≤ 320) (X : Ix P K Lw nn h) (hP : P.length ≤ t) (ht : t < 100) (next : Nx g b J t i) : Z g mL_law J (200 + t) (4000 + 2 * t) 1250 [some (.ref b), some (.ref (a 0)), some (.ref (a 93)), some (.int (nI i))] [] (WD g a h P) := by
  obtain ⟨y, h1, h2, e1, e2, iv⟩ := m_undo X
  refine Z.aload_n (n := 1251) dL_law_1250 rfl rfl ?_
  refine Z.callV (cl' := 200 + t) (sl' := 4000 + 2 * t) (n := 1254) vL_147 (ctX11_undo X.2.1.1 e1) hJ.rm (Nat.le_of_ble_eq_true rfl) rfl rfl (by omega) (by omega) rfl W0 rfl rfl (Nat.le_of_ble_eq_true rfl) rfl dL_law_1251 rfl (fun v w hw => ?_)
  obtain ⟨rfl, rfl⟩ := hw
  show Z g mL_law J _ _ 1254 [some (.ref b), some (.ref (a 0)), some (.ref (a 93)), some (.int (nI i))] [.int y] (WD g a h1 P)
  refine Z.aload_n (n := 1255) dL_law_1254 rfl rfl ?_
  refine Z.callV (cl' := 200 + t) (sl' := 4000 + 2 * t) (n := 1258) vL_150 (ctX12_undo e2) hJ.rm (Nat.le_of_ble_eq_true rfl) rfl rfl (by omega) (by omega) rfl W93 rfl rfl (Nat.le_of_ble_eq_true rfl) rfl dL_law_1255 rfl (fun v w hw => ?_)
  obtain ⟨rfl, rfl⟩ := hw
  show Z g mL_law J _ _ 1258 [some (.ref b), some (.ref (a 0)), some (.ref (a 93)), some (.int (nI i))] [.int y, .int y] (WD g a h2 P)
  exact Z.icmp_eq (n := 1261) (tgt := 1286) dL_law_1258 (by decide +kernel) rfl (fun _ => (Z.wd (by omega) (by omega) (next a h2 P iv (by omega)))) (fun cc => absurd rfl cc)
theorem arm_32 (hJ : JL g b L xs J) (hi : i + 5 ≤ L) (hL : L ≤ 320) (X : Ix P K Lw nn h) (hP : P.length ≤ t) (ht : t < 100) (next : Nx g b J t i) : Z g mL_law J (200 + t) (4000 + 2 * t) 1263 [some (.ref b), some (.ref (a 0)), some (.ref (a 93)), some (.int (nI i))] [] (WD g a h P) := by
  obtain ⟨y, h1, h2, e1, e2, iv⟩ := Bo.mu X (b_count X (xs (i + 1)))
  refine Z.aload_n (n := 1264) dL_law_1263 rfl rfl ?_
  refine Z.aload_n (n := 1265) dL_law_1264 rfl rfl ?_
  refine Z.iload_n (n := 1266) dL_law_1265 rfl rfl ?_
  refine Z.iconst (n := 1267) (v := 1) dL_law_1266 rfl (by decide +kernel) ?_
  refine Z.iadd (n := 1268) dL_law_1267 rfl ?_
  refine Z.sld (n := 1269) (j := i + 1) hJ dL_law_1268 rfl (nI_add i 1) (by omega) (by omega) ?_
  refine Z.callV (cl' := 200 + t) (sl' := 4000 + 2 * t) (n := 1272) vL_151 (ctX11_count e1) hJ.rm (Nat.le_of_ble_eq_true rfl) rfl rfl (by omega) (by omega) rfl W0 rfl rfl (Nat.le_of_ble_eq_true rfl) rfl dL_law_1269 rfl (fun v w hw => ?_)
  obtain ⟨rfl, rfl⟩ := hw
  show Z g mL_law J _ _ 1272 [some (.ref b), some (.ref (a 0)), some (.ref (a 93)), some (.int (nI i))] [.int y] (WD g a h1 P)
  refine Z.aload_n (n := 1273) dL_law_1272 rfl rfl ?_
  refine Z.aload_n (n := 1274) dL_law_1273 rfl rfl ?_
  refine Z.iload_n (n := 1275) dL_law_1274 rfl rfl ?_
  refine Z.iconst (n := 1276) (v := 1) dL_law_1275 rfl (by decide +kernel) ?_
  refine Z.iadd (n := 1277) dL_law_1276 rfl ?_
  refine Z.sld (n := 1278) (j := i + 1) hJ dL_law_1277 rfl (nI_add i 1) (by omega) (by omega) ?_
  refine Z.callV (cl' := 200 + t) (sl' := 4000 + 2 * t) (n := 1281) vL_154 (ctX12_count e2) hJ.rm (Nat.le_of_ble_eq_true rfl) rfl rfl (by omega) (by omega) rfl W93 rfl rfl (Nat.le_of_ble_eq_true rfl) rfl dL_law_1278 rfl (fun v w hw => ?_)
  obtain ⟨rfl, rfl⟩ := hw
  show Z g mL_law J _ _ 1281 [some (.ref b), some (.ref (a 0)), some (.ref (a 93)), some (.int (nI i))] [.int y, .int y] (WD g a h2 P)
  exact Z.icmp_eq (n := 1284) (tgt := 1286) dL_law_1281 (by decide +kernel) rfl (fun _ => (Z.wd (by omega) (by omega) (next a h2 P iv (by omega)))) (fun cc => absurd rfl cc)
end ARM
