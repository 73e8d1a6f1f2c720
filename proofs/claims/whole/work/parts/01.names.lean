-- ===== PART A: goes FIRST, ahead of the names: the tables' words, and 'selects' of the private methods out of them =====
/-- a private method of a class that the tables say can be made, by its rows of tables_1 -/
def lw_okq (q : MethodName × Nat) : Prop := (q.1.cls ≠ "java/lang/invoke/MethodHandle" ∧ q.1.cls ≠ "java/lang/invoke/VarHandle") ∧ Cond.instantiable q.1.cls q.2 ∈ tables_1 ∧ Cond.privateMethod q.1 ∈ tables_1 ∧ Cond.instanceMethod q.1 ∈ tables_1
theorem lw_p0 : lw_okq (⟨"KingsBalance$World", "clause", "(LKingsBalance$Tape;)Z"⟩, 11) := ⟨⟨by decide +kernel, by decide +kernel⟩, List.mem_of_getElem? (i := 58) (by decide +kernel), List.mem_of_getElem? (i := 297) (by decide +kernel), List.mem_of_getElem? (i := 298) (by decide +kernel)⟩
theorem lw_p1 : lw_okq (⟨"KingsBalance$World", "priced", "(LKingsBalance$Tape;)Z"⟩, 11) := ⟨⟨by decide +kernel, by decide +kernel⟩, List.mem_of_getElem? (i := 58) (by decide +kernel), List.mem_of_getElem? (i := 354) (by decide +kernel), List.mem_of_getElem? (i := 355) (by decide +kernel)⟩
theorem lw_p2 : lw_okq (⟨"KingsBalance$World", "amount", "(LKingsBalance$Tape;Ljava/lang/String;)I"⟩, 11) := ⟨⟨by decide +kernel, by decide +kernel⟩, List.mem_of_getElem? (i := 58) (by decide +kernel), List.mem_of_getElem? (i := 359) (by decide +kernel), List.mem_of_getElem? (i := 360) (by decide +kernel)⟩
theorem lw_p3 : lw_okq (⟨"KingsBalance$World", "either", "(LKingsBalance$Tape;I)Z"⟩, 11) := ⟨⟨by decide +kernel, by decide +kernel⟩, List.mem_of_getElem? (i := 58) (by decide +kernel), List.mem_of_getElem? (i := 374) (by decide +kernel), List.mem_of_getElem? (i := 375) (by decide +kernel)⟩
theorem lw_p4 : lw_okq (⟨"KingsBalance$World", "both", "(LKingsBalance$Tape;I)Z"⟩, 11) := ⟨⟨by decide +kernel, by decide +kernel⟩, List.mem_of_getElem? (i := 58) (by decide +kernel), List.mem_of_getElem? (i := 378) (by decide +kernel), List.mem_of_getElem? (i := 379) (by decide +kernel)⟩
theorem lw_p5 : lw_okq (⟨"KingsBalance$World", "single", "(LKingsBalance$Tape;I)Z"⟩, 11) := ⟨⟨by decide +kernel, by decide +kernel⟩, List.mem_of_getElem? (i := 58) (by decide +kernel), List.mem_of_getElem? (i := 382) (by decide +kernel), List.mem_of_getElem? (i := 383) (by decide +kernel)⟩
theorem lw_p6 : lw_okq (⟨"KingsBalance$World", "test", "(LKingsBalance$Tape;)Z"⟩, 11) := ⟨⟨by decide +kernel, by decide +kernel⟩, List.mem_of_getElem? (i := 58) (by decide +kernel), List.mem_of_getElem? (i := 387) (by decide +kernel), List.mem_of_getElem? (i := 388) (by decide +kernel)⟩
theorem lw_p7 : lw_okq (⟨"KingsBalance$World", "step", "(III)V"⟩, 11) := ⟨⟨by decide +kernel, by decide +kernel⟩, List.mem_of_getElem? (i := 58) (by decide +kernel), List.mem_of_getElem? (i := 393) (by decide +kernel), List.mem_of_getElem? (i := 394) (by decide +kernel)⟩
theorem lw_p8 : lw_okq (⟨"KingsBalance", "pairRefusal", "(II)I"⟩, 7) := ⟨⟨by decide +kernel, by decide +kernel⟩, List.mem_of_getElem? (i := 22) (by decide +kernel), List.mem_of_getElem? (i := 507) (by decide +kernel), List.mem_of_getElem? (i := 508) (by decide +kernel)⟩
theorem lw_p9 : lw_okq (⟨"KingsBalance$Standing", "gains", "(LKingsBalance$Realm;II)Z"⟩, 2) := ⟨⟨by decide +kernel, by decide +kernel⟩, List.mem_of_getElem? (i := 489) (by decide +kernel), List.mem_of_getElem? (i := 603) (by decide +kernel), List.mem_of_getElem? (i := 604) (by decide +kernel)⟩
theorem lw_p10 : lw_okq (⟨"KingsBalance$Ways", "begin", "(LKingsBalance$Realm;)V"⟩, 3) := ⟨⟨by decide +kernel, by decide +kernel⟩, List.mem_of_getElem? (i := 183) (by decide +kernel), List.mem_of_getElem? (i := 678) (by decide +kernel), List.mem_of_getElem? (i := 679) (by decide +kernel)⟩
theorem lw_p11 : lw_okq (⟨"KingsBalance$Ways", "steady", "(LKingsBalance$Realm;)Z"⟩, 3) := ⟨⟨by decide +kernel, by decide +kernel⟩, List.mem_of_getElem? (i := 183) (by decide +kernel), List.mem_of_getElem? (i := 688) (by decide +kernel), List.mem_of_getElem? (i := 689) (by decide +kernel)⟩
theorem lw_p12 : lw_okq (⟨"KingsBalance$Ways", "highest", "([II)I"⟩, 3) := ⟨⟨by decide +kernel, by decide +kernel⟩, List.mem_of_getElem? (i := 183) (by decide +kernel), List.mem_of_getElem? (i := 692) (by decide +kernel), List.mem_of_getElem? (i := 693) (by decide +kernel)⟩
theorem lw_p13 : lw_okq (⟨"KingsBalance$Ways", "advance", "([I)Z"⟩, 3) := ⟨⟨by decide +kernel, by decide +kernel⟩, List.mem_of_getElem? (i := 183) (by decide +kernel), List.mem_of_getElem? (i := 702) (by decide +kernel), List.mem_of_getElem? (i := 703) (by decide +kernel)⟩
theorem lw_p14 : lw_okq (⟨"KingsBalance", "armedInRound", "(LKingsBalance$Standing;)Z"⟩, 7) := ⟨⟨by decide +kernel, by decide +kernel⟩, List.mem_of_getElem? (i := 22) (by decide +kernel), List.mem_of_getElem? (i := 769) (by decide +kernel), List.mem_of_getElem? (i := 770) (by decide +kernel)⟩
theorem lw_p15 : lw_okq (⟨"KingsBalance", "upsetBy", "(LKingsBalance$Standing;I)I"⟩, 7) := ⟨⟨by decide +kernel, by decide +kernel⟩, List.mem_of_getElem? (i := 22) (by decide +kernel), List.mem_of_getElem? (i := 777) (by decide +kernel), List.mem_of_getElem? (i := 778) (by decide +kernel)⟩
def lw_privs_1 : List (MethodName × Nat) := [(⟨"KingsBalance$World", "clause", "(LKingsBalance$Tape;)Z"⟩, 11), (⟨"KingsBalance$World", "priced", "(LKingsBalance$Tape;)Z"⟩, 11), (⟨"KingsBalance$World", "amount", "(LKingsBalance$Tape;Ljava/lang/String;)I"⟩, 11), (⟨"KingsBalance$World", "either", "(LKingsBalance$Tape;I)Z"⟩, 11), (⟨"KingsBalance$World", "both", "(LKingsBalance$Tape;I)Z"⟩, 11), (⟨"KingsBalance$World", "single", "(LKingsBalance$Tape;I)Z"⟩, 11), (⟨"KingsBalance$World", "test", "(LKingsBalance$Tape;)Z"⟩, 11), (⟨"KingsBalance$World", "step", "(III)V"⟩, 11), (⟨"KingsBalance", "pairRefusal", "(II)I"⟩, 7), (⟨"KingsBalance$Standing", "gains", "(LKingsBalance$Realm;II)Z"⟩, 2), (⟨"KingsBalance$Ways", "begin", "(LKingsBalance$Realm;)V"⟩, 3), (⟨"KingsBalance$Ways", "steady", "(LKingsBalance$Realm;)Z"⟩, 3), (⟨"KingsBalance$Ways", "highest", "([II)I"⟩, 3), (⟨"KingsBalance$Ways", "advance", "([I)Z"⟩, 3), (⟨"KingsBalance", "armedInRound", "(LKingsBalance$Standing;)Z"⟩, 7), (⟨"KingsBalance", "upsetBy", "(LKingsBalance$Standing;I)I"⟩, 7)]
theorem lw_r1 : ∀ q ∈ lw_privs_1, lw_okq q := List.forall_mem_cons.mpr ⟨lw_p0, List.forall_mem_cons.mpr ⟨lw_p1, List.forall_mem_cons.mpr ⟨lw_p2, List.forall_mem_cons.mpr ⟨lw_p3, List.forall_mem_cons.mpr ⟨lw_p4, List.forall_mem_cons.mpr ⟨lw_p5, List.forall_mem_cons.mpr ⟨lw_p6, List.forall_mem_cons.mpr ⟨lw_p7, List.forall_mem_cons.mpr ⟨lw_p8, List.forall_mem_cons.mpr ⟨lw_p9, List.forall_mem_cons.mpr ⟨lw_p10, List.forall_mem_cons.mpr ⟨lw_p11, List.forall_mem_cons.mpr ⟨lw_p12, List.forall_mem_cons.mpr ⟨lw_p13, List.forall_mem_cons.mpr ⟨lw_p14, List.forall_mem_cons.mpr ⟨lw_p15, fun _ h => absurd h List.not_mem_nil⟩⟩⟩⟩⟩⟩⟩⟩⟩⟩⟩⟩⟩⟩⟩⟩
theorem lw_p16 : lw_okq (⟨"KingsBalance", "married", "(LKingsBalance$Standing;IIZ)I"⟩, 7) := ⟨⟨by decide +kernel, by decide +kernel⟩, List.mem_of_getElem? (i := 22) (by decide +kernel), List.mem_of_getElem? (i := 789) (by decide +kernel), List.mem_of_getElem? (i := 790) (by decide +kernel)⟩
theorem lw_p17 : lw_okq (⟨"KingsBalanceModel", "isKing", "(I)Z"⟩, 32) := ⟨⟨by decide +kernel, by decide +kernel⟩, List.mem_of_getElem? (i := 911) (by decide +kernel), List.mem_of_getElem? (i := 1025) (by decide +kernel), List.mem_of_getElem? (i := 1026) (by decide +kernel)⟩
theorem lw_p18 : lw_okq (⟨"KingsBalanceModel", "isAlive", "(I)Z"⟩, 32) := ⟨⟨by decide +kernel, by decide +kernel⟩, List.mem_of_getElem? (i := 911) (by decide +kernel), List.mem_of_getElem? (i := 1033) (by decide +kernel), List.mem_of_getElem? (i := 1034) (by decide +kernel)⟩
theorem lw_p19 : lw_okq (⟨"KingsBalanceModel", "clause", "()V"⟩, 32) := ⟨⟨by decide +kernel, by decide +kernel⟩, List.mem_of_getElem? (i := 911) (by decide +kernel), List.mem_of_getElem? (i := 1054) (by decide +kernel), List.mem_of_getElem? (i := 1055) (by decide +kernel)⟩
theorem lw_p20 : lw_okq (⟨"KingsBalanceModel", "here", "()I"⟩, 32) := ⟨⟨by decide +kernel, by decide +kernel⟩, List.mem_of_getElem? (i := 911) (by decide +kernel), List.mem_of_getElem? (i := 1058) (by decide +kernel), List.mem_of_getElem? (i := 1059) (by decide +kernel)⟩
theorem lw_p21 : lw_okq (⟨"KingsBalanceModel", "spells", "(Ljava/lang/String;)V"⟩, 32) := ⟨⟨by decide +kernel, by decide +kernel⟩, List.mem_of_getElem? (i := 911) (by decide +kernel), List.mem_of_getElem? (i := 1063) (by decide +kernel), List.mem_of_getElem? (i := 1064) (by decide +kernel)⟩
theorem lw_p22 : lw_okq (⟨"KingsBalanceModel", "must", "(I)V"⟩, 32) := ⟨⟨by decide +kernel, by decide +kernel⟩, List.mem_of_getElem? (i := 911) (by decide +kernel), List.mem_of_getElem? (i := 1069) (by decide +kernel), List.mem_of_getElem? (i := 1070) (by decide +kernel)⟩
theorem lw_p23 : lw_okq (⟨"KingsBalanceModel", "figures", "()I"⟩, 32) := ⟨⟨by decide +kernel, by decide +kernel⟩, List.mem_of_getElem? (i := 911) (by decide +kernel), List.mem_of_getElem? (i := 1073) (by decide +kernel), List.mem_of_getElem? (i := 1074) (by decide +kernel)⟩
theorem lw_p24 : lw_okq (⟨"KingsBalanceModel", "some", "()V"⟩, 32) := ⟨⟨by decide +kernel, by decide +kernel⟩, List.mem_of_getElem? (i := 911) (by decide +kernel), List.mem_of_getElem? (i := 1077) (by decide +kernel), List.mem_of_getElem? (i := 1078) (by decide +kernel)⟩
theorem lw_p25 : lw_okq (⟨"KingsBalanceModel", "every", "()V"⟩, 32) := ⟨⟨by decide +kernel, by decide +kernel⟩, List.mem_of_getElem? (i := 911) (by decide +kernel), List.mem_of_getElem? (i := 1081) (by decide +kernel), List.mem_of_getElem? (i := 1082) (by decide +kernel)⟩
theorem lw_p26 : lw_okq (⟨"KingsBalanceModel", "factor", "()V"⟩, 32) := ⟨⟨by decide +kernel, by decide +kernel⟩, List.mem_of_getElem? (i := 911) (by decide +kernel), List.mem_of_getElem? (i := 1085) (by decide +kernel), List.mem_of_getElem? (i := 1086) (by decide +kernel)⟩
theorem lw_p27 : lw_okq (⟨"KingsBalanceModel", "emits", "(I)V"⟩, 32) := ⟨⟨by decide +kernel, by decide +kernel⟩, List.mem_of_getElem? (i := 911) (by decide +kernel), List.mem_of_getElem? (i := 1089) (by decide +kernel), List.mem_of_getElem? (i := 1090) (by decide +kernel)⟩
theorem lw_p28 : lw_okq (⟨"KingsBalanceModel", "tells", "(ILjava/lang/String;)V"⟩, 32) := ⟨⟨by decide +kernel, by decide +kernel⟩, List.mem_of_getElem? (i := 911) (by decide +kernel), List.mem_of_getElem? (i := 1094) (by decide +kernel), List.mem_of_getElem? (i := 1095) (by decide +kernel)⟩
theorem lw_p29 : lw_okq (⟨"KingsBalanceModel", "costOf", "(II)I"⟩, 32) := ⟨⟨by decide +kernel, by decide +kernel⟩, List.mem_of_getElem? (i := 911) (by decide +kernel), List.mem_of_getElem? (i := 1104) (by decide +kernel), List.mem_of_getElem? (i := 1105) (by decide +kernel)⟩
theorem lw_p30 : lw_okq (⟨"KingsBalanceModel", "forceOf", "(II)I"⟩, 32) := ⟨⟨by decide +kernel, by decide +kernel⟩, List.mem_of_getElem? (i := 911) (by decide +kernel), List.mem_of_getElem? (i := 1115) (by decide +kernel), List.mem_of_getElem? (i := 1116) (by decide +kernel)⟩
theorem lw_p31 : lw_okq (⟨"KingsBalanceModel", "isStanding", "(I)Z"⟩, 32) := ⟨⟨by decide +kernel, by decide +kernel⟩, List.mem_of_getElem? (i := 911) (by decide +kernel), List.mem_of_getElem? (i := 1127) (by decide +kernel), List.mem_of_getElem? (i := 1128) (by decide +kernel)⟩
def lw_privs_2 : List (MethodName × Nat) := [(⟨"KingsBalance", "married", "(LKingsBalance$Standing;IIZ)I"⟩, 7), (⟨"KingsBalanceModel", "isKing", "(I)Z"⟩, 32), (⟨"KingsBalanceModel", "isAlive", "(I)Z"⟩, 32), (⟨"KingsBalanceModel", "clause", "()V"⟩, 32), (⟨"KingsBalanceModel", "here", "()I"⟩, 32), (⟨"KingsBalanceModel", "spells", "(Ljava/lang/String;)V"⟩, 32), (⟨"KingsBalanceModel", "must", "(I)V"⟩, 32), (⟨"KingsBalanceModel", "figures", "()I"⟩, 32), (⟨"KingsBalanceModel", "some", "()V"⟩, 32), (⟨"KingsBalanceModel", "every", "()V"⟩, 32), (⟨"KingsBalanceModel", "factor", "()V"⟩, 32), (⟨"KingsBalanceModel", "emits", "(I)V"⟩, 32), (⟨"KingsBalanceModel", "tells", "(ILjava/lang/String;)V"⟩, 32), (⟨"KingsBalanceModel", "costOf", "(II)I"⟩, 32), (⟨"KingsBalanceModel", "forceOf", "(II)I"⟩, 32), (⟨"KingsBalanceModel", "isStanding", "(I)Z"⟩, 32)]
theorem lw_r2 : ∀ q ∈ lw_privs_2, lw_okq q := List.forall_mem_cons.mpr ⟨lw_p16, List.forall_mem_cons.mpr ⟨lw_p17, List.forall_mem_cons.mpr ⟨lw_p18, List.forall_mem_cons.mpr ⟨lw_p19, List.forall_mem_cons.mpr ⟨lw_p20, List.forall_mem_cons.mpr ⟨lw_p21, List.forall_mem_cons.mpr ⟨lw_p22, List.forall_mem_cons.mpr ⟨lw_p23, List.forall_mem_cons.mpr ⟨lw_p24, List.forall_mem_cons.mpr ⟨lw_p25, List.forall_mem_cons.mpr ⟨lw_p26, List.forall_mem_cons.mpr ⟨lw_p27, List.forall_mem_cons.mpr ⟨lw_p28, List.forall_mem_cons.mpr ⟨lw_p29, List.forall_mem_cons.mpr ⟨lw_p30, List.forall_mem_cons.mpr ⟨lw_p31, fun _ h => absurd h List.not_mem_nil⟩⟩⟩⟩⟩⟩⟩⟩⟩⟩⟩⟩⟩⟩⟩⟩
theorem lw_p32 : lw_okq (⟨"KingsBalanceModel", "takes", "(I)V"⟩, 32) := ⟨⟨by decide +kernel, by decide +kernel⟩, List.mem_of_getElem? (i := 911) (by decide +kernel), List.mem_of_getElem? (i := 1135) (by decide +kernel), List.mem_of_getElem? (i := 1136) (by decide +kernel)⟩
theorem lw_p33 : lw_okq (⟨"KingsBalanceModel", "comesTo", "(II)V"⟩, 32) := ⟨⟨by decide +kernel, by decide +kernel⟩, List.mem_of_getElem? (i := 911) (by decide +kernel), List.mem_of_getElem? (i := 1139) (by decide +kernel), List.mem_of_getElem? (i := 1140) (by decide +kernel)⟩
theorem lw_p34 : lw_okq (⟨"KingsBalanceModel", "alive", "()I"⟩, 32) := ⟨⟨by decide +kernel, by decide +kernel⟩, List.mem_of_getElem? (i := 911) (by decide +kernel), List.mem_of_getElem? (i := 1143) (by decide +kernel), List.mem_of_getElem? (i := 1144) (by decide +kernel)⟩
theorem lw_p35 : lw_okq (⟨"KingsBalanceModel", "sides", "(II)V"⟩, 32) := ⟨⟨by decide +kernel, by decide +kernel⟩, List.mem_of_getElem? (i := 911) (by decide +kernel), List.mem_of_getElem? (i := 1147) (by decide +kernel), List.mem_of_getElem? (i := 1148) (by decide +kernel)⟩
theorem lw_p36 : lw_okq (⟨"KingsBalanceModel", "blockOf", "(I)I"⟩, 32) := ⟨⟨by decide +kernel, by decide +kernel⟩, List.mem_of_getElem? (i := 911) (by decide +kernel), List.mem_of_getElem? (i := 1151) (by decide +kernel), List.mem_of_getElem? (i := 1152) (by decide +kernel)⟩
theorem lw_p37 : lw_okq (⟨"KingsBalanceModel", "strengths", "(I)I"⟩, 32) := ⟨⟨by decide +kernel, by decide +kernel⟩, List.mem_of_getElem? (i := 911) (by decide +kernel), List.mem_of_getElem? (i := 1155) (by decide +kernel), List.mem_of_getElem? (i := 1156) (by decide +kernel)⟩
theorem lw_p38 : lw_okq (⟨"KingsBalanceModel", "web", "(II)V"⟩, 32) := ⟨⟨by decide +kernel, by decide +kernel⟩, List.mem_of_getElem? (i := 911) (by decide +kernel), List.mem_of_getElem? (i := 1159) (by decide +kernel), List.mem_of_getElem? (i := 1160) (by decide +kernel)⟩
theorem lw_p39 : lw_okq (⟨"KingsBalanceModel", "pactOf", "(II)I"⟩, 32) := ⟨⟨by decide +kernel, by decide +kernel⟩, List.mem_of_getElem? (i := 911) (by decide +kernel), List.mem_of_getElem? (i := 1163) (by decide +kernel), List.mem_of_getElem? (i := 1164) (by decide +kernel)⟩
theorem lw_p40 : lw_okq (⟨"KingsBalanceModel", "isTrue", "(II)Z"⟩, 32) := ⟨⟨by decide +kernel, by decide +kernel⟩, List.mem_of_getElem? (i := 911) (by decide +kernel), List.mem_of_getElem? (i := 1167) (by decide +kernel), List.mem_of_getElem? (i := 1168) (by decide +kernel)⟩
theorem lw_p41 : lw_okq (⟨"KingsBalanceModel", "gainOf", "(II)I"⟩, 32) := ⟨⟨by decide +kernel, by decide +kernel⟩, List.mem_of_getElem? (i := 911) (by decide +kernel), List.mem_of_getElem? (i := 1176) (by decide +kernel), List.mem_of_getElem? (i := 1177) (by decide +kernel)⟩
theorem lw_p42 : lw_okq (⟨"KingsBalanceModel", "sums", "(II)V"⟩, 32) := ⟨⟨by decide +kernel, by decide +kernel⟩, List.mem_of_getElem? (i := 911) (by decide +kernel), List.mem_of_getElem? (i := 1180) (by decide +kernel), List.mem_of_getElem? (i := 1181) (by decide +kernel)⟩
theorem lw_p43 : lw_okq (⟨"KingsBalanceModel", "darers", "(I)I"⟩, 32) := ⟨⟨by decide +kernel, by decide +kernel⟩, List.mem_of_getElem? (i := 911) (by decide +kernel), List.mem_of_getElem? (i := 1188) (by decide +kernel), List.mem_of_getElem? (i := 1189) (by decide +kernel)⟩
theorem lw_p44 : lw_okq (⟨"KingsBalanceModel", "doesDare", "(II)Z"⟩, 32) := ⟨⟨by decide +kernel, by decide +kernel⟩, List.mem_of_getElem? (i := 911) (by decide +kernel), List.mem_of_getElem? (i := 1192) (by decide +kernel), List.mem_of_getElem? (i := 1193) (by decide +kernel)⟩
theorem lw_p45 : lw_okq (⟨"KingsBalanceModel", "firstWar", "()I"⟩, 32) := ⟨⟨by decide +kernel, by decide +kernel⟩, List.mem_of_getElem? (i := 911) (by decide +kernel), List.mem_of_getElem? (i := 1200) (by decide +kernel), List.mem_of_getElem? (i := 1201) (by decide +kernel)⟩
theorem lw_p46 : lw_okq (⟨"KingsBalanceModel", "doesKeep", "(III)Z"⟩, 32) := ⟨⟨by decide +kernel, by decide +kernel⟩, List.mem_of_getElem? (i := 911) (by decide +kernel), List.mem_of_getElem? (i := 1208) (by decide +kernel), List.mem_of_getElem? (i := 1209) (by decide +kernel)⟩
theorem lw_p47 : lw_okq (⟨"KingsBalanceModel", "partsAll", "(IIZ)V"⟩, 32) := ⟨⟨by decide +kernel, by decide +kernel⟩, List.mem_of_getElem? (i := 911) (by decide +kernel), List.mem_of_getElem? (i := 1223) (by decide +kernel), List.mem_of_getElem? (i := 1224) (by decide +kernel)⟩
def lw_privs_3 : List (MethodName × Nat) := [(⟨"KingsBalanceModel", "takes", "(I)V"⟩, 32), (⟨"KingsBalanceModel", "comesTo", "(II)V"⟩, 32), (⟨"KingsBalanceModel", "alive", "()I"⟩, 32), (⟨"KingsBalanceModel", "sides", "(II)V"⟩, 32), (⟨"KingsBalanceModel", "blockOf", "(I)I"⟩, 32), (⟨"KingsBalanceModel", "strengths", "(I)I"⟩, 32), (⟨"KingsBalanceModel", "web", "(II)V"⟩, 32), (⟨"KingsBalanceModel", "pactOf", "(II)I"⟩, 32), (⟨"KingsBalanceModel", "isTrue", "(II)Z"⟩, 32), (⟨"KingsBalanceModel", "gainOf", "(II)I"⟩, 32), (⟨"KingsBalanceModel", "sums", "(II)V"⟩, 32), (⟨"KingsBalanceModel", "darers", "(I)I"⟩, 32), (⟨"KingsBalanceModel", "doesDare", "(II)Z"⟩, 32), (⟨"KingsBalanceModel", "firstWar", "()I"⟩, 32), (⟨"KingsBalanceModel", "doesKeep", "(III)Z"⟩, 32), (⟨"KingsBalanceModel", "partsAll", "(IIZ)V"⟩, 32)]
theorem lw_r3 : ∀ q ∈ lw_privs_3, lw_okq q := List.forall_mem_cons.mpr ⟨lw_p32, List.forall_mem_cons.mpr ⟨lw_p33, List.forall_mem_cons.mpr ⟨lw_p34, List.forall_mem_cons.mpr ⟨lw_p35, List.forall_mem_cons.mpr ⟨lw_p36, List.forall_mem_cons.mpr ⟨lw_p37, List.forall_mem_cons.mpr ⟨lw_p38, List.forall_mem_cons.mpr ⟨lw_p39, List.forall_mem_cons.mpr ⟨lw_p40, List.forall_mem_cons.mpr ⟨lw_p41, List.forall_mem_cons.mpr ⟨lw_p42, List.forall_mem_cons.mpr ⟨lw_p43, List.forall_mem_cons.mpr ⟨lw_p44, List.forall_mem_cons.mpr ⟨lw_p45, List.forall_mem_cons.mpr ⟨lw_p46, List.forall_mem_cons.mpr ⟨lw_p47, fun _ h => absurd h List.not_mem_nil⟩⟩⟩⟩⟩⟩⟩⟩⟩⟩⟩⟩⟩⟩⟩⟩
theorem lw_p48 : lw_okq (⟨"KingsBalanceModel", "parts", "(II)V"⟩, 32) := ⟨⟨by decide +kernel, by decide +kernel⟩, List.mem_of_getElem? (i := 911) (by decide +kernel), List.mem_of_getElem? (i := 1227) (by decide +kernel), List.mem_of_getElem? (i := 1228) (by decide +kernel)⟩
theorem lw_p49 : lw_okq (⟨"KingsBalanceModel", "wouldHold", "(I)Z"⟩, 32) := ⟨⟨by decide +kernel, by decide +kernel⟩, List.mem_of_getElem? (i := 911) (by decide +kernel), List.mem_of_getElem? (i := 1231) (by decide +kernel), List.mem_of_getElem? (i := 1232) (by decide +kernel)⟩
theorem lw_p50 : lw_okq (⟨"KingsBalanceModel", "doesDareAny", "(I)Z"⟩, 32) := ⟨⟨by decide +kernel, by decide +kernel⟩, List.mem_of_getElem? (i := 911) (by decide +kernel), List.mem_of_getElem? (i := 1235) (by decide +kernel), List.mem_of_getElem? (i := 1236) (by decide +kernel)⟩
theorem lw_p51 : lw_okq (⟨"KingsBalanceModel", "leads", "(II)I"⟩, 32) := ⟨⟨by decide +kernel, by decide +kernel⟩, List.mem_of_getElem? (i := 911) (by decide +kernel), List.mem_of_getElem? (i := 1247) (by decide +kernel), List.mem_of_getElem? (i := 1248) (by decide +kernel)⟩
theorem lw_p52 : lw_okq (⟨"KingsBalanceModel", "turnsOf", "(I)I"⟩, 32) := ⟨⟨by decide +kernel, by decide +kernel⟩, List.mem_of_getElem? (i := 911) (by decide +kernel), List.mem_of_getElem? (i := 1260) (by decide +kernel), List.mem_of_getElem? (i := 1261) (by decide +kernel)⟩
theorem lw_p53 : lw_okq (⟨"KingsBalanceModel", "isQuietWith", "(II)Z"⟩, 32) := ⟨⟨by decide +kernel, by decide +kernel⟩, List.mem_of_getElem? (i := 911) (by decide +kernel), List.mem_of_getElem? (i := 1276) (by decide +kernel), List.mem_of_getElem? (i := 1277) (by decide +kernel)⟩
theorem lw_p54 : lw_okq (⟨"KingsBalanceModel", "comesActs", "(I)I"⟩, 32) := ⟨⟨by decide +kernel, by decide +kernel⟩, List.mem_of_getElem? (i := 911) (by decide +kernel), List.mem_of_getElem? (i := 1292) (by decide +kernel), List.mem_of_getElem? (i := 1293) (by decide +kernel)⟩
theorem lw_p55 : lw_okq (⟨"KingsBalanceModel", "runs", "(I)V"⟩, 32) := ⟨⟨by decide +kernel, by decide +kernel⟩, List.mem_of_getElem? (i := 911) (by decide +kernel), List.mem_of_getElem? (i := 1296) (by decide +kernel), List.mem_of_getElem? (i := 1297) (by decide +kernel)⟩
theorem lw_p56 : lw_okq (⟨"KingsBalanceModel", "plainComes", "(I)I"⟩, 32) := ⟨⟨by decide +kernel, by decide +kernel⟩, List.mem_of_getElem? (i := 911) (by decide +kernel), List.mem_of_getElem? (i := 1300) (by decide +kernel), List.mem_of_getElem? (i := 1301) (by decide +kernel)⟩
theorem lw_p57 : lw_okq (⟨"KingsBalanceModel", "daresActs", "(I)I"⟩, 32) := ⟨⟨by decide +kernel, by decide +kernel⟩, List.mem_of_getElem? (i := 911) (by decide +kernel), List.mem_of_getElem? (i := 1307) (by decide +kernel), List.mem_of_getElem? (i := 1308) (by decide +kernel)⟩
theorem lw_p58 : lw_okq (⟨"KingsBalanceModel", "plainDares", "(I)I"⟩, 32) := ⟨⟨by decide +kernel, by decide +kernel⟩, List.mem_of_getElem? (i := 911) (by decide +kernel), List.mem_of_getElem? (i := 1311) (by decide +kernel), List.mem_of_getElem? (i := 1312) (by decide +kernel)⟩
theorem lw_p59 : lw_okq (⟨"KingsBalanceModel", "holdsActs", "(I)I"⟩, 32) := ⟨⟨by decide +kernel, by decide +kernel⟩, List.mem_of_getElem? (i := 911) (by decide +kernel), List.mem_of_getElem? (i := 1315) (by decide +kernel), List.mem_of_getElem? (i := 1316) (by decide +kernel)⟩
theorem lw_p60 : lw_okq (⟨"KingsBalanceModel", "plainHolds", "(I)I"⟩, 32) := ⟨⟨by decide +kernel, by decide +kernel⟩, List.mem_of_getElem? (i := 911) (by decide +kernel), List.mem_of_getElem? (i := 1319) (by decide +kernel), List.mem_of_getElem? (i := 1320) (by decide +kernel)⟩
def lw_privs_4 : List (MethodName × Nat) := [(⟨"KingsBalanceModel", "parts", "(II)V"⟩, 32), (⟨"KingsBalanceModel", "wouldHold", "(I)Z"⟩, 32), (⟨"KingsBalanceModel", "doesDareAny", "(I)Z"⟩, 32), (⟨"KingsBalanceModel", "leads", "(II)I"⟩, 32), (⟨"KingsBalanceModel", "turnsOf", "(I)I"⟩, 32), (⟨"KingsBalanceModel", "isQuietWith", "(II)Z"⟩, 32), (⟨"KingsBalanceModel", "comesActs", "(I)I"⟩, 32), (⟨"KingsBalanceModel", "runs", "(I)V"⟩, 32), (⟨"KingsBalanceModel", "plainComes", "(I)I"⟩, 32), (⟨"KingsBalanceModel", "daresActs", "(I)I"⟩, 32), (⟨"KingsBalanceModel", "plainDares", "(I)I"⟩, 32), (⟨"KingsBalanceModel", "holdsActs", "(I)I"⟩, 32), (⟨"KingsBalanceModel", "plainHolds", "(I)I"⟩, 32)]
theorem lw_r4 : ∀ q ∈ lw_privs_4, lw_okq q := List.forall_mem_cons.mpr ⟨lw_p48, List.forall_mem_cons.mpr ⟨lw_p49, List.forall_mem_cons.mpr ⟨lw_p50, List.forall_mem_cons.mpr ⟨lw_p51, List.forall_mem_cons.mpr ⟨lw_p52, List.forall_mem_cons.mpr ⟨lw_p53, List.forall_mem_cons.mpr ⟨lw_p54, List.forall_mem_cons.mpr ⟨lw_p55, List.forall_mem_cons.mpr ⟨lw_p56, List.forall_mem_cons.mpr ⟨lw_p57, List.forall_mem_cons.mpr ⟨lw_p58, List.forall_mem_cons.mpr ⟨lw_p59, List.forall_mem_cons.mpr ⟨lw_p60, fun _ h => absurd h List.not_mem_nil⟩⟩⟩⟩⟩⟩⟩⟩⟩⟩⟩⟩⟩
def lw_privs : List (MethodName × Nat) := lw_privs_1 ++ (lw_privs_2 ++ (lw_privs_3 ++ (lw_privs_4)))
def lw_tbl : List Cond := k2_sels lw_privs ++ tables_1
theorem lw_privs_ok : ∀ q ∈ lw_privs, lw_okq q := by
  show ∀ q ∈ lw_privs_1 ++ (lw_privs_2 ++ (lw_privs_3 ++ (lw_privs_4))), lw_okq q
  exact List.forall_mem_append.mpr ⟨lw_r1, List.forall_mem_append.mpr ⟨lw_r2, List.forall_mem_append.mpr ⟨lw_r3, lw_r4⟩⟩⟩

/-! ===== BEGIN new T[n][m]: the outer array a place, the inner ones among the pooled ===== -/
/-- f, but v at every address of l -/
def vr_up {α : Type} (f : Nat → α) (l : List Nat) (v : α) : Nat → α := fun a => if a ∈ l then v else f a
theorem vr_up_in {α : Type} {f : Nat → α} {l : List Nat} {v : α} {a : Nat} (h : a ∈ l) : vr_up f l v a = v := if_pos h
theorem vr_up_ne {α : Type} {f : Nat → α} {l : List Nat} {v : α} {a : Nat} (h : a ∉ l) : vr_up f l v a = f a := if_neg h
theorem vr_rows {L l : List Nat} {f : Nat → va_E} {e : va_E} (h : ∀ a, a ∈ l → a ∉ L) : va_pl L f ++ l.map (fun a => (a, e)) = va_pl (L ++ l) (vr_up f l e) := by
  unfold va_pl
  rw [List.map_append]
  congr 1
  · apply List.map_congr_left
    intro a ha
    rw [vr_up_ne (fun q => h a q ha)]
  · apply List.map_congr_left
    intro a ha
    rw [vr_up_in ha]
theorem vr_lay {X rows : va_W} {x : Nat × va_E} {pl : va_W} {D : va_G} {cl : List vw_C} {H : Heap} (hP : va_P D cl (((X ++ pl) ++ [x]) ++ rows) H) : va_P D cl ((X ++ [x]) ++ (pl ++ rows)) H := by
  rw [List.append_assoc (X ++ pl)] at hP
  have h := va_P.swap hP
  rw [← List.append_assoc X] at h
  have h2 := va_P.swap h
  rw [List.append_assoc (X ++ [x])] at h2
  exact h2
theorem vr_layD {X rows : va_W} {x : Nat × va_E} {pl : va_W} {A : Nat → Prop} (hD : va_D A (((X ++ pl) ++ [x]) ++ rows)) : va_D A ((X ++ [x]) ++ (pl ++ rows)) := by
  rw [List.append_assoc (X ++ pl)] at hD
  have h := va_D.swap hD
  rw [← List.append_assoc X] at h
  have h2 := va_D.swap h
  rw [List.append_assoc (X ++ [x])] at h2
  exact h2
theorem vr_outer (c : ClassId) (N h0 : Nat) : ∀ i : Nat, Jvm.Free.Multi.outerC c N h0 i = arrV c N (fun j => va_rf (if j < i then some (h0 + 1 + j) else none))
  | 0 => by
    show ({ cls := c, slots := Array.replicate N .null, vm := .none } : Cell) = _
    rw [arrV_new]
    refine congrArg (arrV c N) (funext fun j => ?_)
    simp [va_rf]
  | i + 1 => by
    show (Jvm.Free.Multi.outerC c N h0 i).setSlot i (.ref (h0 + 1 + i)) = _
    rw [vr_outer c N h0 i, arrV_store]
    refine congrArg (arrV c N) (funext fun j => ?_)
    by_cases e : j = i
    · subst e
      simp [updV, va_rf]
    · by_cases h : j < i
      · simp [updV, e, h, Nat.lt_succ_of_lt h]
      · simp [updV, e, h, show ¬ j < i + 1 by omega]
section VGM
variable {p : Program} {l : Launch} {e : Env} {R : Room} {s : State} {m : MethodId} {args : Array Value} {below : List Frame} {meth : Method} {c : Code} {H : Heap} {locs : List Loc} {cells slots : Nat} {Q : State → Prop}
variable {cc : ByteArray} {pc : Nat} {ls : Array Slot} {rest : List Value} {D : va_G} {cl : List vw_C} {A : Nat → Prop} {a : Nat} {tys : List (ClassId × FieldType)} {ws : va_W} {H0 : Heap}
theorem va_mna {X : va_W} {L : List Nat} {f : Nat → va_E} {cc : ByteArray} (hexec : p.tables.exec = Jvm.exec) (hb : c.code = cc) {own : String} {index : Nat} {ty : FieldType} {cy : ClassId} (hown : s.vm.findClass own = some m.cls) (hclink : (Cond.classLink own index ("[" ++ (FieldType.array ty).toString)).before args s = true) (hover : va_AOA ty s) (harr : (Cond.arrayClass ty).before args s = true) (hcy : s.vm.findClass (FieldType.array ty).toString = some cy)
    (hK : va_K D cl tys s) (hP : va_P D cl (X ++ va_pl L f) H) (hD : va_D A (X ++ va_pl L f)) (hS : va_S A H0 H locs) (hA : ∀ q, H0.size ≤ q → A q) {n k : Int32} {N' K' : Nat} {z : vp_A} (hn : ¬ n < 0) (hk : ¬ k < 0) (hN : n.toNatClampNeg = N') (hM : k.toNatClampNeg = K')
    (hb1 : N' * 4 ≤ 536870912) (hb2 : K' * componentBytes ty ≤ 536870912) (hb3 : K' ≤ 536870912) (hdf : fits ty (defaultValue ty) = true) (hdd : (defaultValue ty).isDefault = true) (hcells : cells + (1 + N') ≤ R.cells) (hslots : slots + (N' + N' * K') ≤ R.slots) (hz : ∀ c : ClassId, Jvm.Free.Multi.innerC c K' (defaultValue ty) = vp_cell c z) (hdg : decode cc pc = .ok (.multianewarray index 2, 4))
    (kk : ∀ (q : Nat) (r : Nat → Nat) (cA : ClassId) (H1 : Heap), (∀ i j : Nat, i < N' → j < N' → r i = r j → i = j) → (∀ i : Nat, i < N' → r i ∉ L) → va_K D cl (tys ++ [(cA, .array ty)]) s →
      va_P D cl ((X ++ [(q, .inl (cA, N', .inr (.inr (.inr (.inr (fun i => if i < N' then some (r i) else none))))))]) ++ va_pl (L ++ (List.range N').map r) (vr_up f ((List.range N').map r) (.inl (cy, z)))) H1 → va_D A ((X ++ [(q, .inl (cA, N', .inr (.inr (.inr (.inr (fun i => if i < N' then some (r i) else none))))))]) ++ va_pl (L ++ (List.range N').map r) (vr_up f ((List.range N').map r) (.inl (cy, z)))) → va_S A H0 H1 locs →
      W p l e R s m args below meth c H1 locs (cells + 1 + N') (slots + N' + N' * K') Q (F0 m (pc + 4) ls (.ref q :: rest))) : W p l e R s m args below meth c H locs cells slots Q (F0 m pc ls (.int k :: .int n :: rest)) := by
  subst hN
  subst hM
  intro T hT Xs
  obtain ⟨vm₁, cA, comp, -, fA, fC, hO, -, X', step⟩ := Xs.multianewarray2F hexec hown hclink (va_AOA.use hover) harr (g := F0 m pc ls (.int k :: .int n :: rest)) rfl (by rw [hb]; exact hdg) rfl hn hk hb1 hb2 hb3 hdf hdd hcells hslots
  have ec : some cy = some comp := hcy.symm.trans fC
  cases ec
  generalize hF : Jvm.Free.Multi.fill (T.setVm vm₁) cA cy n.toNatClampNeg k.toNatClampNeg (defaultValue ty) n.toNatClampNeg = F at X' step
  have hTh : (T.setVm vm₁).heap = H := hT
  obtain ⟨f1, f2, -, -⟩ := Jvm.Free.Multi.fill_facts (T.setVm vm₁) cA cy n.toNatClampNeg k.toNatClampNeg (defaultValue ty) n.toNatClampNeg
  rw [hF, hTh] at f1 f2
  have hold : ∀ x : Nat, x < H.size → F.heap[x]? = H[x]? := fun x hx => by
    have := Jvm.Free.Multi.fill_old (T.setVm vm₁) cA cy n.toNatClampNeg k.toNatClampNeg (defaultValue ty) (a := x) (by rw [hTh]; exact hx) n.toNatClampNeg
    rw [hF, hTh] at this
    exact this
  have hrow : ∀ j : Nat, j < n.toNatClampNeg → F.heap[H.size + 1 + j]? = some (vp_cell cy z) := fun j hj => by
    have := Jvm.Free.Multi.fill_inner (T.setVm vm₁) cA cy n.toNatClampNeg k.toNatClampNeg (defaultValue ty) n.toNatClampNeg j hj
    rw [hF, hTh, hz] at this
    exact this
  have hout : Jvm.Free.Multi.outerC cA n.toNatClampNeg H.size n.toNatClampNeg = vp_cell cA (n.toNatClampNeg, .inr (.inr (.inr (.inr (fun i => if i < n.toNatClampNeg then some (H.size + 1 + i) else none))))) := by
    rw [vp_cell_q]
    exact vr_outer cA n.toNatClampNeg H.size n.toNatClampNeg
  rw [hout] at f2
  have hlt : ∀ a, a ∈ L → a < H.size := fun a ha => by
    obtain ⟨k9, hk9⟩ := va_pl_get (X := X) (f := f) ha
    exact (hP k9 _ hk9).lt
  have hnl : ∀ i : Nat, i < n.toNatClampNeg → H.size + 1 + i ∉ L := fun i _ h => by
    have := hlt _ h
    omega
  have hnm : ∀ a, a ∈ (List.range n.toNatClampNeg).map (fun i => H.size + 1 + i) → a ∉ L := fun a ha h => by
    obtain ⟨i, -, rfl⟩ := List.mem_map.mp ha
    have := hlt _ h
    omega
  have hP0 : va_P D cl (X ++ va_pl L f) F.heap := hP.kept (fun k9 x hx => hold x.1 ((hP k9 x hx).lt))
  have hP1 : va_P D cl ((X ++ va_pl L f) ++ [(H.size, .inl (cA, n.toNatClampNeg, .inr (.inr (.inr (.inr (fun i => if i < n.toNatClampNeg then some (H.size + 1 + i) else none))))))]) F.heap := hP0.app (fun k9 x hx => by
    have h0 : k9 < 1 := (List.getElem?_eq_some_iff.mp hx).1
    rw [show k9 = 0 by omega] at hx
    cases hx
    exact f2)
  have hP2 : va_P D cl (((X ++ va_pl L f) ++ [(H.size, .inl (cA, n.toNatClampNeg, .inr (.inr (.inr (.inr (fun i => if i < n.toNatClampNeg then some (H.size + 1 + i) else none))))))]) ++ ((List.range n.toNatClampNeg).map (fun i => H.size + 1 + i)).map (fun a => (a, .inl (cy, z)))) F.heap := hP1.app (fun k9 x hx => by
    obtain ⟨a, ha, rfl⟩ := List.mem_map.mp (List.mem_of_getElem? hx)
    obtain ⟨i, hi, rfl⟩ := List.mem_map.mp ha
    exact hrow i (List.mem_range.mp hi))
  have hD2 : va_D A (((X ++ va_pl L f) ++ [(H.size, .inl (cA, n.toNatClampNeg, .inr (.inr (.inr (.inr (fun i => if i < n.toNatClampNeg then some (H.size + 1 + i) else none))))))]) ++ ((List.range n.toNatClampNeg).map (fun i => H.size + 1 + i)).map (fun a => (a, .inl (cy, z)))) := by
    have hD1 := hD.push (e := .inl (cA, n.toNatClampNeg, .inr (.inr (.inr (.inr (fun i => if i < n.toNatClampNeg then some (H.size + 1 + i) else none)))))) hP rfl (hA _ hS.1)
    generalize hW1 : (X ++ va_pl L f) ++ [(H.size, .inl (cA, n.toNatClampNeg, .inr (.inr (.inr (.inr (fun i => if i < n.toNatClampNeg then some (H.size + 1 + i) else none))))))] = W1 at hD1 hP1 ⊢
    have hle : ∀ (k9 : Nat) (x : Nat × va_E), W1[k9]? = some x → x.1 ≤ H.size := fun k9 x hx => by
      rw [← hW1] at hx
      by_cases hl : k9 < (X ++ va_pl L f).length
      · rw [List.getElem?_append_left hl] at hx
        exact Nat.le_of_lt ((hP k9 x hx).lt)
      · rw [List.getElem?_append_right (by omega)] at hx
        have h0 : k9 - (X ++ va_pl L f).length < 1 := (List.getElem?_eq_some_iff.mp hx).1
        rw [show k9 - (X ++ va_pl L f).length = 0 by omega] at hx
        cases hx
        exact Nat.le_refl _
    have hr : ∀ (k9 : Nat) (x : Nat × va_E), (((List.range n.toNatClampNeg).map (fun i => H.size + 1 + i)).map (fun a => ((a, .inl (cy, z)) : Nat × va_E)))[k9]? = some x → x.1 = H.size + 1 + k9 := fun k9 x hx => by
      rw [List.getElem?_map, List.getElem?_map] at hx
      by_cases h9 : k9 < n.toNatClampNeg
      · rw [List.getElem?_range h9] at hx
        cases hx
        rfl
      · have hn0 : (List.range n.toNatClampNeg)[k9]? = none := List.getElem?_eq_none (by rw [List.length_range]; omega)
        rw [hn0] at hx
        cases hx
    refine ⟨fun i j x y hi hj hxy => ?_, fun k9 x hx => ?_⟩
    · by_cases h1 : i < W1.length <;> by_cases h2 : j < W1.length
      · rw [List.getElem?_append_left h1] at hi
        rw [List.getElem?_append_left h2] at hj
        exact hD1.1 i j x y hi hj hxy
      · rw [List.getElem?_append_left h1] at hi
        rw [List.getElem?_append_right (by omega)] at hj
        have := hle _ _ hi
        have := hr _ _ hj
        omega
      · rw [List.getElem?_append_right (by omega)] at hi
        rw [List.getElem?_append_left h2] at hj
        have := hle _ _ hj
        have := hr _ _ hi
        omega
      · rw [List.getElem?_append_right (by omega)] at hi hj
        have := hr _ _ hi
        have := hr _ _ hj
        omega
    · by_cases h1 : k9 < W1.length
      · rw [List.getElem?_append_left h1] at hx
        exact hD1.2 k9 x hx
      · rw [List.getElem?_append_right (by omega)] at hx
        have := hr _ _ hx
        exact hA _ (by have := hS.1; omega)
  have hAr : ArrOfT s cA (.array ty) := fun N9 z9 => by
    obtain ⟨-, k9, hk9, cm9, hkk9⟩ := (hO 0 0 0).1
    exact ⟨(fun q hq => by cases hq), k9, hk9, cm9, hkk9⟩
  have hK2 : va_K D cl (tys ++ [(cA, .array ty)]) s := ⟨hK.1, fun k9 x hx => by
    by_cases hl : k9 < tys.length
    · rw [List.getElem?_append_left hl] at hx
      exact hK.2 k9 x hx
    · rw [List.getElem?_append_right (by omega)] at hx
      have h0 : k9 - tys.length < 1 := (List.getElem?_eq_some_iff.mp hx).1
      rw [show k9 - tys.length = 0 by omega] at hx
      cases hx
      exact ⟨hAr, fA⟩⟩
  obtain ⟨t, a1, b1⟩ := kk H.size (fun i => H.size + 1 + i) cA F.heap (fun i j _ _ h => by have h9 : H.size + 1 + i = H.size + 1 + j := h; omega) hnl hK2 (by rw [← vr_rows hnm]; exact vr_lay hP2) (by rw [← vr_rows hnm]; exact vr_layD hD2) ⟨by rw [f1]; have := hS.1; omega, fun x h1 h2 => (hold x (Nat.lt_of_lt_of_le h1 hS.1)).trans (hS.2.1 x h1 h2), hS.2.2⟩ F rfl X'
  refine ⟨t, step t ?_, b1⟩
  have e : T.heap.size = H.size := by rw [hT]
  rw [e]
  exact a1
end VGM
/-! ===== END ===== -/

/-! ===== BEGIN printed: names, fields, word lists, decode rows ===== -/
def RX0 : String := "KingsBalance$Alone"
def TX0 : u_T := fun k => match k with
  | 0 => ("KingsBalance$Standing", "number", "I", true)
  | _ => ("KingsBalance$Standing", "v", "I", true)
def tyX0 : Nat → FieldType := fun k => match k with
  | 0 => .int
  | _ => .int
abbrev wsX00 : List Cond := u_ws RX0 TX0 2
theorem nmX0 : ∀ a, a < 2 → ∀ b, b < 2 → a ≠ b → (TX0 a).2.1 ≠ (TX0 b).2.1 := by decide +kernel
theorem tyX0_ok : ∀ k, k < 2 → parseFieldDescriptor (TX0 k).2.2.1 = some (tyX0 k) := by decide +kernel
abbrev cX0_init : ByteArray := prog_2_method_1_code
def yX0_init : MethodName := ⟨RX0, "<init>", "(II)V"⟩
abbrev cX0_camps : ByteArray := prog_2_method_2_code
def yX0_camps : MethodName := ⟨RX0, "camps", "(LKingsBalance$Realm;II)I"⟩
abbrev cX0_daresAct : ByteArray := prog_2_method_3_code
def yX0_daresAct : MethodName := ⟨RX0, "daresAct", "([II)I"⟩
def RX1 : String := "KingsBalance$Guard"
def TX1 : u_T := fun k => match k with
  | 0 => ("KingsBalance$Standing", "number", "I", true)
  | _ => ("KingsBalance$Standing", "v", "I", true)
def tyX1 : Nat → FieldType := fun k => match k with
  | 0 => .int
  | _ => .int
abbrev wsX10 : List Cond := u_ws RX1 TX1 2
theorem nmX1 : ∀ a, a < 2 → ∀ b, b < 2 → a ≠ b → (TX1 a).2.1 ≠ (TX1 b).2.1 := by decide +kernel
theorem tyX1_ok : ∀ k, k < 2 → parseFieldDescriptor (TX1 k).2.2.1 = some (tyX1 k) := by decide +kernel
abbrev cX1_init : ByteArray := prog_3_method_1_code
def yX1_init : MethodName := ⟨RX1, "<init>", "(II)V"⟩
abbrev cX1_camps : ByteArray := prog_3_method_2_code
def yX1_camps : MethodName := ⟨RX1, "camps", "(LKingsBalance$Realm;II)I"⟩
abbrev cX1_comesAct : ByteArray := prog_3_method_3_code
def yX1_comesAct : MethodName := ⟨RX1, "comesAct", "([II)I"⟩
def RX2 : String := "KingsBalance$League"
def TX2 : u_T := fun k => match k with
  | 0 => ("KingsBalance$Standing", "number", "I", true)
  | _ => ("KingsBalance$Standing", "v", "I", true)
def tyX2 : Nat → FieldType := fun k => match k with
  | 0 => .int
  | _ => .int
abbrev wsX20 : List Cond := u_ws RX2 TX2 2
theorem nmX2 : ∀ a, a < 2 → ∀ b, b < 2 → a ≠ b → (TX2 a).2.1 ≠ (TX2 b).2.1 := by decide +kernel
theorem tyX2_ok : ∀ k, k < 2 → parseFieldDescriptor (TX2 k).2.2.1 = some (tyX2 k) := by decide +kernel
abbrev cX2_init : ByteArray := prog_4_method_1_code
def yX2_init : MethodName := ⟨RX2, "<init>", "(II)V"⟩
abbrev cX2_camps : ByteArray := prog_4_method_2_code
def yX2_camps : MethodName := ⟨RX2, "camps", "(LKingsBalance$Realm;II)I"⟩
abbrev cX2_holdsAct : ByteArray := prog_4_method_3_code
def yX2_holdsAct : MethodName := ⟨RX2, "holdsAct", "([II)I"⟩
def RX3 : String := "KingsBalance$Realm"
def TX3 : u_T := fun k => match k with
  | 0 => ("KingsBalance$Realm", "kings", "I", false)
  | 1 => ("KingsBalance$Realm", "alive", "I", false)
  | 2 => ("KingsBalance$Realm", "worlds", "I", false)
  | 3 => ("KingsBalance$Realm", "standings", "I", false)
  | 4 => ("KingsBalance$Realm", "wars", "I", false)
  | 5 => ("KingsBalance$Realm", "strength", "[I", true)
  | 6 => ("KingsBalance$Realm", "place", "[I", true)
  | 7 => ("KingsBalance$Realm", "owner", "[I", true)
  | 8 => ("KingsBalance$Realm", "worth", "[[I", true)
  | 9 => ("KingsBalance$Realm", "pact", "[[I", true)
  | 10 => ("KingsBalance$Realm", "tape", "LKingsBalance$Tape;", true)
  | 11 => ("KingsBalance$Realm", "world", "LKingsBalance$World;", true)
  | 12 => ("KingsBalance$Realm", "standing", "[LKingsBalance$Standing;", true)
  | _ => ("KingsBalance$Realm", "block", "[[I", true)
def tyX3 : Nat → FieldType := fun k => match k with
  | 0 => .int
  | 1 => .int
  | 2 => .int
  | 3 => .int
  | 4 => .int
  | 5 => .array .int
  | 6 => .array .int
  | 7 => .array .int
  | 8 => .array (.array .int)
  | 9 => .array (.array .int)
  | 10 => .object "KingsBalance$Tape"
  | 11 => .object "KingsBalance$World"
  | 12 => .array (.object "KingsBalance$Standing")
  | _ => .array (.array .int)
abbrev wsX30 : List Cond := u_ws RX3 TX3 14
theorem nmX3 : ∀ a, a < 14 → ∀ b, b < 14 → a ≠ b → (TX3 a).2.1 ≠ (TX3 b).2.1 := by decide +kernel
theorem tyX3_ok : ∀ k, k < 14 → parseFieldDescriptor (TX3 k).2.2.1 = some (tyX3 k) := by decide +kernel
abbrev cX3_init : ByteArray := prog_5_method_1_code
def yX3_init : MethodName := ⟨RX3, "<init>", "()V"⟩
abbrev cX3_become : ByteArray := prog_5_method_2_code
def yX3_become : MethodName := ⟨RX3, "become", "(LKingsBalance$Realm;)V"⟩
abbrev cX3_has : ByteArray := prog_5_method_3_code
def yX3_has : MethodName := ⟨RX3, "has", "(I)Z"⟩
abbrev cX3_lives : ByteArray := prog_5_method_4_code
def yX3_lives : MethodName := ⟨RX3, "lives", "(I)Z"⟩
abbrev cX3_standingAt : ByteArray := prog_5_method_5_code
def yX3_standingAt : MethodName := ⟨RX3, "standingAt", "(I)LKingsBalance$Standing;"⟩
abbrev cX3_add : ByteArray := prog_5_method_6_code
def yX3_add : MethodName := ⟨RX3, "add", "(II)I"⟩
abbrev cX3_forceAt : ByteArray := prog_5_method_7_code
def yX3_forceAt : MethodName := ⟨RX3, "forceAt", "(II)I"⟩
abbrev cX3_forcesAt : ByteArray := prog_5_method_8_code
def yX3_forcesAt : MethodName := ⟨RX3, "forcesAt", "(II)I"⟩
abbrev cX3_strengthOf : ByteArray := prog_5_method_9_code
def yX3_strengthOf : MethodName := ⟨RX3, "strengthOf", "(I)I"⟩
abbrev cX3_standsWith : ByteArray := prog_5_method_10_code
def yX3_standsWith : MethodName := ⟨RX3, "standsWith", "(II)Z"⟩
abbrev cX3_bears : ByteArray := prog_5_method_11_code
def yX3_bears : MethodName := ⟨RX3, "bears", "(II)Z"⟩
abbrev cX3_bearsOneBut : ByteArray := prog_5_method_12_code
def yX3_bearsOneBut : MethodName := ⟨RX3, "bearsOneBut", "(II)Z"⟩
abbrev cX3_turns : ByteArray := prog_5_method_13_code
def yX3_turns : MethodName := ⟨RX3, "turns", "(I)I"⟩
abbrev cX3_halve : ByteArray := prog_5_method_14_code
def yX3_halve : MethodName := ⟨RX3, "halve", "(I)V"⟩
abbrev cX3_wear : ByteArray := prog_5_method_15_code
def yX3_wear : MethodName := ⟨RX3, "wear", "(III)V"⟩
abbrev cX3_fall : ByteArray := prog_5_method_16_code
def yX3_fall : MethodName := ⟨RX3, "fall", "(III)V"⟩
def RX4 : String := "KingsBalance$Sides"
def TX4 : u_T := fun k => match k with
  | 0 => ("KingsBalance$Standing", "number", "I", true)
  | _ => ("KingsBalance$Standing", "v", "I", true)
def tyX4 : Nat → FieldType := fun k => match k with
  | 0 => .int
  | _ => .int
abbrev wsX40 : List Cond := u_ws RX4 TX4 2
theorem nmX4 : ∀ a, a < 2 → ∀ b, b < 2 → a ≠ b → (TX4 a).2.1 ≠ (TX4 b).2.1 := by decide +kernel
theorem tyX4_ok : ∀ k, k < 2 → parseFieldDescriptor (TX4 k).2.2.1 = some (tyX4 k) := by decide +kernel
abbrev cX4_init : ByteArray := prog_6_method_1_code
def yX4_init : MethodName := ⟨RX4, "<init>", "(II)V"⟩
abbrev cX4_camps : ByteArray := prog_6_method_2_code
def yX4_camps : MethodName := ⟨RX4, "camps", "(LKingsBalance$Realm;II)I"⟩
abbrev cX4_blockBits : ByteArray := prog_6_method_3_code
def yX4_blockBits : MethodName := ⟨RX4, "blockBits", "(LKingsBalance$Realm;I)I"⟩
abbrev cX4_comesAct : ByteArray := prog_6_method_4_code
def yX4_comesAct : MethodName := ⟨RX4, "comesAct", "([II)I"⟩
def RX5 : String := "KingsBalance$Standing"
def TX5 : u_T := fun k => match k with
  | 0 => ("KingsBalance$Standing", "number", "I", true)
  | _ => ("KingsBalance$Standing", "v", "I", true)
def tyX5 : Nat → FieldType := fun k => match k with
  | 0 => .int
  | _ => .int
abbrev wsX50 : List Cond := u_ws RX5 TX5 2
theorem nmX5 : ∀ a, a < 2 → ∀ b, b < 2 → a ≠ b → (TX5 a).2.1 ≠ (TX5 b).2.1 := by decide +kernel
theorem tyX5_ok : ∀ k, k < 2 → parseFieldDescriptor (TX5 k).2.2.1 = some (tyX5 k) := by decide +kernel
abbrev cX5_init : ByteArray := prog_7_method_1_code
def yX5_init : MethodName := ⟨RX5, "<init>", "(II)V"⟩
abbrev cX5_camps : ByteArray := prog_7_method_2_code
def yX5_camps : MethodName := ⟨RX5, "camps", "(LKingsBalance$Realm;II)I"⟩
abbrev cX5_joined : ByteArray := prog_7_method_3_code
def yX5_joined : MethodName := ⟨RX5, "joined", "(LKingsBalance$Realm;IIII)I"⟩
abbrev cX5_attackers : ByteArray := prog_7_method_4_code
def yX5_attackers : MethodName := ⟨RX5, "attackers", "(I)I"⟩
abbrev cX5_defenders : ByteArray := prog_7_method_5_code
def yX5_defenders : MethodName := ⟨RX5, "defenders", "(I)I"⟩
abbrev cX5_gains : ByteArray := prog_7_method_6_code
def yX5_gains : MethodName := ⟨RX5, "gains", "(LKingsBalance$Realm;II)Z"⟩
abbrev cX5_prey : ByteArray := prog_7_method_7_code
def yX5_prey : MethodName := ⟨RX5, "prey", "(LKingsBalance$Realm;I)I"⟩
abbrev cX5_hunters : ByteArray := prog_7_method_8_code
def yX5_hunters : MethodName := ⟨RX5, "hunters", "(LKingsBalance$Realm;I)I"⟩
abbrev cX5_firstWar : ByteArray := prog_7_method_9_code
def yX5_firstWar : MethodName := ⟨RX5, "firstWar", "(LKingsBalance$Realm;)I"⟩
abbrev cX5_fight : ByteArray := prog_7_method_10_code
def yX5_fight : MethodName := ⟨RX5, "fight", "(LKingsBalance$Realm;II)Z"⟩
abbrev cX5_comesAct : ByteArray := prog_7_method_11_code
def yX5_comesAct : MethodName := ⟨RX5, "comesAct", "([II)I"⟩
abbrev cX5_daresAct : ByteArray := prog_7_method_12_code
def yX5_daresAct : MethodName := ⟨RX5, "daresAct", "([II)I"⟩
abbrev cX5_holdsAct : ByteArray := prog_7_method_13_code
def yX5_holdsAct : MethodName := ⟨RX5, "holdsAct", "([II)I"⟩
abbrev cX5_note : ByteArray := prog_7_method_14_code
def yX5_note : MethodName := ⟨RX5, "note", "([II)V"⟩
def RX6 : String := "KingsBalance$Tape"
def TX6 : u_T := fun k => match k with
  | 0 => ("KingsBalance$Tape", "bytes", "[I", true)
  | 1 => ("KingsBalance$Tape", "size", "I", false)
  | _ => ("KingsBalance$Tape", "at", "I", false)
def tyX6 : Nat → FieldType := fun k => match k with
  | 0 => .array .int
  | 1 => .int
  | _ => .int
abbrev wsX60 : List Cond := u_ws RX6 TX6 3
theorem nmX6 : ∀ a, a < 3 → ∀ b, b < 3 → a ≠ b → (TX6 a).2.1 ≠ (TX6 b).2.1 := by decide +kernel
theorem tyX6_ok : ∀ k, k < 3 → parseFieldDescriptor (TX6 k).2.2.1 = some (tyX6 k) := by decide +kernel
abbrev cX6_init : ByteArray := prog_8_method_1_code
def yX6_init : MethodName := ⟨RX6, "<init>", "()V"⟩
abbrev cX6_become : ByteArray := prog_8_method_2_code
def yX6_become : MethodName := ⟨RX6, "become", "(LKingsBalance$Tape;)V"⟩
abbrev cX6_put : ByteArray := prog_8_method_3_code
def yX6_put : MethodName := ⟨RX6, "put", "(I)V"⟩
abbrev cX6_pick : ByteArray := prog_8_method_4_code
def yX6_pick : MethodName := ⟨RX6, "pick", "(Ljava/lang/String;)I"⟩
abbrev cX6_goesOn : ByteArray := prog_8_method_5_code
def yX6_goesOn : MethodName := ⟨RX6, "goesOn", "(Ljava/lang/String;)Z"⟩
abbrev cX6_numeral : ByteArray := prog_8_method_6_code
def yX6_numeral : MethodName := ⟨RX6, "numeral", "()I"⟩
def RX7 : String := "KingsBalance$True"
def TX7 : u_T := fun k => match k with
  | 0 => ("KingsBalance$Standing", "number", "I", true)
  | _ => ("KingsBalance$Standing", "v", "I", true)
def tyX7 : Nat → FieldType := fun k => match k with
  | 0 => .int
  | _ => .int
abbrev wsX70 : List Cond := u_ws RX7 TX7 2
theorem nmX7 : ∀ a, a < 2 → ∀ b, b < 2 → a ≠ b → (TX7 a).2.1 ≠ (TX7 b).2.1 := by decide +kernel
theorem tyX7_ok : ∀ k, k < 2 → parseFieldDescriptor (TX7 k).2.2.1 = some (tyX7 k) := by decide +kernel
abbrev cX7_init : ByteArray := prog_9_method_1_code
def yX7_init : MethodName := ⟨RX7, "<init>", "(II)V"⟩
abbrev cX7_camps : ByteArray := prog_9_method_2_code
def yX7_camps : MethodName := ⟨RX7, "camps", "(LKingsBalance$Realm;II)I"⟩
abbrev cX7_keepers : ByteArray := prog_9_method_3_code
def yX7_keepers : MethodName := ⟨RX7, "keepers", "(LKingsBalance$Realm;II)I"⟩
abbrev cX7_daresAct : ByteArray := prog_9_method_4_code
def yX7_daresAct : MethodName := ⟨RX7, "daresAct", "([II)I"⟩
def RX8 : String := "KingsBalance$Ways"
def TX8 : u_T := fun k => match k with
  | 0 => ("KingsBalance$Ways", "sides", "LKingsBalance$Sides;", true)
  | 1 => ("KingsBalance$Ways", "members", "[I", true)
  | _ => ("KingsBalance$Ways", "size", "I", false)
def tyX8 : Nat → FieldType := fun k => match k with
  | 0 => .object "KingsBalance$Sides"
  | 1 => .array .int
  | _ => .int
abbrev wsX80 : List Cond := u_ws RX8 TX8 3
theorem nmX8 : ∀ a, a < 3 → ∀ b, b < 3 → a ≠ b → (TX8 a).2.1 ≠ (TX8 b).2.1 := by decide +kernel
theorem tyX8_ok : ∀ k, k < 3 → parseFieldDescriptor (TX8 k).2.2.1 = some (tyX8 k) := by decide +kernel
abbrev cX8_init : ByteArray := prog_10_method_1_code
def yX8_init : MethodName := ⟨RX8, "<init>", "()V"⟩
abbrev cX8_fits : ByteArray := prog_10_method_2_code
def yX8_fits : MethodName := ⟨RX8, "fits", "(LKingsBalance$Realm;)Z"⟩
abbrev cX8_blockOf : ByteArray := prog_10_method_3_code
def yX8_blockOf : MethodName := ⟨RX8, "blockOf", "(LKingsBalance$Realm;I)I"⟩
abbrev cX8_number : ByteArray := prog_10_method_4_code
def yX8_number : MethodName := ⟨RX8, "number", "(LKingsBalance$Realm;ZZ)I"⟩
abbrev cX8_find : ByteArray := prog_10_method_5_code
def yX8_find : MethodName := ⟨RX8, "find", "(LKingsBalance$Realm;IZ)Z"⟩
abbrev cX8_begin : ByteArray := prog_10_method_6_code
def yX8_begin : MethodName := ⟨RX8, "begin", "(LKingsBalance$Realm;)V"⟩
abbrev cX8_advance : ByteArray := prog_10_method_7_code
def yX8_advance : MethodName := ⟨RX8, "advance", "([I)Z"⟩
abbrev cX8_highest : ByteArray := prog_10_method_8_code
def yX8_highest : MethodName := ⟨RX8, "highest", "([II)I"⟩
abbrev cX8_steady : ByteArray := prog_10_method_9_code
def yX8_steady : MethodName := ⟨RX8, "steady", "(LKingsBalance$Realm;)Z"⟩
def RX9 : String := "KingsBalance$Web"
def TX9 : u_T := fun k => match k with
  | 0 => ("KingsBalance$Standing", "number", "I", true)
  | _ => ("KingsBalance$Standing", "v", "I", true)
def tyX9 : Nat → FieldType := fun k => match k with
  | 0 => .int
  | _ => .int
abbrev wsX90 : List Cond := u_ws RX9 TX9 2
theorem nmX9 : ∀ a, a < 2 → ∀ b, b < 2 → a ≠ b → (TX9 a).2.1 ≠ (TX9 b).2.1 := by decide +kernel
theorem tyX9_ok : ∀ k, k < 2 → parseFieldDescriptor (TX9 k).2.2.1 = some (tyX9 k) := by decide +kernel
abbrev cX9_init : ByteArray := prog_11_method_1_code
def yX9_init : MethodName := ⟨RX9, "<init>", "(II)V"⟩
abbrev cX9_camps : ByteArray := prog_11_method_2_code
def yX9_camps : MethodName := ⟨RX9, "camps", "(LKingsBalance$Realm;II)I"⟩
abbrev cX9_holdsAct : ByteArray := prog_11_method_3_code
def yX9_holdsAct : MethodName := ⟨RX9, "holdsAct", "([II)I"⟩
def RX10 : String := "KingsBalance$World"
def TX10 : u_T := fun k => match k with
  | 0 => ("KingsBalance$World", "word", "I", false)
  | 1 => ("KingsBalance$World", "less", "I", false)
  | 2 => ("KingsBalance$World", "take", "I", false)
  | 3 => ("KingsBalance$World", "costs", "I", false)
  | 4 => ("KingsBalance$World", "steps", "I", false)
  | 5 => ("KingsBalance$World", "price", "[I", true)
  | 6 => ("KingsBalance$World", "end", "[I", true)
  | 7 => ("KingsBalance$World", "what", "[I", true)
  | 8 => ("KingsBalance$World", "sign", "[I", true)
  | 9 => ("KingsBalance$World", "number", "[I", true)
  | _ => ("KingsBalance$World", "facts", "[I", true)
def tyX10 : Nat → FieldType := fun k => match k with
  | 0 => .int
  | 1 => .int
  | 2 => .int
  | 3 => .int
  | 4 => .int
  | 5 => .array .int
  | 6 => .array .int
  | 7 => .array .int
  | 8 => .array .int
  | 9 => .array .int
  | _ => .array .int
abbrev wsX100 : List Cond := u_ws RX10 TX10 11
theorem nmX10 : ∀ a, a < 11 → ∀ b, b < 11 → a ≠ b → (TX10 a).2.1 ≠ (TX10 b).2.1 := by decide +kernel
theorem tyX10_ok : ∀ k, k < 11 → parseFieldDescriptor (TX10 k).2.2.1 = some (tyX10 k) := by decide +kernel
abbrev cX10_init : ByteArray := prog_12_method_1_code
def yX10_init : MethodName := ⟨RX10, "<init>", "()V"⟩
abbrev cX10_become : ByteArray := prog_12_method_2_code
def yX10_become : MethodName := ⟨RX10, "become", "(LKingsBalance$World;)V"⟩
abbrev cX10_costOf : ByteArray := prog_12_method_3_code
def yX10_costOf : MethodName := ⟨RX10, "costOf", "(LKingsBalance$Realm;II)I"⟩
abbrev cX10_read : ByteArray := prog_12_method_4_code
def yX10_read : MethodName := ⟨RX10, "read", "(LKingsBalance$Tape;)I"⟩
abbrev cX10_clause : ByteArray := prog_12_method_5_code
def yX10_clause : MethodName := ⟨RX10, "clause", "(LKingsBalance$Tape;)Z"⟩
abbrev cX10_amount : ByteArray := prog_12_method_6_code
def yX10_amount : MethodName := ⟨RX10, "amount", "(LKingsBalance$Tape;Ljava/lang/String;)I"⟩
abbrev cX10_priced : ByteArray := prog_12_method_7_code
def yX10_priced : MethodName := ⟨RX10, "priced", "(LKingsBalance$Tape;)Z"⟩
abbrev cX10_either : ByteArray := prog_12_method_8_code
def yX10_either : MethodName := ⟨RX10, "either", "(LKingsBalance$Tape;I)Z"⟩
abbrev cX10_both : ByteArray := prog_12_method_9_code
def yX10_both : MethodName := ⟨RX10, "both", "(LKingsBalance$Tape;I)Z"⟩
abbrev cX10_single : ByteArray := prog_12_method_10_code
def yX10_single : MethodName := ⟨RX10, "single", "(LKingsBalance$Tape;I)Z"⟩
abbrev cX10_test : ByteArray := prog_12_method_11_code
def yX10_test : MethodName := ⟨RX10, "test", "(LKingsBalance$Tape;)Z"⟩
abbrev cX10_step : ByteArray := prog_12_method_12_code
def yX10_step : MethodName := ⟨RX10, "step", "(III)V"⟩
def RX11 : String := "KingsBalance"
def TX11 : u_T := fun k => match k with
  | 0 => ("KingsBalance", "realm", "LKingsBalance$Realm;", true)
  | 1 => ("KingsBalance", "kept", "LKingsBalance$Realm;", true)
  | 2 => ("KingsBalance", "hasImage", "Z", false)
  | 3 => ("KingsBalance", "draft", "LKingsBalance$World;", true)
  | 4 => ("KingsBalance", "ways", "LKingsBalance$Ways;", true)
  | 5 => ("KingsBalance", "bodies", "[I", true)
  | _ => ("KingsBalance", "daredNow", "[I", true)
def tyX11 : Nat → FieldType := fun k => match k with
  | 0 => .object "KingsBalance$Realm"
  | 1 => .object "KingsBalance$Realm"
  | 2 => .boolean
  | 3 => .object "KingsBalance$World"
  | 4 => .object "KingsBalance$Ways"
  | 5 => .array .int
  | _ => .array .int
abbrev wsX110 : List Cond := u_ws RX11 TX11 7
theorem nmX11 : ∀ a, a < 7 → ∀ b, b < 7 → a ≠ b → (TX11 a).2.1 ≠ (TX11 b).2.1 := by decide +kernel
theorem tyX11_ok : ∀ k, k < 7 → parseFieldDescriptor (TX11 k).2.2.1 = some (tyX11 k) := by decide +kernel
abbrev cX11_init : ByteArray := prog_1_method_1_code
def yX11_init : MethodName := ⟨RX11, "<init>", "()V"⟩
abbrev cX11_king : ByteArray := prog_1_method_2_code
def yX11_king : MethodName := ⟨RX11, "king", "(II)I"⟩
abbrev cX11_of : ByteArray := prog_1_method_3_code
def yX11_of : MethodName := ⟨RX11, "of", "(II)I"⟩
abbrev cX11_arm : ByteArray := prog_1_method_4_code
def yX11_arm : MethodName := ⟨RX11, "arm", "(II)I"⟩
abbrev cX11_worth : ByteArray := prog_1_method_5_code
def yX11_worth : MethodName := ⟨RX11, "worth", "(III)I"⟩
abbrev cX11_pact : ByteArray := prog_1_method_6_code
def yX11_pact : MethodName := ⟨RX11, "pact", "(III)I"⟩
abbrev cX11_feed : ByteArray := prog_1_method_7_code
def yX11_feed : MethodName := ⟨RX11, "feed", "(JI)I"⟩
abbrev cX11_world : ByteArray := prog_1_method_8_code
def yX11_world : MethodName := ⟨RX11, "world", "()I"⟩
abbrev cX11_cost : ByteArray := prog_1_method_9_code
def yX11_cost : MethodName := ⟨RX11, "cost", "(II)I"⟩
abbrev cX11_force : ByteArray := prog_1_method_10_code
def yX11_force : MethodName := ⟨RX11, "force", "(II)I"⟩
abbrev cX11_standing : ByteArray := prog_1_method_11_code
def yX11_standing : MethodName := ⟨RX11, "standing", "(II)I"⟩
abbrev cX11_block : ByteArray := prog_1_method_12_code
def yX11_block : MethodName := ⟨RX11, "block", "(III)I"⟩
abbrev cX11_comes : ByteArray := prog_1_method_13_code
def yX11_comes : MethodName := ⟨RX11, "comes", "(IIII)I"⟩
abbrev cX11_war : ByteArray := prog_1_method_14_code
def yX11_war : MethodName := ⟨RX11, "war", "(IIII)J"⟩
abbrev cX11_dares : ByteArray := prog_1_method_15_code
def yX11_dares : MethodName := ⟨RX11, "dares", "(III)I"⟩
abbrev cX11_first : ByteArray := prog_1_method_16_code
def yX11_first : MethodName := ⟨RX11, "first", "(I)I"⟩
abbrev cX11_keeps : ByteArray := prog_1_method_17_code
def yX11_keeps : MethodName := ⟨RX11, "keeps", "(III)I"⟩
abbrev cX11_empty : ByteArray := prog_1_method_18_code
def yX11_empty : MethodName := ⟨RX11, "empty", "(I)I"⟩
abbrev cX11_all : ByteArray := prog_1_method_19_code
def yX11_all : MethodName := ⟨RX11, "all", "(I)I"⟩
abbrev cX11_quiet : ByteArray := prog_1_method_20_code
def yX11_quiet : MethodName := ⟨RX11, "quiet", "(IIZ)I"⟩
abbrev cX11_lead : ByteArray := prog_1_method_21_code
def yX11_lead : MethodName := ⟨RX11, "lead", "(III)I"⟩
abbrev cX11_next : ByteArray := prog_1_method_22_code
def yX11_next : MethodName := ⟨RX11, "next", "(I)I"⟩
abbrev cX11_edge : ByteArray := prog_1_method_23_code
def yX11_edge : MethodName := ⟨RX11, "edge", "(I)I"⟩
abbrev cX11_courted : ByteArray := prog_1_method_24_code
def yX11_courted : MethodName := ⟨RX11, "courted", "()I"⟩
abbrev cX11_race : ByteArray := prog_1_method_25_code
def yX11_race : MethodName := ⟨RX11, "race", "(I)I"⟩
abbrev cX11_few : ByteArray := prog_1_method_26_code
def yX11_few : MethodName := ⟨RX11, "few", "(II)I"⟩
abbrev cX11_guarded : ByteArray := prog_1_method_27_code
def yX11_guarded : MethodName := ⟨RX11, "guarded", "(I)I"⟩
abbrev cX11_marry : ByteArray := prog_1_method_28_code
def yX11_marry : MethodName := ⟨RX11, "marry", "(IIII)I"⟩
abbrev cX11_act : ByteArray := prog_1_method_29_code
def yX11_act : MethodName := ⟨RX11, "act", "(III)I"⟩
abbrev cX11_trace : ByteArray := prog_1_method_30_code
def yX11_trace : MethodName := ⟨RX11, "trace", "(I)I"⟩
abbrev cX11_as : ByteArray := prog_1_method_31_code
def yX11_as : MethodName := ⟨RX11, "as", "(II)I"⟩
abbrev cX11_image : ByteArray := prog_1_method_32_code
def yX11_image : MethodName := ⟨RX11, "image", "()I"⟩
abbrev cX11_undo : ByteArray := prog_1_method_33_code
def yX11_undo : MethodName := ⟨RX11, "undo", "()I"⟩
abbrev cX11_count : ByteArray := prog_1_method_34_code
def yX11_count : MethodName := ⟨RX11, "count", "(I)I"⟩
abbrev cX11_outside : ByteArray := prog_1_method_35_code
def yX11_outside : MethodName := ⟨RX11, "outside", "(II)Z"⟩
abbrev cX11_pairRefusal : ByteArray := prog_1_method_36_code
def yX11_pairRefusal : MethodName := ⟨RX11, "pairRefusal", "(II)I"⟩
abbrev cX11_made : ByteArray := prog_1_method_37_code
def yX11_made : MethodName := ⟨RX11, "made", "(III)LKingsBalance$Standing;"⟩
abbrev cX11_isOf : ByteArray := prog_1_method_38_code
def yX11_isOf : MethodName := ⟨RX11, "isOf", "(LKingsBalance$Standing;I)Z"⟩
abbrev cX11_armedInRound : ByteArray := prog_1_method_39_code
def yX11_armedInRound : MethodName := ⟨RX11, "armedInRound", "(LKingsBalance$Standing;)Z"⟩
abbrev cX11_upsetBy : ByteArray := prog_1_method_40_code
def yX11_upsetBy : MethodName := ⟨RX11, "upsetBy", "(LKingsBalance$Standing;I)I"⟩
abbrev cX11_married : ByteArray := prog_1_method_41_code
def yX11_married : MethodName := ⟨RX11, "married", "(LKingsBalance$Standing;IIZ)I"⟩
def RX12 : String := "KingsBalanceModel"
def TX12 : u_T := fun k => match k with
  | 0 => ("KingsBalanceModel", "thrown", "I", false)
  | 1 => ("KingsBalanceModel", "s", "[I", true)
  | 2 => ("KingsBalanceModel", "image", "[I", true)
  | 3 => ("KingsBalanceModel", "hasImage", "Z", false)
  | 4 => ("KingsBalanceModel", "spot", "I", false)
  | 5 => ("KingsBalanceModel", "end", "I", false)
  | 6 => ("KingsBalanceModel", "isWrong", "Z", false)
  | 7 => ("KingsBalanceModel", "open", "I", false)
  | 8 => ("KingsBalanceModel", "read", "[I", true)
  | 9 => ("KingsBalanceModel", "values", "[I", true)
  | 10 => ("KingsBalanceModel", "readMany", "I", false)
  | 11 => ("KingsBalanceModel", "truths", "[Z", true)
  | 12 => ("KingsBalanceModel", "blocks", "[I", true)
  | 13 => ("KingsBalanceModel", "kind", "I", false)
  | 14 => ("KingsBalanceModel", "v", "I", false)
  | 15 => ("KingsBalanceModel", "withA", "I", false)
  | 16 => ("KingsBalanceModel", "withB", "I", false)
  | 17 => ("KingsBalanceModel", "sumA", "I", false)
  | 18 => ("KingsBalanceModel", "sumB", "I", false)
  | 19 => ("KingsBalanceModel", "allMany", "I", false)
  | 20 => ("KingsBalanceModel", "quietMany", "I", false)
  | 21 => ("KingsBalanceModel", "holdMany", "I", false)
  | 22 => ("KingsBalanceModel", "wanted", "I", false)
  | 23 => ("KingsBalanceModel", "wantedKing", "I", false)
  | 24 => ("KingsBalanceModel", "wantsHold", "Z", false)
  | 25 => ("KingsBalanceModel", "found", "I", false)
  | 26 => ("KingsBalanceModel", "daredBy", "[I", true)
  | 27 => ("KingsBalanceModel", "bodies", "[I", true)
  | 28 => ("KingsBalanceModel", "ran", "I", false)
  | 29 => ("KingsBalanceModel", "kindNow", "I", false)
  | 30 => ("KingsBalanceModel", "who", "I", false)
  | _ => ("KingsBalanceModel", "tellsV", "I", false)
def tyX12 : Nat → FieldType := fun k => match k with
  | 0 => .int
  | 1 => .array .int
  | 2 => .array .int
  | 3 => .boolean
  | 4 => .int
  | 5 => .int
  | 6 => .boolean
  | 7 => .int
  | 8 => .array .int
  | 9 => .array .int
  | 10 => .int
  | 11 => .array .boolean
  | 12 => .array .int
  | 13 => .int
  | 14 => .int
  | 15 => .int
  | 16 => .int
  | 17 => .int
  | 18 => .int
  | 19 => .int
  | 20 => .int
  | 21 => .int
  | 22 => .int
  | 23 => .int
  | 24 => .boolean
  | 25 => .int
  | 26 => .array .int
  | 27 => .array .int
  | 28 => .int
  | 29 => .int
  | 30 => .int
  | _ => .int
abbrev wsX120 : List Cond := u_ws RX12 TX12 32
theorem nmX12 : ∀ a, a < 32 → ∀ b, b < 32 → a ≠ b → (TX12 a).2.1 ≠ (TX12 b).2.1 := by decide +kernel
theorem tyX12_ok : ∀ k, k < 32 → parseFieldDescriptor (TX12 k).2.2.1 = some (tyX12 k) := by decide +kernel
abbrev cX12_init : ByteArray := prog_14_method_1_code
def yX12_init : MethodName := ⟨RX12, "<init>", "()V"⟩
abbrev cX12_in : ByteArray := prog_14_method_3_code
def yX12_in : MethodName := ⟨RX12, "in", "(III)Z"⟩
abbrev cX12_isKing : ByteArray := prog_14_method_4_code
def yX12_isKing : MethodName := ⟨RX12, "isKing", "(I)Z"⟩
abbrev cX12_isAlive : ByteArray := prog_14_method_5_code
def yX12_isAlive : MethodName := ⟨RX12, "isAlive", "(I)Z"⟩
abbrev cX12_isStanding : ByteArray := prog_14_method_6_code
def yX12_isStanding : MethodName := ⟨RX12, "isStanding", "(I)Z"⟩
abbrev cX12_size : ByteArray := prog_14_method_7_code
def yX12_size : MethodName := ⟨RX12, "size", "(I)I"⟩
abbrev cX12_count1 : ByteArray := prog_14_method_8_code
def yX12_count1 : MethodName := ⟨RX12, "count1", "(I)I"⟩
abbrev cX12_king : ByteArray := prog_14_method_9_code
def yX12_king : MethodName := ⟨RX12, "king", "(II)I"⟩
abbrev cX12_of : ByteArray := prog_14_method_10_code
def yX12_of : MethodName := ⟨RX12, "of", "(II)I"⟩
abbrev cX12_arm : ByteArray := prog_14_method_11_code
def yX12_arm : MethodName := ⟨RX12, "arm", "(II)I"⟩
abbrev cX12_worth : ByteArray := prog_14_method_12_code
def yX12_worth : MethodName := ⟨RX12, "worth", "(III)I"⟩
abbrev cX12_pact : ByteArray := prog_14_method_13_code
def yX12_pact : MethodName := ⟨RX12, "pact", "(III)I"⟩
abbrev cX12_feed : ByteArray := prog_14_method_14_code
def yX12_feed : MethodName := ⟨RX12, "feed", "(JI)I"⟩
abbrev cX12_here : ByteArray := prog_14_method_15_code
def yX12_here : MethodName := ⟨RX12, "here", "()I"⟩
abbrev cX12_must : ByteArray := prog_14_method_16_code
def yX12_must : MethodName := ⟨RX12, "must", "(I)V"⟩
abbrev cX12_spells : ByteArray := prog_14_method_17_code
def yX12_spells : MethodName := ⟨RX12, "spells", "(Ljava/lang/String;)V"⟩
abbrev cX12_figures : ByteArray := prog_14_method_18_code
def yX12_figures : MethodName := ⟨RX12, "figures", "()I"⟩
abbrev cX12_emits : ByteArray := prog_14_method_19_code
def yX12_emits : MethodName := ⟨RX12, "emits", "(I)V"⟩
abbrev cX12_factor : ByteArray := prog_14_method_20_code
def yX12_factor : MethodName := ⟨RX12, "factor", "()V"⟩
abbrev cX12_every : ByteArray := prog_14_method_21_code
def yX12_every : MethodName := ⟨RX12, "every", "()V"⟩
abbrev cX12_some : ByteArray := prog_14_method_22_code
def yX12_some : MethodName := ⟨RX12, "some", "()V"⟩
abbrev cX12_tells : ByteArray := prog_14_method_23_code
def yX12_tells : MethodName := ⟨RX12, "tells", "(ILjava/lang/String;)V"⟩
abbrev cX12_clause : ByteArray := prog_14_method_24_code
def yX12_clause : MethodName := ⟨RX12, "clause", "()V"⟩
abbrev cX12_world : ByteArray := prog_14_method_25_code
def yX12_world : MethodName := ⟨RX12, "world", "()I"⟩
abbrev cX12_costOf : ByteArray := prog_14_method_26_code
def yX12_costOf : MethodName := ⟨RX12, "costOf", "(II)I"⟩
abbrev cX12_cost : ByteArray := prog_14_method_27_code
def yX12_cost : MethodName := ⟨RX12, "cost", "(II)I"⟩
abbrev cX12_forceOf : ByteArray := prog_14_method_28_code
def yX12_forceOf : MethodName := ⟨RX12, "forceOf", "(II)I"⟩
abbrev cX12_force : ByteArray := prog_14_method_29_code
def yX12_force : MethodName := ⟨RX12, "force", "(II)I"⟩
abbrev cX12_standing : ByteArray := prog_14_method_30_code
def yX12_standing : MethodName := ⟨RX12, "standing", "(II)I"⟩
abbrev cX12_block : ByteArray := prog_14_method_31_code
def yX12_block : MethodName := ⟨RX12, "block", "(III)I"⟩
abbrev cX12_takes : ByteArray := prog_14_method_32_code
def yX12_takes : MethodName := ⟨RX12, "takes", "(I)V"⟩
abbrev cX12_blockOf : ByteArray := prog_14_method_33_code
def yX12_blockOf : MethodName := ⟨RX12, "blockOf", "(I)I"⟩
abbrev cX12_alive : ByteArray := prog_14_method_34_code
def yX12_alive : MethodName := ⟨RX12, "alive", "()I"⟩
abbrev cX12_strengths : ByteArray := prog_14_method_35_code
def yX12_strengths : MethodName := ⟨RX12, "strengths", "(I)I"⟩
abbrev cX12_sides : ByteArray := prog_14_method_36_code
def yX12_sides : MethodName := ⟨RX12, "sides", "(II)V"⟩
abbrev cX12_pactOf : ByteArray := prog_14_method_37_code
def yX12_pactOf : MethodName := ⟨RX12, "pactOf", "(II)I"⟩
abbrev cX12_isTrue : ByteArray := prog_14_method_38_code
def yX12_isTrue : MethodName := ⟨RX12, "isTrue", "(II)Z"⟩
abbrev cX12_web : ByteArray := prog_14_method_39_code
def yX12_web : MethodName := ⟨RX12, "web", "(II)V"⟩
abbrev cX12_comesTo : ByteArray := prog_14_method_40_code
def yX12_comesTo : MethodName := ⟨RX12, "comesTo", "(II)V"⟩
abbrev cX12_comes : ByteArray := prog_14_method_41_code
def yX12_comes : MethodName := ⟨RX12, "comes", "(IIII)I"⟩
abbrev cX12_sums : ByteArray := prog_14_method_42_code
def yX12_sums : MethodName := ⟨RX12, "sums", "(II)V"⟩
abbrev cX12_gainOf : ByteArray := prog_14_method_43_code
def yX12_gainOf : MethodName := ⟨RX12, "gainOf", "(II)I"⟩
abbrev cX12_war : ByteArray := prog_14_method_44_code
def yX12_war : MethodName := ⟨RX12, "war", "(IIII)J"⟩
abbrev cX12_doesDare : ByteArray := prog_14_method_45_code
def yX12_doesDare : MethodName := ⟨RX12, "doesDare", "(II)Z"⟩
abbrev cX12_darers : ByteArray := prog_14_method_46_code
def yX12_darers : MethodName := ⟨RX12, "darers", "(I)I"⟩
abbrev cX12_dares : ByteArray := prog_14_method_47_code
def yX12_dares : MethodName := ⟨RX12, "dares", "(III)I"⟩
abbrev cX12_firstWar : ByteArray := prog_14_method_48_code
def yX12_firstWar : MethodName := ⟨RX12, "firstWar", "()I"⟩
abbrev cX12_first : ByteArray := prog_14_method_49_code
def yX12_first : MethodName := ⟨RX12, "first", "(I)I"⟩
abbrev cX12_doesKeep : ByteArray := prog_14_method_50_code
def yX12_doesKeep : MethodName := ⟨RX12, "doesKeep", "(III)Z"⟩
abbrev cX12_keeps : ByteArray := prog_14_method_51_code
def yX12_keeps : MethodName := ⟨RX12, "keeps", "(III)I"⟩
abbrev cX12_empty : ByteArray := prog_14_method_52_code
def yX12_empty : MethodName := ⟨RX12, "empty", "(I)I"⟩
abbrev cX12_doesDareAny : ByteArray := prog_14_method_53_code
def yX12_doesDareAny : MethodName := ⟨RX12, "doesDareAny", "(I)Z"⟩
abbrev cX12_wouldHold : ByteArray := prog_14_method_54_code
def yX12_wouldHold : MethodName := ⟨RX12, "wouldHold", "(I)Z"⟩
abbrev cX12_parts : ByteArray := prog_14_method_55_code
def yX12_parts : MethodName := ⟨RX12, "parts", "(II)V"⟩
abbrev cX12_partsAll : ByteArray := prog_14_method_56_code
def yX12_partsAll : MethodName := ⟨RX12, "partsAll", "(IIZ)V"⟩
abbrev cX12_all : ByteArray := prog_14_method_57_code
def yX12_all : MethodName := ⟨RX12, "all", "(I)I"⟩
abbrev cX12_quiet : ByteArray := prog_14_method_58_code
def yX12_quiet : MethodName := ⟨RX12, "quiet", "(IIZ)I"⟩
abbrev cX12_leads : ByteArray := prog_14_method_59_code
def yX12_leads : MethodName := ⟨RX12, "leads", "(II)I"⟩
abbrev cX12_lead : ByteArray := prog_14_method_60_code
def yX12_lead : MethodName := ⟨RX12, "lead", "(III)I"⟩
abbrev cX12_next : ByteArray := prog_14_method_61_code
def yX12_next : MethodName := ⟨RX12, "next", "(I)I"⟩
abbrev cX12_turnsOf : ByteArray := prog_14_method_62_code
def yX12_turnsOf : MethodName := ⟨RX12, "turnsOf", "(I)I"⟩
abbrev cX12_edge : ByteArray := prog_14_method_63_code
def yX12_edge : MethodName := ⟨RX12, "edge", "(I)I"⟩
abbrev cX12_courted : ByteArray := prog_14_method_64_code
def yX12_courted : MethodName := ⟨RX12, "courted", "()I"⟩
abbrev cX12_race : ByteArray := prog_14_method_65_code
def yX12_race : MethodName := ⟨RX12, "race", "(I)I"⟩
abbrev cX12_isQuietWith : ByteArray := prog_14_method_66_code
def yX12_isQuietWith : MethodName := ⟨RX12, "isQuietWith", "(II)Z"⟩
abbrev cX12_few : ByteArray := prog_14_method_67_code
def yX12_few : MethodName := ⟨RX12, "few", "(II)I"⟩
abbrev cX12_guarded : ByteArray := prog_14_method_68_code
def yX12_guarded : MethodName := ⟨RX12, "guarded", "(I)I"⟩
abbrev cX12_marry : ByteArray := prog_14_method_69_code
def yX12_marry : MethodName := ⟨RX12, "marry", "(IIII)I"⟩
abbrev cX12_runs : ByteArray := prog_14_method_70_code
def yX12_runs : MethodName := ⟨RX12, "runs", "(I)V"⟩
abbrev cX12_isUnder : ByteArray := prog_14_method_71_code
def yX12_isUnder : MethodName := ⟨RX12, "isUnder", "(II)Z"⟩
abbrev cX12_plainComes : ByteArray := prog_14_method_72_code
def yX12_plainComes : MethodName := ⟨RX12, "plainComes", "(I)I"⟩
abbrev cX12_comesActs : ByteArray := prog_14_method_73_code
def yX12_comesActs : MethodName := ⟨RX12, "comesActs", "(I)I"⟩
abbrev cX12_plainDares : ByteArray := prog_14_method_74_code
def yX12_plainDares : MethodName := ⟨RX12, "plainDares", "(I)I"⟩
abbrev cX12_daresActs : ByteArray := prog_14_method_75_code
def yX12_daresActs : MethodName := ⟨RX12, "daresActs", "(I)I"⟩
abbrev cX12_plainHolds : ByteArray := prog_14_method_76_code
def yX12_plainHolds : MethodName := ⟨RX12, "plainHolds", "(I)I"⟩
abbrev cX12_holdsActs : ByteArray := prog_14_method_77_code
def yX12_holdsActs : MethodName := ⟨RX12, "holdsActs", "(I)I"⟩
abbrev cX12_act : ByteArray := prog_14_method_78_code
def yX12_act : MethodName := ⟨RX12, "act", "(III)I"⟩
abbrev cX12_trace : ByteArray := prog_14_method_79_code
def yX12_trace : MethodName := ⟨RX12, "trace", "(I)I"⟩
abbrev cX12_as : ByteArray := prog_14_method_80_code
def yX12_as : MethodName := ⟨RX12, "as", "(II)I"⟩
abbrev cX12_image : ByteArray := prog_14_method_81_code
def yX12_image : MethodName := ⟨RX12, "image", "()I"⟩
abbrev cX12_undo : ByteArray := prog_14_method_82_code
def yX12_undo : MethodName := ⟨RX12, "undo", "()I"⟩
abbrev cX12_count : ByteArray := prog_14_method_83_code
def yX12_count : MethodName := ⟨RX12, "count", "(I)I"⟩
def RJ6 : String := "java/lang/Integer"
def TJ6 : u_T := fun k => match k with
  | _ => ("", "", "", false)
def tyJ6 : Nat → FieldType := fun k => match k with
  | _ => .int
abbrev wsJ60 : List Cond := u_ws RJ6 TJ6 0
theorem nmJ6 : ∀ a, a < 0 → ∀ b, b < 0 → a ≠ b → (TJ6 a).2.1 ≠ (TJ6 b).2.1 := by decide +kernel
theorem tyJ6_ok : ∀ k, k < 0 → parseFieldDescriptor (TJ6 k).2.2.1 = some (tyJ6 k) := by decide +kernel
abbrev cJ6_bitCount_0f7a4 : ByteArray := prog_15_method_49_code
def yJ6_bitCount_0f7a4 : MethodName := ⟨RJ6, "bitCount", "(I)I"⟩
def RJ9 : String := "java/lang/Math"
def TJ9 : u_T := fun k => match k with
  | _ => ("", "", "", false)
def tyJ9 : Nat → FieldType := fun k => match k with
  | _ => .int
abbrev wsJ90 : List Cond := u_ws RJ9 TJ9 0
theorem nmJ9 : ∀ a, a < 0 → ∀ b, b < 0 → a ≠ b → (TJ9 a).2.1 ≠ (TJ9 b).2.1 := by decide +kernel
theorem tyJ9_ok : ∀ k, k < 0 → parseFieldDescriptor (TJ9 k).2.2.1 = some (tyJ9 k) := by decide +kernel
abbrev cJ9_abs_0f7a4 : ByteArray := prog_16_method_59_code
def yJ9_abs_0f7a4 : MethodName := ⟨RJ9, "abs", "(I)I"⟩
abbrev cJ9_max_7cf53 : ByteArray := prog_16_method_65_code
def yJ9_max_7cf53 : MethodName := ⟨RJ9, "max", "(II)I"⟩
abbrev cJ9_min_7cf53 : ByteArray := prog_16_method_69_code
def yJ9_min_7cf53 : MethodName := ⟨RJ9, "min", "(II)I"⟩
def RJ0 : String := "java/lang/String"
def TJ0 : u_T := fun k => match k with
  | _ => ("", "", "", false)
def tyJ0 : Nat → FieldType := fun k => match k with
  | _ => .int
abbrev wsJ00 : List Cond := u_ws RJ0 TJ0 0
theorem nmJ0 : ∀ a, a < 0 → ∀ b, b < 0 → a ≠ b → (TJ0 a).2.1 ≠ (TJ0 b).2.1 := by decide +kernel
theorem tyJ0_ok : ∀ k, k < 0 → parseFieldDescriptor (TJ0 k).2.2.1 = some (tyJ0 k) := by decide +kernel
abbrev cJ0_length_8abf5 : ByteArray := prog_17_method_54_code
def yJ0_length_8abf5 : MethodName := ⟨RJ0, "length", "()I"⟩
abbrev cJ0_charAt_5068e : ByteArray := prog_17_method_56_code
def yJ0_charAt_5068e : MethodName := ⟨RJ0, "charAt", "(I)C"⟩
abbrev cJ0_coder_7d493 : ByteArray := prog_17_method_152_code
def yJ0_coder_7d493 : MethodName := ⟨RJ0, "coder", "()B"⟩
abbrev cJ0_isLatin1_aae02 : ByteArray := prog_17_method_154_code
def yJ0_isLatin1_aae02 : MethodName := ⟨RJ0, "isLatin1", "()Z"⟩
abbrev cJ0_checkIndex_df160 : ByteArray := prog_17_method_155_code
def yJ0_checkIndex_df160 : MethodName := ⟨RJ0, "checkIndex", "(II)V"⟩
def RJ1 : String := "java/lang/StringLatin1"
def TJ1 : u_T := fun k => match k with
  | _ => ("", "", "", false)
def tyJ1 : Nat → FieldType := fun k => match k with
  | _ => .int
abbrev wsJ10 : List Cond := u_ws RJ1 TJ1 0
theorem nmJ1 : ∀ a, a < 0 → ∀ b, b < 0 → a ≠ b → (TJ1 a).2.1 ≠ (TJ1 b).2.1 := by decide +kernel
theorem tyJ1_ok : ∀ k, k < 0 → parseFieldDescriptor (TJ1 k).2.2.1 = some (tyJ1 k) := by decide +kernel
abbrev cJ1_charAt_3b067 : ByteArray := prog_18_method_2_code
def yJ1_charAt_3b067 : MethodName := ⟨RJ1, "charAt", "([BI)C"⟩
def RJ2 : String := "java/lang/StringUTF16"
def TJ2 : u_T := fun k => match k with
  | _ => ("", "", "", false)
def tyJ2 : Nat → FieldType := fun k => match k with
  | _ => .int
abbrev wsJ20 : List Cond := u_ws RJ2 TJ2 0
theorem nmJ2 : ∀ a, a < 0 → ∀ b, b < 0 → a ≠ b → (TJ2 a).2.1 ≠ (TJ2 b).2.1 := by decide +kernel
theorem tyJ2_ok : ∀ k, k < 0 → parseFieldDescriptor (TJ2 k).2.2.1 = some (tyJ2 k) := by decide +kernel
abbrev cJ2_getChar_3b067 : ByteArray := prog_19_method_5_code
def yJ2_getChar_3b067 : MethodName := ⟨RJ2, "getChar", "([BI)C"⟩
abbrev cJ2_length_9d52b : ByteArray := prog_19_method_6_code
def yJ2_length_9d52b : MethodName := ⟨RJ2, "length", "([B)I"⟩
abbrev cJ2_charAt_3b067 : ByteArray := prog_19_method_83_code
def yJ2_charAt_3b067 : MethodName := ⟨RJ2, "charAt", "([BI)C"⟩
abbrev cJ2_checkIndex_2214a : ByteArray := prog_19_method_91_code
def yJ2_checkIndex_2214a : MethodName := ⟨RJ2, "checkIndex", "(I[B)V"⟩
def RJ10 : String := "java/lang/System"
def TJ10 : u_T := fun k => match k with
  | _ => ("", "", "", false)
def tyJ10 : Nat → FieldType := fun k => match k with
  | _ => .int
abbrev wsJ100 : List Cond := u_ws RJ10 TJ10 0
theorem nmJ10 : ∀ a, a < 0 → ∀ b, b < 0 → a ≠ b → (TJ10 a).2.1 ≠ (TJ10 b).2.1 := by decide +kernel
theorem tyJ10_ok : ∀ k, k < 0 → parseFieldDescriptor (TJ10 k).2.2.1 = some (tyJ10 k) := by decide +kernel
def RJ3 : String := "jdk/internal/util/Preconditions"
def TJ3 : u_T := fun k => match k with
  | _ => ("", "", "", false)
def tyJ3 : Nat → FieldType := fun k => match k with
  | _ => .int
abbrev wsJ30 : List Cond := u_ws RJ3 TJ3 0
theorem nmJ3 : ∀ a, a < 0 → ∀ b, b < 0 → a ≠ b → (TJ3 a).2.1 ≠ (TJ3 b).2.1 := by decide +kernel
theorem tyJ3_ok : ∀ k, k < 0 → parseFieldDescriptor (TJ3 k).2.2.1 = some (tyJ3 k) := by decide +kernel
abbrev cJ3_checkIndex_8e157 : ByteArray := prog_21_method_11_code
def yJ3_checkIndex_8e157 : MethodName := ⟨RJ3, "checkIndex", "(IILjava/util/function/BiFunction;)I"⟩
def RL : String := "KingsBalanceLaw"
abbrev cL_law : ByteArray := code
def yL_law : MethodName := ⟨RL, "law", "([I)Z"⟩
theorem dX0_init_0 : decode cX0_init 0 = .ok (.aload_n 0, 1) := by decide +kernel
theorem dX0_init_1 : decode cX0_init 1 = .ok (.iload_n 1, 1) := by decide +kernel
theorem dX0_init_2 : decode cX0_init 2 = .ok (.iload_n 2, 1) := by decide +kernel
theorem dX0_init_3 : decode cX0_init 3 = .ok (.invokespecial 1, 3) := by decide +kernel
theorem dX0_init_6 : decode cX0_init 6 = .ok (.return_, 1) := by decide +kernel
theorem dX0_camps_0 : decode cX0_camps 0 = .ok (.aload_n 1, 1) := by decide +kernel
theorem dX0_camps_1 : decode cX0_camps 1 = .ok (.iload_n 2, 1) := by decide +kernel
theorem dX0_camps_2 : decode cX0_camps 2 = .ok (.iload_n 3, 1) := by decide +kernel
theorem dX0_camps_3 : decode cX0_camps 3 = .ok (.iconst 0, 1) := by decide +kernel
theorem dX0_camps_4 : decode cX0_camps 4 = .ok (.iconst 0, 1) := by decide +kernel
theorem dX0_camps_5 : decode cX0_camps 5 = .ok (.invokestatic 7, 3) := by decide +kernel
theorem dX0_camps_8 : decode cX0_camps 8 = .ok (.ireturn, 1) := by decide +kernel
theorem dX0_daresAct_0 : decode cX0_daresAct 0 = .ok (.aload_n 1, 1) := by decide +kernel
theorem dX0_daresAct_1 : decode cX0_daresAct 1 = .ok (.bipush 11, 2) := by decide +kernel
theorem dX0_daresAct_3 : decode cX0_daresAct 3 = .ok (.invokestatic 13, 3) := by decide +kernel
theorem dX0_daresAct_6 : decode cX0_daresAct 6 = .ok (.aload_n 0, 1) := by decide +kernel
theorem dX0_daresAct_7 : decode cX0_daresAct 7 = .ok (.aload_n 1, 1) := by decide +kernel
theorem dX0_daresAct_8 : decode cX0_daresAct 8 = .ok (.iload_n 2, 1) := by decide +kernel
theorem dX0_daresAct_9 : decode cX0_daresAct 9 = .ok (.iconst 3, 1) := by decide +kernel
theorem dX0_daresAct_10 : decode cX0_daresAct 10 = .ok (.imul, 1) := by decide +kernel
theorem dX0_daresAct_11 : decode cX0_daresAct 11 = .ok (.invokespecial 17, 3) := by decide +kernel
theorem dX0_daresAct_14 : decode cX0_daresAct 14 = .ok (.ireturn, 1) := by decide +kernel
theorem dX1_init_0 : decode cX1_init 0 = .ok (.aload_n 0, 1) := by decide +kernel
theorem dX1_init_1 : decode cX1_init 1 = .ok (.iload_n 1, 1) := by decide +kernel
theorem dX1_init_2 : decode cX1_init 2 = .ok (.iload_n 2, 1) := by decide +kernel
theorem dX1_init_3 : decode cX1_init 3 = .ok (.invokespecial 1, 3) := by decide +kernel
theorem dX1_init_6 : decode cX1_init 6 = .ok (.return_, 1) := by decide +kernel
theorem dX1_camps_0 : decode cX1_camps 0 = .ok (.iload_n 3, 1) := by decide +kernel
theorem dX1_camps_1 : decode cX1_camps 1 = .ok (.aload_n 0, 1) := by decide +kernel
theorem dX1_camps_2 : decode cX1_camps 2 = .ok (.getfield 7, 3) := by decide +kernel
theorem dX1_camps_5 : decode cX1_camps 5 = .ok (.if_icmp .ne 17, 3) := by decide +kernel
theorem dX1_camps_8 : decode cX1_camps 8 = .ok (.aload_n 1, 1) := by decide +kernel
theorem dX1_camps_9 : decode cX1_camps 9 = .ok (.iload_n 2, 1) := by decide +kernel
theorem dX1_camps_10 : decode cX1_camps 10 = .ok (.iload_n 3, 1) := by decide +kernel
theorem dX1_camps_11 : decode cX1_camps 11 = .ok (.iconst 0, 1) := by decide +kernel
theorem dX1_camps_12 : decode cX1_camps 12 = .ok (.aload_n 1, 1) := by decide +kernel
theorem dX1_camps_13 : decode cX1_camps 13 = .ok (.getfield 13, 3) := by decide +kernel
theorem dX1_camps_16 : decode cX1_camps 16 = .ok (.invokestatic 18, 3) := by decide +kernel
theorem dX1_camps_19 : decode cX1_camps 19 = .ok (.goto 10, 3) := by decide +kernel
theorem dX1_camps_22 : decode cX1_camps 22 = .ok (.aload_n 0, 1) := by decide +kernel
theorem dX1_camps_23 : decode cX1_camps 23 = .ok (.aload_n 1, 1) := by decide +kernel
theorem dX1_camps_24 : decode cX1_camps 24 = .ok (.iload_n 2, 1) := by decide +kernel
theorem dX1_camps_25 : decode cX1_camps 25 = .ok (.iload_n 3, 1) := by decide +kernel
theorem dX1_camps_26 : decode cX1_camps 26 = .ok (.invokespecial 22, 3) := by decide +kernel
theorem dX1_camps_29 : decode cX1_camps 29 = .ok (.ireturn, 1) := by decide +kernel
theorem dX1_comesAct_0 : decode cX1_comesAct 0 = .ok (.aload_n 1, 1) := by decide +kernel
theorem dX1_comesAct_1 : decode cX1_comesAct 1 = .ok (.bipush 51, 2) := by decide +kernel
theorem dX1_comesAct_3 : decode cX1_comesAct 3 = .ok (.invokestatic 26, 3) := by decide +kernel
theorem dX1_comesAct_6 : decode cX1_comesAct 6 = .ok (.aload_n 0, 1) := by decide +kernel
theorem dX1_comesAct_7 : decode cX1_comesAct 7 = .ok (.aload_n 1, 1) := by decide +kernel
theorem dX1_comesAct_8 : decode cX1_comesAct 8 = .ok (.iload_n 2, 1) := by decide +kernel
theorem dX1_comesAct_9 : decode cX1_comesAct 9 = .ok (.invokespecial 30, 3) := by decide +kernel
theorem dX1_comesAct_12 : decode cX1_comesAct 12 = .ok (.aload_n 0, 1) := by decide +kernel
theorem dX1_comesAct_13 : decode cX1_comesAct 13 = .ok (.getfield 34, 3) := by decide +kernel
theorem dX1_comesAct_16 : decode cX1_comesAct 16 = .ok (.ixor, 1) := by decide +kernel
theorem dX1_comesAct_17 : decode cX1_comesAct 17 = .ok (.ireturn, 1) := by decide +kernel
theorem dX2_init_0 : decode cX2_init 0 = .ok (.aload_n 0, 1) := by decide +kernel
theorem dX2_init_1 : decode cX2_init 1 = .ok (.iload_n 1, 1) := by decide +kernel
theorem dX2_init_2 : decode cX2_init 2 = .ok (.iload_n 2, 1) := by decide +kernel
theorem dX2_init_3 : decode cX2_init 3 = .ok (.invokespecial 1, 3) := by decide +kernel
theorem dX2_init_6 : decode cX2_init 6 = .ok (.return_, 1) := by decide +kernel
theorem dX2_camps_0 : decode cX2_camps 0 = .ok (.aload_n 0, 1) := by decide +kernel
theorem dX2_camps_1 : decode cX2_camps 1 = .ok (.aload_n 1, 1) := by decide +kernel
theorem dX2_camps_2 : decode cX2_camps 2 = .ok (.iload_n 2, 1) := by decide +kernel
theorem dX2_camps_3 : decode cX2_camps 3 = .ok (.invokevirtual 7, 3) := by decide +kernel
theorem dX2_camps_6 : decode cX2_camps 6 = .ok (.istore 4, 2) := by decide +kernel
theorem dX2_camps_8 : decode cX2_camps 8 = .ok (.iconst 2, 1) := by decide +kernel
theorem dX2_camps_9 : decode cX2_camps 9 = .ok (.aload_n 1, 1) := by decide +kernel
theorem dX2_camps_10 : decode cX2_camps 10 = .ok (.iload 4, 2) := by decide +kernel
theorem dX2_camps_12 : decode cX2_camps 12 = .ok (.invokevirtual 13, 3) := by decide +kernel
theorem dX2_camps_15 : decode cX2_camps 15 = .ok (.imul, 1) := by decide +kernel
theorem dX2_camps_16 : decode cX2_camps 16 = .ok (.aload_n 1, 1) := by decide +kernel
theorem dX2_camps_17 : decode cX2_camps 17 = .ok (.aload_n 1, 1) := by decide +kernel
theorem dX2_camps_18 : decode cX2_camps 18 = .ok (.getfield 19, 3) := by decide +kernel
theorem dX2_camps_21 : decode cX2_camps 21 = .ok (.invokevirtual 13, 3) := by decide +kernel
theorem dX2_camps_24 : decode cX2_camps 24 = .ok (.if_icmp .gt 11, 3) := by decide +kernel
theorem dX2_camps_27 : decode cX2_camps 27 = .ok (.aload_n 0, 1) := by decide +kernel
theorem dX2_camps_28 : decode cX2_camps 28 = .ok (.aload_n 1, 1) := by decide +kernel
theorem dX2_camps_29 : decode cX2_camps 29 = .ok (.iload_n 2, 1) := by decide +kernel
theorem dX2_camps_30 : decode cX2_camps 30 = .ok (.iload_n 3, 1) := by decide +kernel
theorem dX2_camps_31 : decode cX2_camps 31 = .ok (.invokespecial 23, 3) := by decide +kernel
theorem dX2_camps_34 : decode cX2_camps 34 = .ok (.ireturn, 1) := by decide +kernel
theorem dX2_camps_35 : decode cX2_camps 35 = .ok (.aload_n 1, 1) := by decide +kernel
theorem dX2_camps_36 : decode cX2_camps 36 = .ok (.iload_n 2, 1) := by decide +kernel
theorem dX2_camps_37 : decode cX2_camps 37 = .ok (.iload_n 3, 1) := by decide +kernel
theorem dX2_camps_38 : decode cX2_camps 38 = .ok (.iload 4, 2) := by decide +kernel
theorem dX2_camps_40 : decode cX2_camps 40 = .ok (.iload_n 3, 1) := by decide +kernel
theorem dX2_camps_41 : decode cX2_camps 41 = .ok (.ishr, 1) := by decide +kernel
theorem dX2_camps_42 : decode cX2_camps 42 = .ok (.iconst 1, 1) := by decide +kernel
theorem dX2_camps_43 : decode cX2_camps 43 = .ok (.iand, 1) := by decide +kernel
theorem dX2_camps_44 : decode cX2_camps 44 = .ok (.ifCond .eq 7, 3) := by decide +kernel
theorem dX2_camps_47 : decode cX2_camps 47 = .ok (.iconst 0, 1) := by decide +kernel
theorem dX2_camps_48 : decode cX2_camps 48 = .ok (.goto 5, 3) := by decide +kernel
theorem dX2_camps_51 : decode cX2_camps 51 = .ok (.iload 4, 2) := by decide +kernel
theorem dX2_camps_53 : decode cX2_camps 53 = .ok (.iload 4, 2) := by decide +kernel
theorem dX2_camps_55 : decode cX2_camps 55 = .ok (.iconst (-1), 1) := by decide +kernel
theorem dX2_camps_56 : decode cX2_camps 56 = .ok (.ixor, 1) := by decide +kernel
theorem dX2_camps_57 : decode cX2_camps 57 = .ok (.invokestatic 27, 3) := by decide +kernel
theorem dX2_camps_60 : decode cX2_camps 60 = .ok (.ireturn, 1) := by decide +kernel
theorem dX2_holdsAct_0 : decode cX2_holdsAct 0 = .ok (.aload_n 1, 1) := by decide +kernel
theorem dX2_holdsAct_1 : decode cX2_holdsAct 1 = .ok (.bipush 41, 2) := by decide +kernel
theorem dX2_holdsAct_3 : decode cX2_holdsAct 3 = .ok (.invokestatic 31, 3) := by decide +kernel
theorem dX2_holdsAct_6 : decode cX2_holdsAct 6 = .ok (.aload_n 0, 1) := by decide +kernel
theorem dX2_holdsAct_7 : decode cX2_holdsAct 7 = .ok (.aload_n 1, 1) := by decide +kernel
theorem dX2_holdsAct_8 : decode cX2_holdsAct 8 = .ok (.iload_n 2, 1) := by decide +kernel
theorem dX2_holdsAct_9 : decode cX2_holdsAct 9 = .ok (.iconst 1, 1) := by decide +kernel
theorem dX2_holdsAct_10 : decode cX2_holdsAct 10 = .ok (.isub, 1) := by decide +kernel
theorem dX2_holdsAct_11 : decode cX2_holdsAct 11 = .ok (.invokespecial 35, 3) := by decide +kernel
theorem dX2_holdsAct_14 : decode cX2_holdsAct 14 = .ok (.aload_n 0, 1) := by decide +kernel
theorem dX2_holdsAct_15 : decode cX2_holdsAct 15 = .ok (.aload_n 1, 1) := by decide +kernel
theorem dX2_holdsAct_16 : decode cX2_holdsAct 16 = .ok (.iconst 2, 1) := by decide +kernel
theorem dX2_holdsAct_17 : decode cX2_holdsAct 17 = .ok (.invokevirtual 39, 3) := by decide +kernel
theorem dX2_holdsAct_20 : decode cX2_holdsAct 20 = .ok (.iadd, 1) := by decide +kernel
theorem dX2_holdsAct_21 : decode cX2_holdsAct 21 = .ok (.ireturn, 1) := by decide +kernel
theorem dX3_init_0 : decode cX3_init 0 = .ok (.aload_n 0, 1) := by decide +kernel
theorem dX3_init_1 : decode cX3_init 1 = .ok (.invokespecial 3, 3) := by decide +kernel
theorem dX3_init_4 : decode cX3_init 4 = .ok (.aload_n 0, 1) := by decide +kernel
theorem dX3_init_5 : decode cX3_init 5 = .ok (.iconst 0, 1) := by decide +kernel
theorem dX3_init_6 : decode cX3_init 6 = .ok (.putfield 9, 3) := by decide +kernel
theorem dX3_init_9 : decode cX3_init 9 = .ok (.aload_n 0, 1) := by decide +kernel
theorem dX3_init_10 : decode cX3_init 10 = .ok (.iconst 0, 1) := by decide +kernel
theorem dX3_init_11 : decode cX3_init 11 = .ok (.putfield 15, 3) := by decide +kernel
theorem dX3_init_14 : decode cX3_init 14 = .ok (.aload_n 0, 1) := by decide +kernel
theorem dX3_init_15 : decode cX3_init 15 = .ok (.iconst 0, 1) := by decide +kernel
theorem dX3_init_16 : decode cX3_init 16 = .ok (.putfield 18, 3) := by decide +kernel
theorem dX3_init_19 : decode cX3_init 19 = .ok (.aload_n 0, 1) := by decide +kernel
theorem dX3_init_20 : decode cX3_init 20 = .ok (.iconst 0, 1) := by decide +kernel
theorem dX3_init_21 : decode cX3_init 21 = .ok (.putfield 21, 3) := by decide +kernel
theorem dX3_init_24 : decode cX3_init 24 = .ok (.aload_n 0, 1) := by decide +kernel
theorem dX3_init_25 : decode cX3_init 25 = .ok (.iconst 0, 1) := by decide +kernel
theorem dX3_init_26 : decode cX3_init 26 = .ok (.putfield 24, 3) := by decide +kernel
theorem dX3_init_29 : decode cX3_init 29 = .ok (.aload_n 0, 1) := by decide +kernel
theorem dX3_init_30 : decode cX3_init 30 = .ok (.bipush 7, 2) := by decide +kernel
theorem dX3_init_32 : decode cX3_init 32 = .ok (.newarray .int, 2) := by decide +kernel
theorem dX3_init_34 : decode cX3_init 34 = .ok (.putfield 27, 3) := by decide +kernel
theorem dX3_init_37 : decode cX3_init 37 = .ok (.aload_n 0, 1) := by decide +kernel
theorem dX3_init_38 : decode cX3_init 38 = .ok (.bipush 7, 2) := by decide +kernel
theorem dX3_init_40 : decode cX3_init 40 = .ok (.newarray .int, 2) := by decide +kernel
theorem dX3_init_42 : decode cX3_init 42 = .ok (.putfield 31, 3) := by decide +kernel
theorem dX3_init_45 : decode cX3_init 45 = .ok (.aload_n 0, 1) := by decide +kernel
theorem dX3_init_46 : decode cX3_init 46 = .ok (.bipush 7, 2) := by decide +kernel
theorem dX3_init_48 : decode cX3_init 48 = .ok (.newarray .int, 2) := by decide +kernel
theorem dX3_init_50 : decode cX3_init 50 = .ok (.putfield 34, 3) := by decide +kernel
theorem dX3_init_53 : decode cX3_init 53 = .ok (.aload_n 0, 1) := by decide +kernel
theorem dX3_init_54 : decode cX3_init 54 = .ok (.bipush 7, 2) := by decide +kernel
theorem dX3_init_56 : decode cX3_init 56 = .ok (.bipush 7, 2) := by decide +kernel
theorem dX3_init_58 : decode cX3_init 58 = .ok (.multianewarray 37 2, 4) := by decide +kernel
theorem dX3_init_62 : decode cX3_init 62 = .ok (.putfield 39, 3) := by decide +kernel
theorem dX3_init_65 : decode cX3_init 65 = .ok (.aload_n 0, 1) := by decide +kernel
theorem dX3_init_66 : decode cX3_init 66 = .ok (.bipush 7, 2) := by decide +kernel
theorem dX3_init_68 : decode cX3_init 68 = .ok (.bipush 7, 2) := by decide +kernel
theorem dX3_init_70 : decode cX3_init 70 = .ok (.multianewarray 37 2, 4) := by decide +kernel
theorem dX3_init_74 : decode cX3_init 74 = .ok (.putfield 42, 3) := by decide +kernel
theorem dX3_init_77 : decode cX3_init 77 = .ok (.aload_n 0, 1) := by decide +kernel
theorem dX3_init_78 : decode cX3_init 78 = .ok (.new 45, 3) := by decide +kernel
theorem dX3_init_81 : decode cX3_init 81 = .ok (.dup, 1) := by decide +kernel
theorem dX3_init_82 : decode cX3_init 82 = .ok (.invokespecial 47, 3) := by decide +kernel
theorem dX3_init_85 : decode cX3_init 85 = .ok (.putfield 48, 3) := by decide +kernel
theorem dX3_init_88 : decode cX3_init 88 = .ok (.aload_n 0, 1) := by decide +kernel
theorem dX3_init_89 : decode cX3_init 89 = .ok (.new 52, 3) := by decide +kernel
theorem dX3_init_92 : decode cX3_init 92 = .ok (.dup, 1) := by decide +kernel
theorem dX3_init_93 : decode cX3_init 93 = .ok (.invokespecial 54, 3) := by decide +kernel
theorem dX3_init_96 : decode cX3_init 96 = .ok (.putfield 55, 3) := by decide +kernel
theorem dX3_init_99 : decode cX3_init 99 = .ok (.aload_n 0, 1) := by decide +kernel
theorem dX3_init_100 : decode cX3_init 100 = .ok (.bipush 8, 2) := by decide +kernel
theorem dX3_init_102 : decode cX3_init 102 = .ok (.anewarray 59, 3) := by decide +kernel
theorem dX3_init_105 : decode cX3_init 105 = .ok (.putfield 61, 3) := by decide +kernel
theorem dX3_init_108 : decode cX3_init 108 = .ok (.aload_n 0, 1) := by decide +kernel
theorem dX3_init_109 : decode cX3_init 109 = .ok (.bipush 9, 2) := by decide +kernel
theorem dX3_init_111 : decode cX3_init 111 = .ok (.bipush 7, 2) := by decide +kernel
theorem dX3_init_113 : decode cX3_init 113 = .ok (.multianewarray 37 2, 4) := by decide +kernel
theorem dX3_init_117 : decode cX3_init 117 = .ok (.putfield 65, 3) := by decide +kernel
theorem dX3_init_120 : decode cX3_init 120 = .ok (.iconst 0, 1) := by decide +kernel
theorem dX3_init_121 : decode cX3_init 121 = .ok (.istore_n 1, 1) := by decide +kernel
theorem dX3_init_122 : decode cX3_init 122 = .ok (.iload_n 1, 1) := by decide +kernel
theorem dX3_init_123 : decode cX3_init 123 = .ok (.bipush 7, 2) := by decide +kernel
theorem dX3_init_125 : decode cX3_init 125 = .ok (.if_icmp .ge 63, 3) := by decide +kernel
theorem dX3_init_128 : decode cX3_init 128 = .ok (.aload_n 0, 1) := by decide +kernel
theorem dX3_init_129 : decode cX3_init 129 = .ok (.getfield 34, 3) := by decide +kernel
theorem dX3_init_132 : decode cX3_init 132 = .ok (.iload_n 1, 1) := by decide +kernel
theorem dX3_init_133 : decode cX3_init 133 = .ok (.iload_n 1, 1) := by decide +kernel
theorem dX3_init_134 : decode cX3_init 134 = .ok (.iastore, 1) := by decide +kernel
theorem dX3_init_135 : decode cX3_init 135 = .ok (.iconst 0, 1) := by decide +kernel
theorem dX3_init_136 : decode cX3_init 136 = .ok (.istore_n 2, 1) := by decide +kernel
theorem dX3_init_137 : decode cX3_init 137 = .ok (.iload_n 2, 1) := by decide +kernel
theorem dX3_init_138 : decode cX3_init 138 = .ok (.bipush 7, 2) := by decide +kernel
theorem dX3_init_140 : decode cX3_init 140 = .ok (.if_icmp .ge 19, 3) := by decide +kernel
theorem dX3_init_143 : decode cX3_init 143 = .ok (.aload_n 0, 1) := by decide +kernel
theorem dX3_init_144 : decode cX3_init 144 = .ok (.getfield 39, 3) := by decide +kernel
theorem dX3_init_147 : decode cX3_init 147 = .ok (.iload_n 1, 1) := by decide +kernel
theorem dX3_init_148 : decode cX3_init 148 = .ok (.aaload, 1) := by decide +kernel
theorem dX3_init_149 : decode cX3_init 149 = .ok (.iload_n 2, 1) := by decide +kernel
theorem dX3_init_150 : decode cX3_init 150 = .ok (.bipush 10, 2) := by decide +kernel
theorem dX3_init_152 : decode cX3_init 152 = .ok (.iastore, 1) := by decide +kernel
theorem dX3_init_153 : decode cX3_init 153 = .ok (.iinc 2 1, 3) := by decide +kernel
theorem dX3_init_156 : decode cX3_init 156 = .ok (.goto (-19), 3) := by decide +kernel
theorem dX3_init_159 : decode cX3_init 159 = .ok (.iconst 0, 1) := by decide +kernel
theorem dX3_init_160 : decode cX3_init 160 = .ok (.istore_n 2, 1) := by decide +kernel
theorem dX3_init_161 : decode cX3_init 161 = .ok (.iload_n 2, 1) := by decide +kernel
theorem dX3_init_162 : decode cX3_init 162 = .ok (.bipush 8, 2) := by decide +kernel
theorem dX3_init_164 : decode cX3_init 164 = .ok (.if_icmp .ge 18, 3) := by decide +kernel
theorem dX3_init_167 : decode cX3_init 167 = .ok (.aload_n 0, 1) := by decide +kernel
theorem dX3_init_168 : decode cX3_init 168 = .ok (.getfield 65, 3) := by decide +kernel
theorem dX3_init_171 : decode cX3_init 171 = .ok (.iload_n 2, 1) := by decide +kernel
theorem dX3_init_172 : decode cX3_init 172 = .ok (.aaload, 1) := by decide +kernel
theorem dX3_init_173 : decode cX3_init 173 = .ok (.iload_n 1, 1) := by decide +kernel
theorem dX3_init_174 : decode cX3_init 174 = .ok (.iload_n 1, 1) := by decide +kernel
theorem dX3_init_175 : decode cX3_init 175 = .ok (.iastore, 1) := by decide +kernel
theorem dX3_init_176 : decode cX3_init 176 = .ok (.iinc 2 1, 3) := by decide +kernel
theorem dX3_init_179 : decode cX3_init 179 = .ok (.goto (-18), 3) := by decide +kernel
theorem dX3_init_182 : decode cX3_init 182 = .ok (.iinc 1 1, 3) := by decide +kernel
theorem dX3_init_185 : decode cX3_init 185 = .ok (.goto (-63), 3) := by decide +kernel
theorem dX3_init_188 : decode cX3_init 188 = .ok (.return_, 1) := by decide +kernel
theorem dX3_become_0 : decode cX3_become 0 = .ok (.aload_n 0, 1) := by decide +kernel
theorem dX3_become_1 : decode cX3_become 1 = .ok (.aload_n 1, 1) := by decide +kernel
theorem dX3_become_2 : decode cX3_become 2 = .ok (.getfield 9, 3) := by decide +kernel
theorem dX3_become_5 : decode cX3_become 5 = .ok (.putfield 9, 3) := by decide +kernel
theorem dX3_become_8 : decode cX3_become 8 = .ok (.aload_n 0, 1) := by decide +kernel
theorem dX3_become_9 : decode cX3_become 9 = .ok (.aload_n 1, 1) := by decide +kernel
theorem dX3_become_10 : decode cX3_become 10 = .ok (.getfield 15, 3) := by decide +kernel
theorem dX3_become_13 : decode cX3_become 13 = .ok (.putfield 15, 3) := by decide +kernel
theorem dX3_become_16 : decode cX3_become 16 = .ok (.aload_n 0, 1) := by decide +kernel
theorem dX3_become_17 : decode cX3_become 17 = .ok (.aload_n 1, 1) := by decide +kernel
theorem dX3_become_18 : decode cX3_become 18 = .ok (.getfield 18, 3) := by decide +kernel
theorem dX3_become_21 : decode cX3_become 21 = .ok (.putfield 18, 3) := by decide +kernel
theorem dX3_become_24 : decode cX3_become 24 = .ok (.aload_n 0, 1) := by decide +kernel
theorem dX3_become_25 : decode cX3_become 25 = .ok (.aload_n 1, 1) := by decide +kernel
theorem dX3_become_26 : decode cX3_become 26 = .ok (.getfield 21, 3) := by decide +kernel
theorem dX3_become_29 : decode cX3_become 29 = .ok (.putfield 21, 3) := by decide +kernel
theorem dX3_become_32 : decode cX3_become 32 = .ok (.aload_n 0, 1) := by decide +kernel
theorem dX3_become_33 : decode cX3_become 33 = .ok (.aload_n 1, 1) := by decide +kernel
theorem dX3_become_34 : decode cX3_become 34 = .ok (.getfield 24, 3) := by decide +kernel
theorem dX3_become_37 : decode cX3_become 37 = .ok (.putfield 24, 3) := by decide +kernel
theorem dX3_become_40 : decode cX3_become 40 = .ok (.iconst 0, 1) := by decide +kernel
theorem dX3_become_41 : decode cX3_become 41 = .ok (.istore_n 2, 1) := by decide +kernel
theorem dX3_become_42 : decode cX3_become 42 = .ok (.iload_n 2, 1) := by decide +kernel
theorem dX3_become_43 : decode cX3_become 43 = .ok (.bipush 7, 2) := by decide +kernel
theorem dX3_become_45 : decode cX3_become 45 = .ok (.if_icmp .ge 83, 3) := by decide +kernel
theorem dX3_become_48 : decode cX3_become 48 = .ok (.aload_n 0, 1) := by decide +kernel
theorem dX3_become_49 : decode cX3_become 49 = .ok (.getfield 27, 3) := by decide +kernel
theorem dX3_become_52 : decode cX3_become 52 = .ok (.iload_n 2, 1) := by decide +kernel
theorem dX3_become_53 : decode cX3_become 53 = .ok (.aload_n 1, 1) := by decide +kernel
theorem dX3_become_54 : decode cX3_become 54 = .ok (.getfield 27, 3) := by decide +kernel
theorem dX3_become_57 : decode cX3_become 57 = .ok (.iload_n 2, 1) := by decide +kernel
theorem dX3_become_58 : decode cX3_become 58 = .ok (.iaload, 1) := by decide +kernel
theorem dX3_become_59 : decode cX3_become 59 = .ok (.iastore, 1) := by decide +kernel
theorem dX3_become_60 : decode cX3_become 60 = .ok (.aload_n 0, 1) := by decide +kernel
theorem dX3_become_61 : decode cX3_become 61 = .ok (.getfield 31, 3) := by decide +kernel
theorem dX3_become_64 : decode cX3_become 64 = .ok (.iload_n 2, 1) := by decide +kernel
theorem dX3_become_65 : decode cX3_become 65 = .ok (.aload_n 1, 1) := by decide +kernel
theorem dX3_become_66 : decode cX3_become 66 = .ok (.getfield 31, 3) := by decide +kernel
theorem dX3_become_69 : decode cX3_become 69 = .ok (.iload_n 2, 1) := by decide +kernel
theorem dX3_become_70 : decode cX3_become 70 = .ok (.iaload, 1) := by decide +kernel
theorem dX3_become_71 : decode cX3_become 71 = .ok (.iastore, 1) := by decide +kernel
theorem dX3_become_72 : decode cX3_become 72 = .ok (.aload_n 0, 1) := by decide +kernel
theorem dX3_become_73 : decode cX3_become 73 = .ok (.getfield 34, 3) := by decide +kernel
theorem dX3_become_76 : decode cX3_become 76 = .ok (.iload_n 2, 1) := by decide +kernel
theorem dX3_become_77 : decode cX3_become 77 = .ok (.aload_n 1, 1) := by decide +kernel
theorem dX3_become_78 : decode cX3_become 78 = .ok (.getfield 34, 3) := by decide +kernel
theorem dX3_become_81 : decode cX3_become 81 = .ok (.iload_n 2, 1) := by decide +kernel
theorem dX3_become_82 : decode cX3_become 82 = .ok (.iaload, 1) := by decide +kernel
theorem dX3_become_83 : decode cX3_become 83 = .ok (.iastore, 1) := by decide +kernel
theorem dX3_become_84 : decode cX3_become 84 = .ok (.aload_n 1, 1) := by decide +kernel
theorem dX3_become_85 : decode cX3_become 85 = .ok (.getfield 39, 3) := by decide +kernel
theorem dX3_become_88 : decode cX3_become 88 = .ok (.iload_n 2, 1) := by decide +kernel
theorem dX3_become_89 : decode cX3_become 89 = .ok (.aaload, 1) := by decide +kernel
theorem dX3_become_90 : decode cX3_become 90 = .ok (.iconst 0, 1) := by decide +kernel
theorem dX3_become_91 : decode cX3_become 91 = .ok (.aload_n 0, 1) := by decide +kernel
theorem dX3_become_92 : decode cX3_become 92 = .ok (.getfield 39, 3) := by decide +kernel
theorem dX3_become_95 : decode cX3_become 95 = .ok (.iload_n 2, 1) := by decide +kernel
theorem dX3_become_96 : decode cX3_become 96 = .ok (.aaload, 1) := by decide +kernel
theorem dX3_become_97 : decode cX3_become 97 = .ok (.iconst 0, 1) := by decide +kernel
theorem dX3_become_98 : decode cX3_become 98 = .ok (.bipush 7, 2) := by decide +kernel
theorem dX3_become_100 : decode cX3_become 100 = .ok (.invokestatic 68, 3) := by decide +kernel
theorem dX3_become_103 : decode cX3_become 103 = .ok (.aload_n 1, 1) := by decide +kernel
theorem dX3_become_104 : decode cX3_become 104 = .ok (.getfield 42, 3) := by decide +kernel
theorem dX3_become_107 : decode cX3_become 107 = .ok (.iload_n 2, 1) := by decide +kernel
theorem dX3_become_108 : decode cX3_become 108 = .ok (.aaload, 1) := by decide +kernel
theorem dX3_become_109 : decode cX3_become 109 = .ok (.iconst 0, 1) := by decide +kernel
theorem dX3_become_110 : decode cX3_become 110 = .ok (.aload_n 0, 1) := by decide +kernel
theorem dX3_become_111 : decode cX3_become 111 = .ok (.getfield 42, 3) := by decide +kernel
theorem dX3_become_114 : decode cX3_become 114 = .ok (.iload_n 2, 1) := by decide +kernel
theorem dX3_become_115 : decode cX3_become 115 = .ok (.aaload, 1) := by decide +kernel
theorem dX3_become_116 : decode cX3_become 116 = .ok (.iconst 0, 1) := by decide +kernel
theorem dX3_become_117 : decode cX3_become 117 = .ok (.bipush 7, 2) := by decide +kernel
theorem dX3_become_119 : decode cX3_become 119 = .ok (.invokestatic 68, 3) := by decide +kernel
theorem dX3_become_122 : decode cX3_become 122 = .ok (.iinc 2 1, 3) := by decide +kernel
theorem dX3_become_125 : decode cX3_become 125 = .ok (.goto (-83), 3) := by decide +kernel
theorem dX3_become_128 : decode cX3_become 128 = .ok (.iconst 0, 1) := by decide +kernel
theorem dX3_become_129 : decode cX3_become 129 = .ok (.istore_n 2, 1) := by decide +kernel
theorem dX3_become_130 : decode cX3_become 130 = .ok (.iload_n 2, 1) := by decide +kernel
theorem dX3_become_131 : decode cX3_become 131 = .ok (.bipush 8, 2) := by decide +kernel
theorem dX3_become_133 : decode cX3_become 133 = .ok (.if_icmp .ge 40, 3) := by decide +kernel
theorem dX3_become_136 : decode cX3_become 136 = .ok (.aload_n 0, 1) := by decide +kernel
theorem dX3_become_137 : decode cX3_become 137 = .ok (.getfield 61, 3) := by decide +kernel
theorem dX3_become_140 : decode cX3_become 140 = .ok (.iload_n 2, 1) := by decide +kernel
theorem dX3_become_141 : decode cX3_become 141 = .ok (.aload_n 1, 1) := by decide +kernel
theorem dX3_become_142 : decode cX3_become 142 = .ok (.getfield 61, 3) := by decide +kernel
theorem dX3_become_145 : decode cX3_become 145 = .ok (.iload_n 2, 1) := by decide +kernel
theorem dX3_become_146 : decode cX3_become 146 = .ok (.aaload, 1) := by decide +kernel
theorem dX3_become_147 : decode cX3_become 147 = .ok (.aastore, 1) := by decide +kernel
theorem dX3_become_148 : decode cX3_become 148 = .ok (.aload_n 1, 1) := by decide +kernel
theorem dX3_become_149 : decode cX3_become 149 = .ok (.getfield 65, 3) := by decide +kernel
theorem dX3_become_152 : decode cX3_become 152 = .ok (.iload_n 2, 1) := by decide +kernel
theorem dX3_become_153 : decode cX3_become 153 = .ok (.aaload, 1) := by decide +kernel
theorem dX3_become_154 : decode cX3_become 154 = .ok (.iconst 0, 1) := by decide +kernel
theorem dX3_become_155 : decode cX3_become 155 = .ok (.aload_n 0, 1) := by decide +kernel
theorem dX3_become_156 : decode cX3_become 156 = .ok (.getfield 65, 3) := by decide +kernel
theorem dX3_become_159 : decode cX3_become 159 = .ok (.iload_n 2, 1) := by decide +kernel
theorem dX3_become_160 : decode cX3_become 160 = .ok (.aaload, 1) := by decide +kernel
theorem dX3_become_161 : decode cX3_become 161 = .ok (.iconst 0, 1) := by decide +kernel
theorem dX3_become_162 : decode cX3_become 162 = .ok (.bipush 7, 2) := by decide +kernel
theorem dX3_become_164 : decode cX3_become 164 = .ok (.invokestatic 68, 3) := by decide +kernel
theorem dX3_become_167 : decode cX3_become 167 = .ok (.iinc 2 1, 3) := by decide +kernel
theorem dX3_become_170 : decode cX3_become 170 = .ok (.goto (-40), 3) := by decide +kernel
theorem dX3_become_173 : decode cX3_become 173 = .ok (.aload_n 0, 1) := by decide +kernel
theorem dX3_become_174 : decode cX3_become 174 = .ok (.getfield 48, 3) := by decide +kernel
theorem dX3_become_177 : decode cX3_become 177 = .ok (.aload_n 1, 1) := by decide +kernel
theorem dX3_become_178 : decode cX3_become 178 = .ok (.getfield 48, 3) := by decide +kernel
theorem dX3_become_181 : decode cX3_become 181 = .ok (.invokevirtual 74, 3) := by decide +kernel
theorem dX3_become_184 : decode cX3_become 184 = .ok (.aload_n 0, 1) := by decide +kernel
theorem dX3_become_185 : decode cX3_become 185 = .ok (.getfield 55, 3) := by decide +kernel
theorem dX3_become_188 : decode cX3_become 188 = .ok (.aload_n 1, 1) := by decide +kernel
theorem dX3_become_189 : decode cX3_become 189 = .ok (.getfield 55, 3) := by decide +kernel
theorem dX3_become_192 : decode cX3_become 192 = .ok (.invokevirtual 78, 3) := by decide +kernel
theorem dX3_become_195 : decode cX3_become 195 = .ok (.return_, 1) := by decide +kernel
theorem dX3_has_0 : decode cX3_has 0 = .ok (.iload_n 1, 1) := by decide +kernel
theorem dX3_has_1 : decode cX3_has 1 = .ok (.ifCond .lt 15, 3) := by decide +kernel
theorem dX3_has_4 : decode cX3_has 4 = .ok (.iload_n 1, 1) := by decide +kernel
theorem dX3_has_5 : decode cX3_has 5 = .ok (.aload_n 0, 1) := by decide +kernel
theorem dX3_has_6 : decode cX3_has 6 = .ok (.getfield 9, 3) := by decide +kernel
theorem dX3_has_9 : decode cX3_has 9 = .ok (.if_icmp .ge 7, 3) := by decide +kernel
theorem dX3_has_12 : decode cX3_has 12 = .ok (.iconst 1, 1) := by decide +kernel
theorem dX3_has_13 : decode cX3_has 13 = .ok (.goto 4, 3) := by decide +kernel
theorem dX3_has_16 : decode cX3_has 16 = .ok (.iconst 0, 1) := by decide +kernel
theorem dX3_has_17 : decode cX3_has 17 = .ok (.ireturn, 1) := by decide +kernel
theorem dX3_lives_0 : decode cX3_lives 0 = .ok (.aload_n 0, 1) := by decide +kernel
theorem dX3_lives_1 : decode cX3_lives 1 = .ok (.getfield 15, 3) := by decide +kernel
theorem dX3_lives_4 : decode cX3_lives 4 = .ok (.iload_n 1, 1) := by decide +kernel
theorem dX3_lives_5 : decode cX3_lives 5 = .ok (.ishr, 1) := by decide +kernel
theorem dX3_lives_6 : decode cX3_lives 6 = .ok (.iconst 1, 1) := by decide +kernel
theorem dX3_lives_7 : decode cX3_lives 7 = .ok (.iand, 1) := by decide +kernel
theorem dX3_lives_8 : decode cX3_lives 8 = .ok (.ifCond .eq 7, 3) := by decide +kernel
theorem dX3_lives_11 : decode cX3_lives 11 = .ok (.iconst 1, 1) := by decide +kernel
theorem dX3_lives_12 : decode cX3_lives 12 = .ok (.goto 4, 3) := by decide +kernel
theorem dX3_lives_15 : decode cX3_lives 15 = .ok (.iconst 0, 1) := by decide +kernel
theorem dX3_lives_16 : decode cX3_lives 16 = .ok (.ireturn, 1) := by decide +kernel
theorem dX3_standingAt_0 : decode cX3_standingAt 0 = .ok (.iload_n 1, 1) := by decide +kernel
theorem dX3_standingAt_1 : decode cX3_standingAt 1 = .ok (.ifCond .lt 20, 3) := by decide +kernel
theorem dX3_standingAt_4 : decode cX3_standingAt 4 = .ok (.iload_n 1, 1) := by decide +kernel
theorem dX3_standingAt_5 : decode cX3_standingAt 5 = .ok (.aload_n 0, 1) := by decide +kernel
theorem dX3_standingAt_6 : decode cX3_standingAt 6 = .ok (.getfield 21, 3) := by decide +kernel
theorem dX3_standingAt_9 : decode cX3_standingAt 9 = .ok (.if_icmp .ge 12, 3) := by decide +kernel
theorem dX3_standingAt_12 : decode cX3_standingAt 12 = .ok (.aload_n 0, 1) := by decide +kernel
theorem dX3_standingAt_13 : decode cX3_standingAt 13 = .ok (.getfield 61, 3) := by decide +kernel
theorem dX3_standingAt_16 : decode cX3_standingAt 16 = .ok (.iload_n 1, 1) := by decide +kernel
theorem dX3_standingAt_17 : decode cX3_standingAt 17 = .ok (.aaload, 1) := by decide +kernel
theorem dX3_standingAt_18 : decode cX3_standingAt 18 = .ok (.goto 4, 3) := by decide +kernel
theorem dX3_standingAt_21 : decode cX3_standingAt 21 = .ok (.aconst_null, 1) := by decide +kernel
theorem dX3_standingAt_22 : decode cX3_standingAt 22 = .ok (.areturn, 1) := by decide +kernel
theorem dX3_add_0 : decode cX3_add 0 = .ok (.aload_n 0, 1) := by decide +kernel
theorem dX3_add_1 : decode cX3_add 1 = .ok (.getfield 9, 3) := by decide +kernel
theorem dX3_add_4 : decode cX3_add 4 = .ok (.istore_n 3, 1) := by decide +kernel
theorem dX3_add_5 : decode cX3_add 5 = .ok (.aload_n 0, 1) := by decide +kernel
theorem dX3_add_6 : decode cX3_add 6 = .ok (.getfield 27, 3) := by decide +kernel
theorem dX3_add_9 : decode cX3_add 9 = .ok (.iload_n 3, 1) := by decide +kernel
theorem dX3_add_10 : decode cX3_add 10 = .ok (.iload_n 1, 1) := by decide +kernel
theorem dX3_add_11 : decode cX3_add 11 = .ok (.iastore, 1) := by decide +kernel
theorem dX3_add_12 : decode cX3_add 12 = .ok (.aload_n 0, 1) := by decide +kernel
theorem dX3_add_13 : decode cX3_add 13 = .ok (.getfield 31, 3) := by decide +kernel
theorem dX3_add_16 : decode cX3_add 16 = .ok (.iload_n 3, 1) := by decide +kernel
theorem dX3_add_17 : decode cX3_add 17 = .ok (.iload_n 2, 1) := by decide +kernel
theorem dX3_add_18 : decode cX3_add 18 = .ok (.iastore, 1) := by decide +kernel
theorem dX3_add_19 : decode cX3_add 19 = .ok (.aload_n 0, 1) := by decide +kernel
theorem dX3_add_20 : decode cX3_add 20 = .ok (.dup, 1) := by decide +kernel
theorem dX3_add_21 : decode cX3_add 21 = .ok (.getfield 15, 3) := by decide +kernel
theorem dX3_add_24 : decode cX3_add 24 = .ok (.iconst 1, 1) := by decide +kernel
theorem dX3_add_25 : decode cX3_add 25 = .ok (.iload_n 3, 1) := by decide +kernel
theorem dX3_add_26 : decode cX3_add 26 = .ok (.ishl, 1) := by decide +kernel
theorem dX3_add_27 : decode cX3_add 27 = .ok (.ior, 1) := by decide +kernel
theorem dX3_add_28 : decode cX3_add 28 = .ok (.putfield 15, 3) := by decide +kernel
theorem dX3_add_31 : decode cX3_add 31 = .ok (.aload_n 0, 1) := by decide +kernel
theorem dX3_add_32 : decode cX3_add 32 = .ok (.dup, 1) := by decide +kernel
theorem dX3_add_33 : decode cX3_add 33 = .ok (.getfield 9, 3) := by decide +kernel
theorem dX3_add_36 : decode cX3_add 36 = .ok (.iconst 1, 1) := by decide +kernel
theorem dX3_add_37 : decode cX3_add 37 = .ok (.iadd, 1) := by decide +kernel
theorem dX3_add_38 : decode cX3_add 38 = .ok (.putfield 9, 3) := by decide +kernel
theorem dX3_add_41 : decode cX3_add 41 = .ok (.iload_n 3, 1) := by decide +kernel
theorem dX3_add_42 : decode cX3_add 42 = .ok (.ireturn, 1) := by decide +kernel
theorem dX3_forceAt_0 : decode cX3_forceAt 0 = .ok (.iconst 0, 1) := by decide +kernel
theorem dX3_forceAt_1 : decode cX3_forceAt 1 = .ok (.aload_n 0, 1) := by decide +kernel
theorem dX3_forceAt_2 : decode cX3_forceAt 2 = .ok (.getfield 27, 3) := by decide +kernel
theorem dX3_forceAt_5 : decode cX3_forceAt 5 = .ok (.iload_n 1, 1) := by decide +kernel
theorem dX3_forceAt_6 : decode cX3_forceAt 6 = .ok (.iaload, 1) := by decide +kernel
theorem dX3_forceAt_7 : decode cX3_forceAt 7 = .ok (.sipush 1000, 3) := by decide +kernel
theorem dX3_forceAt_10 : decode cX3_forceAt 10 = .ok (.imul, 1) := by decide +kernel
theorem dX3_forceAt_11 : decode cX3_forceAt 11 = .ok (.aload_n 0, 1) := by decide +kernel
theorem dX3_forceAt_12 : decode cX3_forceAt 12 = .ok (.getfield 55, 3) := by decide +kernel
theorem dX3_forceAt_15 : decode cX3_forceAt 15 = .ok (.getfield 81, 3) := by decide +kernel
theorem dX3_forceAt_18 : decode cX3_forceAt 18 = .ok (.aload_n 0, 1) := by decide +kernel
theorem dX3_forceAt_19 : decode cX3_forceAt 19 = .ok (.getfield 31, 3) := by decide +kernel
theorem dX3_forceAt_22 : decode cX3_forceAt 22 = .ok (.iload_n 1, 1) := by decide +kernel
theorem dX3_forceAt_23 : decode cX3_forceAt 23 = .ok (.iaload, 1) := by decide +kernel
theorem dX3_forceAt_24 : decode cX3_forceAt 24 = .ok (.iload_n 2, 1) := by decide +kernel
theorem dX3_forceAt_25 : decode cX3_forceAt 25 = .ok (.isub, 1) := by decide +kernel
theorem dX3_forceAt_26 : decode cX3_forceAt 26 = .ok (.invokestatic 84, 3) := by decide +kernel
theorem dX3_forceAt_29 : decode cX3_forceAt 29 = .ok (.imul, 1) := by decide +kernel
theorem dX3_forceAt_30 : decode cX3_forceAt 30 = .ok (.isub, 1) := by decide +kernel
theorem dX3_forceAt_31 : decode cX3_forceAt 31 = .ok (.invokestatic 90, 3) := by decide +kernel
theorem dX3_forceAt_34 : decode cX3_forceAt 34 = .ok (.ireturn, 1) := by decide +kernel
theorem dX3_forcesAt_0 : decode cX3_forcesAt 0 = .ok (.iconst 0, 1) := by decide +kernel
theorem dX3_forcesAt_1 : decode cX3_forcesAt 1 = .ok (.istore_n 3, 1) := by decide +kernel
theorem dX3_forcesAt_2 : decode cX3_forcesAt 2 = .ok (.iconst 0, 1) := by decide +kernel
theorem dX3_forcesAt_3 : decode cX3_forcesAt 3 = .ok (.istore 4, 2) := by decide +kernel
theorem dX3_forcesAt_5 : decode cX3_forcesAt 5 = .ok (.iload 4, 2) := by decide +kernel
theorem dX3_forcesAt_7 : decode cX3_forcesAt 7 = .ok (.aload_n 0, 1) := by decide +kernel
theorem dX3_forcesAt_8 : decode cX3_forcesAt 8 = .ok (.getfield 9, 3) := by decide +kernel
theorem dX3_forcesAt_11 : decode cX3_forcesAt 11 = .ok (.if_icmp .ge 28, 3) := by decide +kernel
theorem dX3_forcesAt_14 : decode cX3_forcesAt 14 = .ok (.iload_n 1, 1) := by decide +kernel
theorem dX3_forcesAt_15 : decode cX3_forcesAt 15 = .ok (.iload 4, 2) := by decide +kernel
theorem dX3_forcesAt_17 : decode cX3_forcesAt 17 = .ok (.ishr, 1) := by decide +kernel
theorem dX3_forcesAt_18 : decode cX3_forcesAt 18 = .ok (.iconst 1, 1) := by decide +kernel
theorem dX3_forcesAt_19 : decode cX3_forcesAt 19 = .ok (.iand, 1) := by decide +kernel
theorem dX3_forcesAt_20 : decode cX3_forcesAt 20 = .ok (.ifCond .eq 13, 3) := by decide +kernel
theorem dX3_forcesAt_23 : decode cX3_forcesAt 23 = .ok (.iload_n 3, 1) := by decide +kernel
theorem dX3_forcesAt_24 : decode cX3_forcesAt 24 = .ok (.aload_n 0, 1) := by decide +kernel
theorem dX3_forcesAt_25 : decode cX3_forcesAt 25 = .ok (.iload 4, 2) := by decide +kernel
theorem dX3_forcesAt_27 : decode cX3_forcesAt 27 = .ok (.iload_n 2, 1) := by decide +kernel
theorem dX3_forcesAt_28 : decode cX3_forcesAt 28 = .ok (.invokevirtual 94, 3) := by decide +kernel
theorem dX3_forcesAt_31 : decode cX3_forcesAt 31 = .ok (.iadd, 1) := by decide +kernel
theorem dX3_forcesAt_32 : decode cX3_forcesAt 32 = .ok (.istore_n 3, 1) := by decide +kernel
theorem dX3_forcesAt_33 : decode cX3_forcesAt 33 = .ok (.iinc 4 1, 3) := by decide +kernel
theorem dX3_forcesAt_36 : decode cX3_forcesAt 36 = .ok (.goto (-31), 3) := by decide +kernel
theorem dX3_forcesAt_39 : decode cX3_forcesAt 39 = .ok (.iload_n 3, 1) := by decide +kernel
theorem dX3_forcesAt_40 : decode cX3_forcesAt 40 = .ok (.ireturn, 1) := by decide +kernel
theorem dX3_strengthOf_0 : decode cX3_strengthOf 0 = .ok (.iconst 0, 1) := by decide +kernel
theorem dX3_strengthOf_1 : decode cX3_strengthOf 1 = .ok (.istore_n 2, 1) := by decide +kernel
theorem dX3_strengthOf_2 : decode cX3_strengthOf 2 = .ok (.iconst 0, 1) := by decide +kernel
theorem dX3_strengthOf_3 : decode cX3_strengthOf 3 = .ok (.istore_n 3, 1) := by decide +kernel
theorem dX3_strengthOf_4 : decode cX3_strengthOf 4 = .ok (.iload_n 3, 1) := by decide +kernel
theorem dX3_strengthOf_5 : decode cX3_strengthOf 5 = .ok (.aload_n 0, 1) := by decide +kernel
theorem dX3_strengthOf_6 : decode cX3_strengthOf 6 = .ok (.getfield 9, 3) := by decide +kernel
theorem dX3_strengthOf_9 : decode cX3_strengthOf 9 = .ok (.if_icmp .ge 26, 3) := by decide +kernel
theorem dX3_strengthOf_12 : decode cX3_strengthOf 12 = .ok (.iload_n 1, 1) := by decide +kernel
theorem dX3_strengthOf_13 : decode cX3_strengthOf 13 = .ok (.iload_n 3, 1) := by decide +kernel
theorem dX3_strengthOf_14 : decode cX3_strengthOf 14 = .ok (.ishr, 1) := by decide +kernel
theorem dX3_strengthOf_15 : decode cX3_strengthOf 15 = .ok (.iconst 1, 1) := by decide +kernel
theorem dX3_strengthOf_16 : decode cX3_strengthOf 16 = .ok (.iand, 1) := by decide +kernel
theorem dX3_strengthOf_17 : decode cX3_strengthOf 17 = .ok (.ifCond .eq 12, 3) := by decide +kernel
theorem dX3_strengthOf_20 : decode cX3_strengthOf 20 = .ok (.iload_n 2, 1) := by decide +kernel
theorem dX3_strengthOf_21 : decode cX3_strengthOf 21 = .ok (.aload_n 0, 1) := by decide +kernel
theorem dX3_strengthOf_22 : decode cX3_strengthOf 22 = .ok (.getfield 27, 3) := by decide +kernel
theorem dX3_strengthOf_25 : decode cX3_strengthOf 25 = .ok (.iload_n 3, 1) := by decide +kernel
theorem dX3_strengthOf_26 : decode cX3_strengthOf 26 = .ok (.iaload, 1) := by decide +kernel
theorem dX3_strengthOf_27 : decode cX3_strengthOf 27 = .ok (.iadd, 1) := by decide +kernel
theorem dX3_strengthOf_28 : decode cX3_strengthOf 28 = .ok (.istore_n 2, 1) := by decide +kernel
theorem dX3_strengthOf_29 : decode cX3_strengthOf 29 = .ok (.iinc 3 1, 3) := by decide +kernel
theorem dX3_strengthOf_32 : decode cX3_strengthOf 32 = .ok (.goto (-28), 3) := by decide +kernel
theorem dX3_strengthOf_35 : decode cX3_strengthOf 35 = .ok (.iload_n 2, 1) := by decide +kernel
theorem dX3_strengthOf_36 : decode cX3_strengthOf 36 = .ok (.ireturn, 1) := by decide +kernel
theorem dX3_standsWith_0 : decode cX3_standsWith 0 = .ok (.aload_n 0, 1) := by decide +kernel
theorem dX3_standsWith_1 : decode cX3_standsWith 1 = .ok (.getfield 42, 3) := by decide +kernel
theorem dX3_standsWith_4 : decode cX3_standsWith 4 = .ok (.iload_n 1, 1) := by decide +kernel
theorem dX3_standsWith_5 : decode cX3_standsWith 5 = .ok (.aaload, 1) := by decide +kernel
theorem dX3_standsWith_6 : decode cX3_standsWith 6 = .ok (.iload_n 2, 1) := by decide +kernel
theorem dX3_standsWith_7 : decode cX3_standsWith 7 = .ok (.iaload, 1) := by decide +kernel
theorem dX3_standsWith_8 : decode cX3_standsWith 8 = .ok (.iconst 1, 1) := by decide +kernel
theorem dX3_standsWith_9 : decode cX3_standsWith 9 = .ok (.if_icmp .eq 15, 3) := by decide +kernel
theorem dX3_standsWith_12 : decode cX3_standsWith 12 = .ok (.aload_n 0, 1) := by decide +kernel
theorem dX3_standsWith_13 : decode cX3_standsWith 13 = .ok (.getfield 42, 3) := by decide +kernel
theorem dX3_standsWith_16 : decode cX3_standsWith 16 = .ok (.iload_n 1, 1) := by decide +kernel
theorem dX3_standsWith_17 : decode cX3_standsWith 17 = .ok (.aaload, 1) := by decide +kernel
theorem dX3_standsWith_18 : decode cX3_standsWith 18 = .ok (.iload_n 2, 1) := by decide +kernel
theorem dX3_standsWith_19 : decode cX3_standsWith 19 = .ok (.iaload, 1) := by decide +kernel
theorem dX3_standsWith_20 : decode cX3_standsWith 20 = .ok (.iconst 2, 1) := by decide +kernel
theorem dX3_standsWith_21 : decode cX3_standsWith 21 = .ok (.if_icmp .ne 7, 3) := by decide +kernel
theorem dX3_standsWith_24 : decode cX3_standsWith 24 = .ok (.iconst 1, 1) := by decide +kernel
theorem dX3_standsWith_25 : decode cX3_standsWith 25 = .ok (.goto 4, 3) := by decide +kernel
theorem dX3_standsWith_28 : decode cX3_standsWith 28 = .ok (.iconst 0, 1) := by decide +kernel
theorem dX3_standsWith_29 : decode cX3_standsWith 29 = .ok (.ireturn, 1) := by decide +kernel
theorem dX3_bears_0 : decode cX3_bears 0 = .ok (.aload_n 0, 1) := by decide +kernel
theorem dX3_bears_1 : decode cX3_bears 1 = .ok (.getfield 55, 3) := by decide +kernel
theorem dX3_bears_4 : decode cX3_bears 4 = .ok (.aload_n 0, 1) := by decide +kernel
theorem dX3_bears_5 : decode cX3_bears 5 = .ok (.iload_n 1, 1) := by decide +kernel
theorem dX3_bears_6 : decode cX3_bears 6 = .ok (.iload_n 2, 1) := by decide +kernel
theorem dX3_bears_7 : decode cX3_bears 7 = .ok (.invokevirtual 97, 3) := by decide +kernel
theorem dX3_bears_10 : decode cX3_bears 10 = .ok (.aload_n 0, 1) := by decide +kernel
theorem dX3_bears_11 : decode cX3_bears 11 = .ok (.getfield 55, 3) := by decide +kernel
theorem dX3_bears_14 : decode cX3_bears 14 = .ok (.getfield 101, 3) := by decide +kernel
theorem dX3_bears_17 : decode cX3_bears 17 = .ok (.if_icmp .gt 7, 3) := by decide +kernel
theorem dX3_bears_20 : decode cX3_bears 20 = .ok (.iconst 1, 1) := by decide +kernel
theorem dX3_bears_21 : decode cX3_bears 21 = .ok (.goto 4, 3) := by decide +kernel
theorem dX3_bears_24 : decode cX3_bears 24 = .ok (.iconst 0, 1) := by decide +kernel
theorem dX3_bears_25 : decode cX3_bears 25 = .ok (.ireturn, 1) := by decide +kernel
theorem dX3_bearsOneBut_0 : decode cX3_bearsOneBut 0 = .ok (.aload_n 0, 1) := by decide +kernel
theorem dX3_bearsOneBut_1 : decode cX3_bearsOneBut 1 = .ok (.getfield 15, 3) := by decide +kernel
theorem dX3_bearsOneBut_4 : decode cX3_bearsOneBut 4 = .ok (.iconst 1, 1) := by decide +kernel
theorem dX3_bearsOneBut_5 : decode cX3_bearsOneBut 5 = .ok (.iload_n 1, 1) := by decide +kernel
theorem dX3_bearsOneBut_6 : decode cX3_bearsOneBut 6 = .ok (.ishl, 1) := by decide +kernel
theorem dX3_bearsOneBut_7 : decode cX3_bearsOneBut 7 = .ok (.iconst 1, 1) := by decide +kernel
theorem dX3_bearsOneBut_8 : decode cX3_bearsOneBut 8 = .ok (.iload_n 2, 1) := by decide +kernel
theorem dX3_bearsOneBut_9 : decode cX3_bearsOneBut 9 = .ok (.ishl, 1) := by decide +kernel
theorem dX3_bearsOneBut_10 : decode cX3_bearsOneBut 10 = .ok (.ior, 1) := by decide +kernel
theorem dX3_bearsOneBut_11 : decode cX3_bearsOneBut 11 = .ok (.iconst (-1), 1) := by decide +kernel
theorem dX3_bearsOneBut_12 : decode cX3_bearsOneBut 12 = .ok (.ixor, 1) := by decide +kernel
theorem dX3_bearsOneBut_13 : decode cX3_bearsOneBut 13 = .ok (.iand, 1) := by decide +kernel
theorem dX3_bearsOneBut_14 : decode cX3_bearsOneBut 14 = .ok (.istore_n 3, 1) := by decide +kernel
theorem dX3_bearsOneBut_15 : decode cX3_bearsOneBut 15 = .ok (.iconst 0, 1) := by decide +kernel
theorem dX3_bearsOneBut_16 : decode cX3_bearsOneBut 16 = .ok (.istore 4, 2) := by decide +kernel
theorem dX3_bearsOneBut_18 : decode cX3_bearsOneBut 18 = .ok (.iload 4, 2) := by decide +kernel
theorem dX3_bearsOneBut_20 : decode cX3_bearsOneBut 20 = .ok (.aload_n 0, 1) := by decide +kernel
theorem dX3_bearsOneBut_21 : decode cX3_bearsOneBut 21 = .ok (.getfield 9, 3) := by decide +kernel
theorem dX3_bearsOneBut_24 : decode cX3_bearsOneBut 24 = .ok (.if_icmp .ge 30, 3) := by decide +kernel
theorem dX3_bearsOneBut_27 : decode cX3_bearsOneBut 27 = .ok (.iload_n 3, 1) := by decide +kernel
theorem dX3_bearsOneBut_28 : decode cX3_bearsOneBut 28 = .ok (.iload 4, 2) := by decide +kernel
theorem dX3_bearsOneBut_30 : decode cX3_bearsOneBut 30 = .ok (.ishr, 1) := by decide +kernel
theorem dX3_bearsOneBut_31 : decode cX3_bearsOneBut 31 = .ok (.iconst 1, 1) := by decide +kernel
theorem dX3_bearsOneBut_32 : decode cX3_bearsOneBut 32 = .ok (.iand, 1) := by decide +kernel
theorem dX3_bearsOneBut_33 : decode cX3_bearsOneBut 33 = .ok (.ifCond .eq 15, 3) := by decide +kernel
theorem dX3_bearsOneBut_36 : decode cX3_bearsOneBut 36 = .ok (.aload_n 0, 1) := by decide +kernel
theorem dX3_bearsOneBut_37 : decode cX3_bearsOneBut 37 = .ok (.iload_n 1, 1) := by decide +kernel
theorem dX3_bearsOneBut_38 : decode cX3_bearsOneBut 38 = .ok (.iload 4, 2) := by decide +kernel
theorem dX3_bearsOneBut_40 : decode cX3_bearsOneBut 40 = .ok (.invokevirtual 104, 3) := by decide +kernel
theorem dX3_bearsOneBut_43 : decode cX3_bearsOneBut 43 = .ok (.ifCond .eq 5, 3) := by decide +kernel
theorem dX3_bearsOneBut_46 : decode cX3_bearsOneBut 46 = .ok (.iconst 1, 1) := by decide +kernel
theorem dX3_bearsOneBut_47 : decode cX3_bearsOneBut 47 = .ok (.ireturn, 1) := by decide +kernel
theorem dX3_bearsOneBut_48 : decode cX3_bearsOneBut 48 = .ok (.iinc 4 1, 3) := by decide +kernel
theorem dX3_bearsOneBut_51 : decode cX3_bearsOneBut 51 = .ok (.goto (-33), 3) := by decide +kernel
theorem dX3_bearsOneBut_54 : decode cX3_bearsOneBut 54 = .ok (.iconst 0, 1) := by decide +kernel
theorem dX3_bearsOneBut_55 : decode cX3_bearsOneBut 55 = .ok (.ireturn, 1) := by decide +kernel
theorem dX3_turns_0 : decode cX3_turns 0 = .ok (.aload_n 0, 1) := by decide +kernel
theorem dX3_turns_1 : decode cX3_turns 1 = .ok (.getfield 15, 3) := by decide +kernel
theorem dX3_turns_4 : decode cX3_turns 4 = .ok (.iconst 1, 1) := by decide +kernel
theorem dX3_turns_5 : decode cX3_turns 5 = .ok (.iload_n 1, 1) := by decide +kernel
theorem dX3_turns_6 : decode cX3_turns 6 = .ok (.ishl, 1) := by decide +kernel
theorem dX3_turns_7 : decode cX3_turns 7 = .ok (.iconst (-1), 1) := by decide +kernel
theorem dX3_turns_8 : decode cX3_turns 8 = .ok (.ixor, 1) := by decide +kernel
theorem dX3_turns_9 : decode cX3_turns 9 = .ok (.iand, 1) := by decide +kernel
theorem dX3_turns_10 : decode cX3_turns 10 = .ok (.istore_n 2, 1) := by decide +kernel
theorem dX3_turns_11 : decode cX3_turns 11 = .ok (.aload_n 0, 1) := by decide +kernel
theorem dX3_turns_12 : decode cX3_turns 12 = .ok (.aload_n 0, 1) := by decide +kernel
theorem dX3_turns_13 : decode cX3_turns 13 = .ok (.getfield 15, 3) := by decide +kernel
theorem dX3_turns_16 : decode cX3_turns 16 = .ok (.invokevirtual 108, 3) := by decide +kernel
theorem dX3_turns_19 : decode cX3_turns 19 = .ok (.istore_n 3, 1) := by decide +kernel
theorem dX3_turns_20 : decode cX3_turns 20 = .ok (.iconst 0, 1) := by decide +kernel
theorem dX3_turns_21 : decode cX3_turns 21 = .ok (.istore 4, 2) := by decide +kernel
theorem dX3_turns_23 : decode cX3_turns 23 = .ok (.iconst 0, 1) := by decide +kernel
theorem dX3_turns_24 : decode cX3_turns 24 = .ok (.istore 5, 2) := by decide +kernel
theorem dX3_turns_26 : decode cX3_turns 26 = .ok (.iload 5, 2) := by decide +kernel
theorem dX3_turns_28 : decode cX3_turns 28 = .ok (.iload_n 2, 1) := by decide +kernel
theorem dX3_turns_29 : decode cX3_turns 29 = .ok (.if_icmp .gt 55, 3) := by decide +kernel
theorem dX3_turns_32 : decode cX3_turns 32 = .ok (.iload 5, 2) := by decide +kernel
theorem dX3_turns_34 : decode cX3_turns 34 = .ok (.iload_n 2, 1) := by decide +kernel
theorem dX3_turns_35 : decode cX3_turns 35 = .ok (.iand, 1) := by decide +kernel
theorem dX3_turns_36 : decode cX3_turns 36 = .ok (.iload 5, 2) := by decide +kernel
theorem dX3_turns_38 : decode cX3_turns 38 = .ok (.if_icmp .eq 6, 3) := by decide +kernel
theorem dX3_turns_41 : decode cX3_turns 41 = .ok (.goto 37, 3) := by decide +kernel
theorem dX3_turns_44 : decode cX3_turns 44 = .ok (.iconst 2, 1) := by decide +kernel
theorem dX3_turns_45 : decode cX3_turns 45 = .ok (.aload_n 0, 1) := by decide +kernel
theorem dX3_turns_46 : decode cX3_turns 46 = .ok (.iload 5, 2) := by decide +kernel
theorem dX3_turns_48 : decode cX3_turns 48 = .ok (.invokevirtual 108, 3) := by decide +kernel
theorem dX3_turns_51 : decode cX3_turns 51 = .ok (.imul, 1) := by decide +kernel
theorem dX3_turns_52 : decode cX3_turns 52 = .ok (.istore 6, 2) := by decide +kernel
theorem dX3_turns_54 : decode cX3_turns 54 = .ok (.iload 6, 2) := by decide +kernel
theorem dX3_turns_56 : decode cX3_turns 56 = .ok (.iload_n 3, 1) := by decide +kernel
theorem dX3_turns_57 : decode cX3_turns 57 = .ok (.if_icmp .gt 21, 3) := by decide +kernel
theorem dX3_turns_60 : decode cX3_turns 60 = .ok (.iload 6, 2) := by decide +kernel
theorem dX3_turns_62 : decode cX3_turns 62 = .ok (.iconst 2, 1) := by decide +kernel
theorem dX3_turns_63 : decode cX3_turns 63 = .ok (.aload_n 0, 1) := by decide +kernel
theorem dX3_turns_64 : decode cX3_turns 64 = .ok (.getfield 27, 3) := by decide +kernel
theorem dX3_turns_67 : decode cX3_turns 67 = .ok (.iload_n 1, 1) := by decide +kernel
theorem dX3_turns_68 : decode cX3_turns 68 = .ok (.iaload, 1) := by decide +kernel
theorem dX3_turns_69 : decode cX3_turns 69 = .ok (.imul, 1) := by decide +kernel
theorem dX3_turns_70 : decode cX3_turns 70 = .ok (.iadd, 1) := by decide +kernel
theorem dX3_turns_71 : decode cX3_turns 71 = .ok (.iload_n 3, 1) := by decide +kernel
theorem dX3_turns_72 : decode cX3_turns 72 = .ok (.if_icmp .le 6, 3) := by decide +kernel
theorem dX3_turns_75 : decode cX3_turns 75 = .ok (.iinc 4 1, 3) := by decide +kernel
theorem dX3_turns_78 : decode cX3_turns 78 = .ok (.iinc 5 1, 3) := by decide +kernel
theorem dX3_turns_81 : decode cX3_turns 81 = .ok (.goto (-55), 3) := by decide +kernel
theorem dX3_turns_84 : decode cX3_turns 84 = .ok (.iload 4, 2) := by decide +kernel
theorem dX3_turns_86 : decode cX3_turns 86 = .ok (.ireturn, 1) := by decide +kernel
theorem dX3_halve_0 : decode cX3_halve 0 = .ok (.iconst 0, 1) := by decide +kernel
theorem dX3_halve_1 : decode cX3_halve 1 = .ok (.istore_n 2, 1) := by decide +kernel
theorem dX3_halve_2 : decode cX3_halve 2 = .ok (.iload_n 2, 1) := by decide +kernel
theorem dX3_halve_3 : decode cX3_halve 3 = .ok (.aload_n 0, 1) := by decide +kernel
theorem dX3_halve_4 : decode cX3_halve 4 = .ok (.getfield 9, 3) := by decide +kernel
theorem dX3_halve_7 : decode cX3_halve 7 = .ok (.if_icmp .ge 27, 3) := by decide +kernel
theorem dX3_halve_10 : decode cX3_halve 10 = .ok (.iload_n 1, 1) := by decide +kernel
theorem dX3_halve_11 : decode cX3_halve 11 = .ok (.iload_n 2, 1) := by decide +kernel
theorem dX3_halve_12 : decode cX3_halve 12 = .ok (.ishr, 1) := by decide +kernel
theorem dX3_halve_13 : decode cX3_halve 13 = .ok (.iconst 1, 1) := by decide +kernel
theorem dX3_halve_14 : decode cX3_halve 14 = .ok (.iand, 1) := by decide +kernel
theorem dX3_halve_15 : decode cX3_halve 15 = .ok (.ifCond .eq 13, 3) := by decide +kernel
theorem dX3_halve_18 : decode cX3_halve 18 = .ok (.aload_n 0, 1) := by decide +kernel
theorem dX3_halve_19 : decode cX3_halve 19 = .ok (.getfield 27, 3) := by decide +kernel
theorem dX3_halve_22 : decode cX3_halve 22 = .ok (.iload_n 2, 1) := by decide +kernel
theorem dX3_halve_23 : decode cX3_halve 23 = .ok (.dup2, 1) := by decide +kernel
theorem dX3_halve_24 : decode cX3_halve 24 = .ok (.iaload, 1) := by decide +kernel
theorem dX3_halve_25 : decode cX3_halve 25 = .ok (.iconst 2, 1) := by decide +kernel
theorem dX3_halve_26 : decode cX3_halve 26 = .ok (.idiv, 1) := by decide +kernel
theorem dX3_halve_27 : decode cX3_halve 27 = .ok (.iastore, 1) := by decide +kernel
theorem dX3_halve_28 : decode cX3_halve 28 = .ok (.iinc 2 1, 3) := by decide +kernel
theorem dX3_halve_31 : decode cX3_halve 31 = .ok (.goto (-29), 3) := by decide +kernel
theorem dX3_halve_34 : decode cX3_halve 34 = .ok (.return_, 1) := by decide +kernel
theorem dX3_wear_0 : decode cX3_wear 0 = .ok (.iload_n 3, 1) := by decide +kernel
theorem dX3_wear_1 : decode cX3_wear 1 = .ok (.ifCond .gt 4, 3) := by decide +kernel
theorem dX3_wear_4 : decode cX3_wear 4 = .ok (.return_, 1) := by decide +kernel
theorem dX3_wear_5 : decode cX3_wear 5 = .ok (.iconst 0, 1) := by decide +kernel
theorem dX3_wear_6 : decode cX3_wear 6 = .ok (.istore 4, 2) := by decide +kernel
theorem dX3_wear_8 : decode cX3_wear 8 = .ok (.iload 4, 2) := by decide +kernel
theorem dX3_wear_10 : decode cX3_wear 10 = .ok (.aload_n 0, 1) := by decide +kernel
theorem dX3_wear_11 : decode cX3_wear 11 = .ok (.getfield 9, 3) := by decide +kernel
theorem dX3_wear_14 : decode cX3_wear 14 = .ok (.if_icmp .ge 41, 3) := by decide +kernel
theorem dX3_wear_17 : decode cX3_wear 17 = .ok (.iload_n 1, 1) := by decide +kernel
theorem dX3_wear_18 : decode cX3_wear 18 = .ok (.iload 4, 2) := by decide +kernel
theorem dX3_wear_20 : decode cX3_wear 20 = .ok (.ishr, 1) := by decide +kernel
theorem dX3_wear_21 : decode cX3_wear 21 = .ok (.iconst 1, 1) := by decide +kernel
theorem dX3_wear_22 : decode cX3_wear 22 = .ok (.iand, 1) := by decide +kernel
theorem dX3_wear_23 : decode cX3_wear 23 = .ok (.ifCond .eq 26, 3) := by decide +kernel
theorem dX3_wear_26 : decode cX3_wear 26 = .ok (.aload_n 0, 1) := by decide +kernel
theorem dX3_wear_27 : decode cX3_wear 27 = .ok (.getfield 27, 3) := by decide +kernel
theorem dX3_wear_30 : decode cX3_wear 30 = .ok (.iload 4, 2) := by decide +kernel
theorem dX3_wear_32 : decode cX3_wear 32 = .ok (.dup2, 1) := by decide +kernel
theorem dX3_wear_33 : decode cX3_wear 33 = .ok (.iaload, 1) := by decide +kernel
theorem dX3_wear_34 : decode cX3_wear 34 = .ok (.aload_n 0, 1) := by decide +kernel
theorem dX3_wear_35 : decode cX3_wear 35 = .ok (.getfield 27, 3) := by decide +kernel
theorem dX3_wear_38 : decode cX3_wear 38 = .ok (.iload 4, 2) := by decide +kernel
theorem dX3_wear_40 : decode cX3_wear 40 = .ok (.iaload, 1) := by decide +kernel
theorem dX3_wear_41 : decode cX3_wear 41 = .ok (.iload_n 2, 1) := by decide +kernel
theorem dX3_wear_42 : decode cX3_wear 42 = .ok (.imul, 1) := by decide +kernel
theorem dX3_wear_43 : decode cX3_wear 43 = .ok (.iconst 2, 1) := by decide +kernel
theorem dX3_wear_44 : decode cX3_wear 44 = .ok (.iload_n 3, 1) := by decide +kernel
theorem dX3_wear_45 : decode cX3_wear 45 = .ok (.imul, 1) := by decide +kernel
theorem dX3_wear_46 : decode cX3_wear 46 = .ok (.idiv, 1) := by decide +kernel
theorem dX3_wear_47 : decode cX3_wear 47 = .ok (.isub, 1) := by decide +kernel
theorem dX3_wear_48 : decode cX3_wear 48 = .ok (.iastore, 1) := by decide +kernel
theorem dX3_wear_49 : decode cX3_wear 49 = .ok (.iinc 4 1, 3) := by decide +kernel
theorem dX3_wear_52 : decode cX3_wear 52 = .ok (.goto (-44), 3) := by decide +kernel
theorem dX3_wear_55 : decode cX3_wear 55 = .ok (.return_, 1) := by decide +kernel
theorem dX3_fall_0 : decode cX3_fall 0 = .ok (.aload_n 0, 1) := by decide +kernel
theorem dX3_fall_1 : decode cX3_fall 1 = .ok (.getfield 27, 3) := by decide +kernel
theorem dX3_fall_4 : decode cX3_fall 4 = .ok (.iload_n 1, 1) := by decide +kernel
theorem dX3_fall_5 : decode cX3_fall 5 = .ok (.iconst 0, 1) := by decide +kernel
theorem dX3_fall_6 : decode cX3_fall 6 = .ok (.iastore, 1) := by decide +kernel
theorem dX3_fall_7 : decode cX3_fall 7 = .ok (.aload_n 0, 1) := by decide +kernel
theorem dX3_fall_8 : decode cX3_fall 8 = .ok (.dup, 1) := by decide +kernel
theorem dX3_fall_9 : decode cX3_fall 9 = .ok (.getfield 15, 3) := by decide +kernel
theorem dX3_fall_12 : decode cX3_fall 12 = .ok (.iconst 1, 1) := by decide +kernel
theorem dX3_fall_13 : decode cX3_fall 13 = .ok (.iload_n 1, 1) := by decide +kernel
theorem dX3_fall_14 : decode cX3_fall 14 = .ok (.ishl, 1) := by decide +kernel
theorem dX3_fall_15 : decode cX3_fall 15 = .ok (.iconst (-1), 1) := by decide +kernel
theorem dX3_fall_16 : decode cX3_fall 16 = .ok (.ixor, 1) := by decide +kernel
theorem dX3_fall_17 : decode cX3_fall 17 = .ok (.iand, 1) := by decide +kernel
theorem dX3_fall_18 : decode cX3_fall 18 = .ok (.putfield 15, 3) := by decide +kernel
theorem dX3_fall_21 : decode cX3_fall 21 = .ok (.aload_n 0, 1) := by decide +kernel
theorem dX3_fall_22 : decode cX3_fall 22 = .ok (.getfield 34, 3) := by decide +kernel
theorem dX3_fall_25 : decode cX3_fall 25 = .ok (.iload_n 1, 1) := by decide +kernel
theorem dX3_fall_26 : decode cX3_fall 26 = .ok (.iload_n 2, 1) := by decide +kernel
theorem dX3_fall_27 : decode cX3_fall 27 = .ok (.iastore, 1) := by decide +kernel
theorem dX3_fall_28 : decode cX3_fall 28 = .ok (.aload_n 0, 1) := by decide +kernel
theorem dX3_fall_29 : decode cX3_fall 29 = .ok (.getfield 27, 3) := by decide +kernel
theorem dX3_fall_32 : decode cX3_fall 32 = .ok (.iload_n 2, 1) := by decide +kernel
theorem dX3_fall_33 : decode cX3_fall 33 = .ok (.bipush 99, 2) := by decide +kernel
theorem dX3_fall_35 : decode cX3_fall 35 = .ok (.aload_n 0, 1) := by decide +kernel
theorem dX3_fall_36 : decode cX3_fall 36 = .ok (.getfield 27, 3) := by decide +kernel
theorem dX3_fall_39 : decode cX3_fall 39 = .ok (.iload_n 2, 1) := by decide +kernel
theorem dX3_fall_40 : decode cX3_fall 40 = .ok (.iaload, 1) := by decide +kernel
theorem dX3_fall_41 : decode cX3_fall 41 = .ok (.aload_n 0, 1) := by decide +kernel
theorem dX3_fall_42 : decode cX3_fall 42 = .ok (.getfield 55, 3) := by decide +kernel
theorem dX3_fall_45 : decode cX3_fall 45 = .ok (.getfield 111, 3) := by decide +kernel
theorem dX3_fall_48 : decode cX3_fall 48 = .ok (.iload_n 3, 1) := by decide +kernel
theorem dX3_fall_49 : decode cX3_fall 49 = .ok (.imul, 1) := by decide +kernel
theorem dX3_fall_50 : decode cX3_fall 50 = .ok (.bipush 100, 2) := by decide +kernel
theorem dX3_fall_52 : decode cX3_fall 52 = .ok (.idiv, 1) := by decide +kernel
theorem dX3_fall_53 : decode cX3_fall 53 = .ok (.iadd, 1) := by decide +kernel
theorem dX3_fall_54 : decode cX3_fall 54 = .ok (.invokestatic 114, 3) := by decide +kernel
theorem dX3_fall_57 : decode cX3_fall 57 = .ok (.iastore, 1) := by decide +kernel
theorem dX3_fall_58 : decode cX3_fall 58 = .ok (.return_, 1) := by decide +kernel
theorem dX4_init_0 : decode cX4_init 0 = .ok (.aload_n 0, 1) := by decide +kernel
theorem dX4_init_1 : decode cX4_init 1 = .ok (.iload_n 1, 1) := by decide +kernel
theorem dX4_init_2 : decode cX4_init 2 = .ok (.iload_n 2, 1) := by decide +kernel
theorem dX4_init_3 : decode cX4_init 3 = .ok (.invokespecial 1, 3) := by decide +kernel
theorem dX4_init_6 : decode cX4_init 6 = .ok (.return_, 1) := by decide +kernel
theorem dX4_camps_0 : decode cX4_camps 0 = .ok (.aload_n 0, 1) := by decide +kernel
theorem dX4_camps_1 : decode cX4_camps 1 = .ok (.aload_n 1, 1) := by decide +kernel
theorem dX4_camps_2 : decode cX4_camps 2 = .ok (.iload_n 2, 1) := by decide +kernel
theorem dX4_camps_3 : decode cX4_camps 3 = .ok (.invokevirtual 7, 3) := by decide +kernel
theorem dX4_camps_6 : decode cX4_camps 6 = .ok (.istore 4, 2) := by decide +kernel
theorem dX4_camps_8 : decode cX4_camps 8 = .ok (.iload 4, 2) := by decide +kernel
theorem dX4_camps_10 : decode cX4_camps 10 = .ok (.iload_n 3, 1) := by decide +kernel
theorem dX4_camps_11 : decode cX4_camps 11 = .ok (.ishr, 1) := by decide +kernel
theorem dX4_camps_12 : decode cX4_camps 12 = .ok (.iconst 1, 1) := by decide +kernel
theorem dX4_camps_13 : decode cX4_camps 13 = .ok (.iand, 1) := by decide +kernel
theorem dX4_camps_14 : decode cX4_camps 14 = .ok (.ifCond .eq 14, 3) := by decide +kernel
theorem dX4_camps_17 : decode cX4_camps 17 = .ok (.aload_n 1, 1) := by decide +kernel
theorem dX4_camps_18 : decode cX4_camps 18 = .ok (.iload_n 2, 1) := by decide +kernel
theorem dX4_camps_19 : decode cX4_camps 19 = .ok (.iload_n 3, 1) := by decide +kernel
theorem dX4_camps_20 : decode cX4_camps 20 = .ok (.iconst 0, 1) := by decide +kernel
theorem dX4_camps_21 : decode cX4_camps 21 = .ok (.iconst 0, 1) := by decide +kernel
theorem dX4_camps_22 : decode cX4_camps 22 = .ok (.invokestatic 13, 3) := by decide +kernel
theorem dX4_camps_25 : decode cX4_camps 25 = .ok (.goto 17, 3) := by decide +kernel
theorem dX4_camps_28 : decode cX4_camps 28 = .ok (.aload_n 1, 1) := by decide +kernel
theorem dX4_camps_29 : decode cX4_camps 29 = .ok (.iload_n 2, 1) := by decide +kernel
theorem dX4_camps_30 : decode cX4_camps 30 = .ok (.iload_n 3, 1) := by decide +kernel
theorem dX4_camps_31 : decode cX4_camps 31 = .ok (.iload 4, 2) := by decide +kernel
theorem dX4_camps_33 : decode cX4_camps 33 = .ok (.aload_n 0, 1) := by decide +kernel
theorem dX4_camps_34 : decode cX4_camps 34 = .ok (.aload_n 1, 1) := by decide +kernel
theorem dX4_camps_35 : decode cX4_camps 35 = .ok (.iload_n 3, 1) := by decide +kernel
theorem dX4_camps_36 : decode cX4_camps 36 = .ok (.invokevirtual 7, 3) := by decide +kernel
theorem dX4_camps_39 : decode cX4_camps 39 = .ok (.invokestatic 13, 3) := by decide +kernel
theorem dX4_camps_42 : decode cX4_camps 42 = .ok (.ireturn, 1) := by decide +kernel
theorem dX4_blockBits_0 : decode cX4_blockBits 0 = .ok (.aload_n 1, 1) := by decide +kernel
theorem dX4_blockBits_1 : decode cX4_blockBits 1 = .ok (.getfield 17, 3) := by decide +kernel
theorem dX4_blockBits_4 : decode cX4_blockBits 4 = .ok (.aload_n 0, 1) := by decide +kernel
theorem dX4_blockBits_5 : decode cX4_blockBits 5 = .ok (.getfield 23, 3) := by decide +kernel
theorem dX4_blockBits_8 : decode cX4_blockBits 8 = .ok (.aaload, 1) := by decide +kernel
theorem dX4_blockBits_9 : decode cX4_blockBits 9 = .ok (.astore_n 3, 1) := by decide +kernel
theorem dX4_blockBits_10 : decode cX4_blockBits 10 = .ok (.iconst 0, 1) := by decide +kernel
theorem dX4_blockBits_11 : decode cX4_blockBits 11 = .ok (.istore 4, 2) := by decide +kernel
theorem dX4_blockBits_13 : decode cX4_blockBits 13 = .ok (.iconst 0, 1) := by decide +kernel
theorem dX4_blockBits_14 : decode cX4_blockBits 14 = .ok (.istore 5, 2) := by decide +kernel
theorem dX4_blockBits_16 : decode cX4_blockBits 16 = .ok (.iload 5, 2) := by decide +kernel
theorem dX4_blockBits_18 : decode cX4_blockBits 18 = .ok (.aload_n 1, 1) := by decide +kernel
theorem dX4_blockBits_19 : decode cX4_blockBits 19 = .ok (.getfield 27, 3) := by decide +kernel
theorem dX4_blockBits_22 : decode cX4_blockBits 22 = .ok (.if_icmp .ge 28, 3) := by decide +kernel
theorem dX4_blockBits_25 : decode cX4_blockBits 25 = .ok (.aload_n 3, 1) := by decide +kernel
theorem dX4_blockBits_26 : decode cX4_blockBits 26 = .ok (.iload 5, 2) := by decide +kernel
theorem dX4_blockBits_28 : decode cX4_blockBits 28 = .ok (.iaload, 1) := by decide +kernel
theorem dX4_blockBits_29 : decode cX4_blockBits 29 = .ok (.aload_n 3, 1) := by decide +kernel
theorem dX4_blockBits_30 : decode cX4_blockBits 30 = .ok (.iload_n 2, 1) := by decide +kernel
theorem dX4_blockBits_31 : decode cX4_blockBits 31 = .ok (.iaload, 1) := by decide +kernel
theorem dX4_blockBits_32 : decode cX4_blockBits 32 = .ok (.if_icmp .ne 12, 3) := by decide +kernel
theorem dX4_blockBits_35 : decode cX4_blockBits 35 = .ok (.iload 4, 2) := by decide +kernel
theorem dX4_blockBits_37 : decode cX4_blockBits 37 = .ok (.iconst 1, 1) := by decide +kernel
theorem dX4_blockBits_38 : decode cX4_blockBits 38 = .ok (.iload 5, 2) := by decide +kernel
theorem dX4_blockBits_40 : decode cX4_blockBits 40 = .ok (.ishl, 1) := by decide +kernel
theorem dX4_blockBits_41 : decode cX4_blockBits 41 = .ok (.ior, 1) := by decide +kernel
theorem dX4_blockBits_42 : decode cX4_blockBits 42 = .ok (.istore 4, 2) := by decide +kernel
theorem dX4_blockBits_44 : decode cX4_blockBits 44 = .ok (.iinc 5 1, 3) := by decide +kernel
theorem dX4_blockBits_47 : decode cX4_blockBits 47 = .ok (.goto (-31), 3) := by decide +kernel
theorem dX4_blockBits_50 : decode cX4_blockBits 50 = .ok (.iload 4, 2) := by decide +kernel
theorem dX4_blockBits_52 : decode cX4_blockBits 52 = .ok (.ireturn, 1) := by decide +kernel
theorem dX4_comesAct_0 : decode cX4_comesAct 0 = .ok (.aload_n 1, 1) := by decide +kernel
theorem dX4_comesAct_1 : decode cX4_comesAct 1 = .ok (.bipush 21, 2) := by decide +kernel
theorem dX4_comesAct_3 : decode cX4_comesAct 3 = .ok (.invokestatic 30, 3) := by decide +kernel
theorem dX4_comesAct_6 : decode cX4_comesAct 6 = .ok (.aload_n 0, 1) := by decide +kernel
theorem dX4_comesAct_7 : decode cX4_comesAct 7 = .ok (.aload_n 1, 1) := by decide +kernel
theorem dX4_comesAct_8 : decode cX4_comesAct 8 = .ok (.iload_n 2, 1) := by decide +kernel
theorem dX4_comesAct_9 : decode cX4_comesAct 9 = .ok (.invokespecial 34, 3) := by decide +kernel
theorem dX4_comesAct_12 : decode cX4_comesAct 12 = .ok (.ineg, 1) := by decide +kernel
theorem dX4_comesAct_13 : decode cX4_comesAct 13 = .ok (.ireturn, 1) := by decide +kernel
theorem dX5_init_0 : decode cX5_init 0 = .ok (.aload_n 0, 1) := by decide +kernel
theorem dX5_init_1 : decode cX5_init 1 = .ok (.invokespecial 3, 3) := by decide +kernel
theorem dX5_init_4 : decode cX5_init 4 = .ok (.aload_n 0, 1) := by decide +kernel
theorem dX5_init_5 : decode cX5_init 5 = .ok (.iload_n 1, 1) := by decide +kernel
theorem dX5_init_6 : decode cX5_init 6 = .ok (.putfield 9, 3) := by decide +kernel
theorem dX5_init_9 : decode cX5_init 9 = .ok (.aload_n 0, 1) := by decide +kernel
theorem dX5_init_10 : decode cX5_init 10 = .ok (.iload_n 2, 1) := by decide +kernel
theorem dX5_init_11 : decode cX5_init 11 = .ok (.putfield 15, 3) := by decide +kernel
theorem dX5_init_14 : decode cX5_init 14 = .ok (.return_, 1) := by decide +kernel
theorem dX5_camps_0 : decode cX5_camps 0 = .ok (.aload_n 1, 1) := by decide +kernel
theorem dX5_camps_1 : decode cX5_camps 1 = .ok (.iload_n 2, 1) := by decide +kernel
theorem dX5_camps_2 : decode cX5_camps 2 = .ok (.iload_n 3, 1) := by decide +kernel
theorem dX5_camps_3 : decode cX5_camps 3 = .ok (.bipush 85, 2) := by decide +kernel
theorem dX5_camps_5 : decode cX5_camps 5 = .ok (.bipush 42, 2) := by decide +kernel
theorem dX5_camps_7 : decode cX5_camps 7 = .ok (.invokestatic 18, 3) := by decide +kernel
theorem dX5_camps_10 : decode cX5_camps 10 = .ok (.ireturn, 1) := by decide +kernel
theorem dX5_joined_0 : decode cX5_joined 0 = .ok (.aload_n 0, 1) := by decide +kernel
theorem dX5_joined_1 : decode cX5_joined 1 = .ok (.getfield 22, 3) := by decide +kernel
theorem dX5_joined_4 : decode cX5_joined 4 = .ok (.iconst 1, 1) := by decide +kernel
theorem dX5_joined_5 : decode cX5_joined 5 = .ok (.iload_n 1, 1) := by decide +kernel
theorem dX5_joined_6 : decode cX5_joined 6 = .ok (.ishl, 1) := by decide +kernel
theorem dX5_joined_7 : decode cX5_joined 7 = .ok (.iconst 1, 1) := by decide +kernel
theorem dX5_joined_8 : decode cX5_joined 8 = .ok (.iload_n 2, 1) := by decide +kernel
theorem dX5_joined_9 : decode cX5_joined 9 = .ok (.ishl, 1) := by decide +kernel
theorem dX5_joined_10 : decode cX5_joined 10 = .ok (.ior, 1) := by decide +kernel
theorem dX5_joined_11 : decode cX5_joined 11 = .ok (.iconst (-1), 1) := by decide +kernel
theorem dX5_joined_12 : decode cX5_joined 12 = .ok (.ixor, 1) := by decide +kernel
theorem dX5_joined_13 : decode cX5_joined 13 = .ok (.iand, 1) := by decide +kernel
theorem dX5_joined_14 : decode cX5_joined 14 = .ok (.istore 5, 2) := by decide +kernel
theorem dX5_joined_16 : decode cX5_joined 16 = .ok (.iload_n 3, 1) := by decide +kernel
theorem dX5_joined_17 : decode cX5_joined 17 = .ok (.iload 5, 2) := by decide +kernel
theorem dX5_joined_19 : decode cX5_joined 19 = .ok (.iand, 1) := by decide +kernel
theorem dX5_joined_20 : decode cX5_joined 20 = .ok (.iconst 1, 1) := by decide +kernel
theorem dX5_joined_21 : decode cX5_joined 21 = .ok (.iload_n 1, 1) := by decide +kernel
theorem dX5_joined_22 : decode cX5_joined 22 = .ok (.ishl, 1) := by decide +kernel
theorem dX5_joined_23 : decode cX5_joined 23 = .ok (.ior, 1) := by decide +kernel
theorem dX5_joined_24 : decode cX5_joined 24 = .ok (.iload 4, 2) := by decide +kernel
theorem dX5_joined_26 : decode cX5_joined 26 = .ok (.iload 5, 2) := by decide +kernel
theorem dX5_joined_28 : decode cX5_joined 28 = .ok (.iand, 1) := by decide +kernel
theorem dX5_joined_29 : decode cX5_joined 29 = .ok (.iconst 1, 1) := by decide +kernel
theorem dX5_joined_30 : decode cX5_joined 30 = .ok (.iload_n 2, 1) := by decide +kernel
theorem dX5_joined_31 : decode cX5_joined 31 = .ok (.ishl, 1) := by decide +kernel
theorem dX5_joined_32 : decode cX5_joined 32 = .ok (.ior, 1) := by decide +kernel
theorem dX5_joined_33 : decode cX5_joined 33 = .ok (.bipush 8, 2) := by decide +kernel
theorem dX5_joined_35 : decode cX5_joined 35 = .ok (.ishl, 1) := by decide +kernel
theorem dX5_joined_36 : decode cX5_joined 36 = .ok (.ior, 1) := by decide +kernel
theorem dX5_joined_37 : decode cX5_joined 37 = .ok (.ireturn, 1) := by decide +kernel
theorem dX5_attackers_0 : decode cX5_attackers 0 = .ok (.iload_n 0, 1) := by decide +kernel
theorem dX5_attackers_1 : decode cX5_attackers 1 = .ok (.bipush 127, 2) := by decide +kernel
theorem dX5_attackers_3 : decode cX5_attackers 3 = .ok (.iand, 1) := by decide +kernel
theorem dX5_attackers_4 : decode cX5_attackers 4 = .ok (.ireturn, 1) := by decide +kernel
theorem dX5_defenders_0 : decode cX5_defenders 0 = .ok (.iload_n 0, 1) := by decide +kernel
theorem dX5_defenders_1 : decode cX5_defenders 1 = .ok (.bipush 8, 2) := by decide +kernel
theorem dX5_defenders_3 : decode cX5_defenders 3 = .ok (.ishr, 1) := by decide +kernel
theorem dX5_defenders_4 : decode cX5_defenders 4 = .ok (.bipush 127, 2) := by decide +kernel
theorem dX5_defenders_6 : decode cX5_defenders 6 = .ok (.iand, 1) := by decide +kernel
theorem dX5_defenders_7 : decode cX5_defenders 7 = .ok (.ireturn, 1) := by decide +kernel
theorem dX5_gains_0 : decode cX5_gains 0 = .ok (.aload_n 1, 1) := by decide +kernel
theorem dX5_gains_1 : decode cX5_gains 1 = .ok (.getfield 27, 3) := by decide +kernel
theorem dX5_gains_4 : decode cX5_gains 4 = .ok (.iload_n 3, 1) := by decide +kernel
theorem dX5_gains_5 : decode cX5_gains 5 = .ok (.aaload, 1) := by decide +kernel
theorem dX5_gains_6 : decode cX5_gains 6 = .ok (.iload_n 2, 1) := by decide +kernel
theorem dX5_gains_7 : decode cX5_gains 7 = .ok (.iaload, 1) := by decide +kernel
theorem dX5_gains_8 : decode cX5_gains 8 = .ok (.ifCond .ne 5, 3) := by decide +kernel
theorem dX5_gains_11 : decode cX5_gains 11 = .ok (.iconst 0, 1) := by decide +kernel
theorem dX5_gains_12 : decode cX5_gains 12 = .ok (.ireturn, 1) := by decide +kernel
theorem dX5_gains_13 : decode cX5_gains 13 = .ok (.aload_n 0, 1) := by decide +kernel
theorem dX5_gains_14 : decode cX5_gains 14 = .ok (.aload_n 1, 1) := by decide +kernel
theorem dX5_gains_15 : decode cX5_gains 15 = .ok (.iload_n 2, 1) := by decide +kernel
theorem dX5_gains_16 : decode cX5_gains 16 = .ok (.iload_n 3, 1) := by decide +kernel
theorem dX5_gains_17 : decode cX5_gains 17 = .ok (.invokevirtual 31, 3) := by decide +kernel
theorem dX5_gains_20 : decode cX5_gains 20 = .ok (.istore 4, 2) := by decide +kernel
theorem dX5_gains_22 : decode cX5_gains 22 = .ok (.aload_n 1, 1) := by decide +kernel
theorem dX5_gains_23 : decode cX5_gains 23 = .ok (.iload 4, 2) := by decide +kernel
theorem dX5_gains_25 : decode cX5_gains 25 = .ok (.invokestatic 35, 3) := by decide +kernel
theorem dX5_gains_28 : decode cX5_gains 28 = .ok (.aload_n 1, 1) := by decide +kernel
theorem dX5_gains_29 : decode cX5_gains 29 = .ok (.getfield 39, 3) := by decide +kernel
theorem dX5_gains_32 : decode cX5_gains 32 = .ok (.iload_n 3, 1) := by decide +kernel
theorem dX5_gains_33 : decode cX5_gains 33 = .ok (.iaload, 1) := by decide +kernel
theorem dX5_gains_34 : decode cX5_gains 34 = .ok (.invokevirtual 43, 3) := by decide +kernel
theorem dX5_gains_37 : decode cX5_gains 37 = .ok (.istore 5, 2) := by decide +kernel
theorem dX5_gains_39 : decode cX5_gains 39 = .ok (.iload 5, 2) := by decide +kernel
theorem dX5_gains_41 : decode cX5_gains 41 = .ok (.aload_n 1, 1) := by decide +kernel
theorem dX5_gains_42 : decode cX5_gains 42 = .ok (.iload 4, 2) := by decide +kernel
theorem dX5_gains_44 : decode cX5_gains 44 = .ok (.invokestatic 47, 3) := by decide +kernel
theorem dX5_gains_47 : decode cX5_gains 47 = .ok (.aload_n 1, 1) := by decide +kernel
theorem dX5_gains_48 : decode cX5_gains 48 = .ok (.getfield 39, 3) := by decide +kernel
theorem dX5_gains_51 : decode cX5_gains 51 = .ok (.iload_n 3, 1) := by decide +kernel
theorem dX5_gains_52 : decode cX5_gains 52 = .ok (.iaload, 1) := by decide +kernel
theorem dX5_gains_53 : decode cX5_gains 53 = .ok (.invokevirtual 43, 3) := by decide +kernel
theorem dX5_gains_56 : decode cX5_gains 56 = .ok (.if_icmp .le 28, 3) := by decide +kernel
theorem dX5_gains_59 : decode cX5_gains 59 = .ok (.aload_n 1, 1) := by decide +kernel
theorem dX5_gains_60 : decode cX5_gains 60 = .ok (.getfield 27, 3) := by decide +kernel
theorem dX5_gains_63 : decode cX5_gains 63 = .ok (.iload_n 3, 1) := by decide +kernel
theorem dX5_gains_64 : decode cX5_gains 64 = .ok (.aaload, 1) := by decide +kernel
theorem dX5_gains_65 : decode cX5_gains 65 = .ok (.iload_n 2, 1) := by decide +kernel
theorem dX5_gains_66 : decode cX5_gains 66 = .ok (.iaload, 1) := by decide +kernel
theorem dX5_gains_67 : decode cX5_gains 67 = .ok (.aload_n 1, 1) := by decide +kernel
theorem dX5_gains_68 : decode cX5_gains 68 = .ok (.getfield 50, 3) := by decide +kernel
theorem dX5_gains_71 : decode cX5_gains 71 = .ok (.aload_n 1, 1) := by decide +kernel
theorem dX5_gains_72 : decode cX5_gains 72 = .ok (.iload_n 2, 1) := by decide +kernel
theorem dX5_gains_73 : decode cX5_gains 73 = .ok (.iload_n 3, 1) := by decide +kernel
theorem dX5_gains_74 : decode cX5_gains 74 = .ok (.invokevirtual 54, 3) := by decide +kernel
theorem dX5_gains_77 : decode cX5_gains 77 = .ok (.if_icmp .le 7, 3) := by decide +kernel
theorem dX5_gains_80 : decode cX5_gains 80 = .ok (.iconst 1, 1) := by decide +kernel
theorem dX5_gains_81 : decode cX5_gains 81 = .ok (.goto 4, 3) := by decide +kernel
theorem dX5_gains_84 : decode cX5_gains 84 = .ok (.iconst 0, 1) := by decide +kernel
theorem dX5_gains_85 : decode cX5_gains 85 = .ok (.ireturn, 1) := by decide +kernel
theorem dX5_prey_0 : decode cX5_prey 0 = .ok (.iconst 0, 1) := by decide +kernel
theorem dX5_prey_1 : decode cX5_prey 1 = .ok (.istore_n 3, 1) := by decide +kernel
theorem dX5_prey_2 : decode cX5_prey 2 = .ok (.iconst 0, 1) := by decide +kernel
theorem dX5_prey_3 : decode cX5_prey 3 = .ok (.istore 4, 2) := by decide +kernel
theorem dX5_prey_5 : decode cX5_prey 5 = .ok (.iload 4, 2) := by decide +kernel
theorem dX5_prey_7 : decode cX5_prey 7 = .ok (.aload_n 1, 1) := by decide +kernel
theorem dX5_prey_8 : decode cX5_prey 8 = .ok (.getfield 59, 3) := by decide +kernel
theorem dX5_prey_11 : decode cX5_prey 11 = .ok (.if_icmp .ge 50, 3) := by decide +kernel
theorem dX5_prey_14 : decode cX5_prey 14 = .ok (.iload_n 2, 1) := by decide +kernel
theorem dX5_prey_15 : decode cX5_prey 15 = .ok (.iload 4, 2) := by decide +kernel
theorem dX5_prey_17 : decode cX5_prey 17 = .ok (.if_icmp .eq 38, 3) := by decide +kernel
theorem dX5_prey_20 : decode cX5_prey 20 = .ok (.aload_n 1, 1) := by decide +kernel
theorem dX5_prey_21 : decode cX5_prey 21 = .ok (.iload_n 2, 1) := by decide +kernel
theorem dX5_prey_22 : decode cX5_prey 22 = .ok (.invokevirtual 62, 3) := by decide +kernel
theorem dX5_prey_25 : decode cX5_prey 25 = .ok (.ifCond .eq 30, 3) := by decide +kernel
theorem dX5_prey_28 : decode cX5_prey 28 = .ok (.aload_n 1, 1) := by decide +kernel
theorem dX5_prey_29 : decode cX5_prey 29 = .ok (.iload 4, 2) := by decide +kernel
theorem dX5_prey_31 : decode cX5_prey 31 = .ok (.invokevirtual 62, 3) := by decide +kernel
theorem dX5_prey_34 : decode cX5_prey 34 = .ok (.ifCond .eq 21, 3) := by decide +kernel
theorem dX5_prey_37 : decode cX5_prey 37 = .ok (.aload_n 0, 1) := by decide +kernel
theorem dX5_prey_38 : decode cX5_prey 38 = .ok (.aload_n 1, 1) := by decide +kernel
theorem dX5_prey_39 : decode cX5_prey 39 = .ok (.iload_n 2, 1) := by decide +kernel
theorem dX5_prey_40 : decode cX5_prey 40 = .ok (.iload 4, 2) := by decide +kernel
theorem dX5_prey_42 : decode cX5_prey 42 = .ok (.invokevirtual 66, 3) := by decide +kernel
theorem dX5_prey_45 : decode cX5_prey 45 = .ok (.ifCond .eq 10, 3) := by decide +kernel
theorem dX5_prey_48 : decode cX5_prey 48 = .ok (.iload_n 3, 1) := by decide +kernel
theorem dX5_prey_49 : decode cX5_prey 49 = .ok (.iconst 1, 1) := by decide +kernel
theorem dX5_prey_50 : decode cX5_prey 50 = .ok (.iload 4, 2) := by decide +kernel
theorem dX5_prey_52 : decode cX5_prey 52 = .ok (.ishl, 1) := by decide +kernel
theorem dX5_prey_53 : decode cX5_prey 53 = .ok (.ior, 1) := by decide +kernel
theorem dX5_prey_54 : decode cX5_prey 54 = .ok (.istore_n 3, 1) := by decide +kernel
theorem dX5_prey_55 : decode cX5_prey 55 = .ok (.iinc 4 1, 3) := by decide +kernel
theorem dX5_prey_58 : decode cX5_prey 58 = .ok (.goto (-53), 3) := by decide +kernel
theorem dX5_prey_61 : decode cX5_prey 61 = .ok (.iload_n 3, 1) := by decide +kernel
theorem dX5_prey_62 : decode cX5_prey 62 = .ok (.ireturn, 1) := by decide +kernel
theorem dX5_hunters_0 : decode cX5_hunters 0 = .ok (.iconst 0, 1) := by decide +kernel
theorem dX5_hunters_1 : decode cX5_hunters 1 = .ok (.istore_n 3, 1) := by decide +kernel
theorem dX5_hunters_2 : decode cX5_hunters 2 = .ok (.iconst 0, 1) := by decide +kernel
theorem dX5_hunters_3 : decode cX5_hunters 3 = .ok (.istore 4, 2) := by decide +kernel
theorem dX5_hunters_5 : decode cX5_hunters 5 = .ok (.iload 4, 2) := by decide +kernel
theorem dX5_hunters_7 : decode cX5_hunters 7 = .ok (.aload_n 1, 1) := by decide +kernel
theorem dX5_hunters_8 : decode cX5_hunters 8 = .ok (.getfield 59, 3) := by decide +kernel
theorem dX5_hunters_11 : decode cX5_hunters 11 = .ok (.if_icmp .ge 50, 3) := by decide +kernel
theorem dX5_hunters_14 : decode cX5_hunters 14 = .ok (.iload 4, 2) := by decide +kernel
theorem dX5_hunters_16 : decode cX5_hunters 16 = .ok (.iload_n 2, 1) := by decide +kernel
theorem dX5_hunters_17 : decode cX5_hunters 17 = .ok (.if_icmp .eq 38, 3) := by decide +kernel
theorem dX5_hunters_20 : decode cX5_hunters 20 = .ok (.aload_n 1, 1) := by decide +kernel
theorem dX5_hunters_21 : decode cX5_hunters 21 = .ok (.iload 4, 2) := by decide +kernel
theorem dX5_hunters_23 : decode cX5_hunters 23 = .ok (.invokevirtual 62, 3) := by decide +kernel
theorem dX5_hunters_26 : decode cX5_hunters 26 = .ok (.ifCond .eq 29, 3) := by decide +kernel
theorem dX5_hunters_29 : decode cX5_hunters 29 = .ok (.aload_n 1, 1) := by decide +kernel
theorem dX5_hunters_30 : decode cX5_hunters 30 = .ok (.iload_n 2, 1) := by decide +kernel
theorem dX5_hunters_31 : decode cX5_hunters 31 = .ok (.invokevirtual 62, 3) := by decide +kernel
theorem dX5_hunters_34 : decode cX5_hunters 34 = .ok (.ifCond .eq 21, 3) := by decide +kernel
theorem dX5_hunters_37 : decode cX5_hunters 37 = .ok (.aload_n 0, 1) := by decide +kernel
theorem dX5_hunters_38 : decode cX5_hunters 38 = .ok (.aload_n 1, 1) := by decide +kernel
theorem dX5_hunters_39 : decode cX5_hunters 39 = .ok (.iload 4, 2) := by decide +kernel
theorem dX5_hunters_41 : decode cX5_hunters 41 = .ok (.iload_n 2, 1) := by decide +kernel
theorem dX5_hunters_42 : decode cX5_hunters 42 = .ok (.invokevirtual 66, 3) := by decide +kernel
theorem dX5_hunters_45 : decode cX5_hunters 45 = .ok (.ifCond .eq 10, 3) := by decide +kernel
theorem dX5_hunters_48 : decode cX5_hunters 48 = .ok (.iload_n 3, 1) := by decide +kernel
theorem dX5_hunters_49 : decode cX5_hunters 49 = .ok (.iconst 1, 1) := by decide +kernel
theorem dX5_hunters_50 : decode cX5_hunters 50 = .ok (.iload 4, 2) := by decide +kernel
theorem dX5_hunters_52 : decode cX5_hunters 52 = .ok (.ishl, 1) := by decide +kernel
theorem dX5_hunters_53 : decode cX5_hunters 53 = .ok (.ior, 1) := by decide +kernel
theorem dX5_hunters_54 : decode cX5_hunters 54 = .ok (.istore_n 3, 1) := by decide +kernel
theorem dX5_hunters_55 : decode cX5_hunters 55 = .ok (.iinc 4 1, 3) := by decide +kernel
theorem dX5_hunters_58 : decode cX5_hunters 58 = .ok (.goto (-53), 3) := by decide +kernel
theorem dX5_hunters_61 : decode cX5_hunters 61 = .ok (.iload_n 3, 1) := by decide +kernel
theorem dX5_hunters_62 : decode cX5_hunters 62 = .ok (.ireturn, 1) := by decide +kernel
theorem dX5_firstWar_0 : decode cX5_firstWar 0 = .ok (.iconst 0, 1) := by decide +kernel
theorem dX5_firstWar_1 : decode cX5_firstWar 1 = .ok (.istore_n 2, 1) := by decide +kernel
theorem dX5_firstWar_2 : decode cX5_firstWar 2 = .ok (.iload_n 2, 1) := by decide +kernel
theorem dX5_firstWar_3 : decode cX5_firstWar 3 = .ok (.aload_n 1, 1) := by decide +kernel
theorem dX5_firstWar_4 : decode cX5_firstWar 4 = .ok (.getfield 59, 3) := by decide +kernel
theorem dX5_firstWar_7 : decode cX5_firstWar 7 = .ok (.if_icmp .ge 63, 3) := by decide +kernel
theorem dX5_firstWar_10 : decode cX5_firstWar 10 = .ok (.iconst 0, 1) := by decide +kernel
theorem dX5_firstWar_11 : decode cX5_firstWar 11 = .ok (.istore_n 3, 1) := by decide +kernel
theorem dX5_firstWar_12 : decode cX5_firstWar 12 = .ok (.iload_n 3, 1) := by decide +kernel
theorem dX5_firstWar_13 : decode cX5_firstWar 13 = .ok (.aload_n 1, 1) := by decide +kernel
theorem dX5_firstWar_14 : decode cX5_firstWar 14 = .ok (.getfield 59, 3) := by decide +kernel
theorem dX5_firstWar_17 : decode cX5_firstWar 17 = .ok (.if_icmp .ge 47, 3) := by decide +kernel
theorem dX5_firstWar_20 : decode cX5_firstWar 20 = .ok (.iload_n 2, 1) := by decide +kernel
theorem dX5_firstWar_21 : decode cX5_firstWar 21 = .ok (.iload_n 3, 1) := by decide +kernel
theorem dX5_firstWar_22 : decode cX5_firstWar 22 = .ok (.if_icmp .eq 36, 3) := by decide +kernel
theorem dX5_firstWar_25 : decode cX5_firstWar 25 = .ok (.aload_n 1, 1) := by decide +kernel
theorem dX5_firstWar_26 : decode cX5_firstWar 26 = .ok (.iload_n 2, 1) := by decide +kernel
theorem dX5_firstWar_27 : decode cX5_firstWar 27 = .ok (.invokevirtual 62, 3) := by decide +kernel
theorem dX5_firstWar_30 : decode cX5_firstWar 30 = .ok (.ifCond .eq 28, 3) := by decide +kernel
theorem dX5_firstWar_33 : decode cX5_firstWar 33 = .ok (.aload_n 1, 1) := by decide +kernel
theorem dX5_firstWar_34 : decode cX5_firstWar 34 = .ok (.iload_n 3, 1) := by decide +kernel
theorem dX5_firstWar_35 : decode cX5_firstWar 35 = .ok (.invokevirtual 62, 3) := by decide +kernel
theorem dX5_firstWar_38 : decode cX5_firstWar 38 = .ok (.ifCond .eq 20, 3) := by decide +kernel
theorem dX5_firstWar_41 : decode cX5_firstWar 41 = .ok (.aload_n 0, 1) := by decide +kernel
theorem dX5_firstWar_42 : decode cX5_firstWar 42 = .ok (.aload_n 1, 1) := by decide +kernel
theorem dX5_firstWar_43 : decode cX5_firstWar 43 = .ok (.iload_n 2, 1) := by decide +kernel
theorem dX5_firstWar_44 : decode cX5_firstWar 44 = .ok (.iload_n 3, 1) := by decide +kernel
theorem dX5_firstWar_45 : decode cX5_firstWar 45 = .ok (.invokevirtual 66, 3) := by decide +kernel
theorem dX5_firstWar_48 : decode cX5_firstWar 48 = .ok (.ifCond .eq 10, 3) := by decide +kernel
theorem dX5_firstWar_51 : decode cX5_firstWar 51 = .ok (.bipush 10, 2) := by decide +kernel
theorem dX5_firstWar_53 : decode cX5_firstWar 53 = .ok (.iload_n 2, 1) := by decide +kernel
theorem dX5_firstWar_54 : decode cX5_firstWar 54 = .ok (.imul, 1) := by decide +kernel
theorem dX5_firstWar_55 : decode cX5_firstWar 55 = .ok (.iload_n 3, 1) := by decide +kernel
theorem dX5_firstWar_56 : decode cX5_firstWar 56 = .ok (.iadd, 1) := by decide +kernel
theorem dX5_firstWar_57 : decode cX5_firstWar 57 = .ok (.ireturn, 1) := by decide +kernel
theorem dX5_firstWar_58 : decode cX5_firstWar 58 = .ok (.iinc 3 1, 3) := by decide +kernel
theorem dX5_firstWar_61 : decode cX5_firstWar 61 = .ok (.goto (-49), 3) := by decide +kernel
theorem dX5_firstWar_64 : decode cX5_firstWar 64 = .ok (.iinc 2 1, 3) := by decide +kernel
theorem dX5_firstWar_67 : decode cX5_firstWar 67 = .ok (.goto (-65), 3) := by decide +kernel
theorem dX5_firstWar_70 : decode cX5_firstWar 70 = .ok (.bipush (-5), 2) := by decide +kernel
theorem dX5_firstWar_72 : decode cX5_firstWar 72 = .ok (.ireturn, 1) := by decide +kernel
theorem dX5_fight_0 : decode cX5_fight 0 = .ok (.aload_n 0, 1) := by decide +kernel
theorem dX5_fight_1 : decode cX5_fight 1 = .ok (.aload_n 1, 1) := by decide +kernel
theorem dX5_fight_2 : decode cX5_fight 2 = .ok (.iload_n 2, 1) := by decide +kernel
theorem dX5_fight_3 : decode cX5_fight 3 = .ok (.iload_n 3, 1) := by decide +kernel
theorem dX5_fight_4 : decode cX5_fight 4 = .ok (.invokevirtual 31, 3) := by decide +kernel
theorem dX5_fight_7 : decode cX5_fight 7 = .ok (.istore 4, 2) := by decide +kernel
theorem dX5_fight_9 : decode cX5_fight 9 = .ok (.aload_n 1, 1) := by decide +kernel
theorem dX5_fight_10 : decode cX5_fight 10 = .ok (.getfield 70, 3) := by decide +kernel
theorem dX5_fight_13 : decode cX5_fight 13 = .ok (.iload_n 3, 1) := by decide +kernel
theorem dX5_fight_14 : decode cX5_fight 14 = .ok (.iaload, 1) := by decide +kernel
theorem dX5_fight_15 : decode cX5_fight 15 = .ok (.istore 5, 2) := by decide +kernel
theorem dX5_fight_17 : decode cX5_fight 17 = .ok (.aload_n 1, 1) := by decide +kernel
theorem dX5_fight_18 : decode cX5_fight 18 = .ok (.iload 4, 2) := by decide +kernel
theorem dX5_fight_20 : decode cX5_fight 20 = .ok (.invokestatic 35, 3) := by decide +kernel
theorem dX5_fight_23 : decode cX5_fight 23 = .ok (.aload_n 1, 1) := by decide +kernel
theorem dX5_fight_24 : decode cX5_fight 24 = .ok (.getfield 39, 3) := by decide +kernel
theorem dX5_fight_27 : decode cX5_fight 27 = .ok (.iload_n 3, 1) := by decide +kernel
theorem dX5_fight_28 : decode cX5_fight 28 = .ok (.iaload, 1) := by decide +kernel
theorem dX5_fight_29 : decode cX5_fight 29 = .ok (.invokevirtual 43, 3) := by decide +kernel
theorem dX5_fight_32 : decode cX5_fight 32 = .ok (.istore 6, 2) := by decide +kernel
theorem dX5_fight_34 : decode cX5_fight 34 = .ok (.aload_n 1, 1) := by decide +kernel
theorem dX5_fight_35 : decode cX5_fight 35 = .ok (.iload 4, 2) := by decide +kernel
theorem dX5_fight_37 : decode cX5_fight 37 = .ok (.invokestatic 47, 3) := by decide +kernel
theorem dX5_fight_40 : decode cX5_fight 40 = .ok (.aload_n 1, 1) := by decide +kernel
theorem dX5_fight_41 : decode cX5_fight 41 = .ok (.getfield 39, 3) := by decide +kernel
theorem dX5_fight_44 : decode cX5_fight 44 = .ok (.iload_n 3, 1) := by decide +kernel
theorem dX5_fight_45 : decode cX5_fight 45 = .ok (.iaload, 1) := by decide +kernel
theorem dX5_fight_46 : decode cX5_fight 46 = .ok (.invokevirtual 43, 3) := by decide +kernel
theorem dX5_fight_49 : decode cX5_fight 49 = .ok (.istore 7, 2) := by decide +kernel
theorem dX5_fight_51 : decode cX5_fight 51 = .ok (.iload 6, 2) := by decide +kernel
theorem dX5_fight_53 : decode cX5_fight 53 = .ok (.iload 7, 2) := by decide +kernel
theorem dX5_fight_55 : decode cX5_fight 55 = .ok (.if_icmp .le 7, 3) := by decide +kernel
theorem dX5_fight_58 : decode cX5_fight 58 = .ok (.iconst 1, 1) := by decide +kernel
theorem dX5_fight_59 : decode cX5_fight 59 = .ok (.goto 4, 3) := by decide +kernel
theorem dX5_fight_62 : decode cX5_fight 62 = .ok (.iconst 0, 1) := by decide +kernel
theorem dX5_fight_63 : decode cX5_fight 63 = .ok (.istore 8, 2) := by decide +kernel
theorem dX5_fight_65 : decode cX5_fight 65 = .ok (.iload 8, 2) := by decide +kernel
theorem dX5_fight_67 : decode cX5_fight 67 = .ok (.ifCond .eq 36, 3) := by decide +kernel
theorem dX5_fight_70 : decode cX5_fight 70 = .ok (.aload_n 1, 1) := by decide +kernel
theorem dX5_fight_71 : decode cX5_fight 71 = .ok (.iload 4, 2) := by decide +kernel
theorem dX5_fight_73 : decode cX5_fight 73 = .ok (.invokestatic 47, 3) := by decide +kernel
theorem dX5_fight_76 : decode cX5_fight 76 = .ok (.invokevirtual 73, 3) := by decide +kernel
theorem dX5_fight_79 : decode cX5_fight 79 = .ok (.aload_n 1, 1) := by decide +kernel
theorem dX5_fight_80 : decode cX5_fight 80 = .ok (.iload 4, 2) := by decide +kernel
theorem dX5_fight_82 : decode cX5_fight 82 = .ok (.invokestatic 35, 3) := by decide +kernel
theorem dX5_fight_85 : decode cX5_fight 85 = .ok (.iload 7, 2) := by decide +kernel
theorem dX5_fight_87 : decode cX5_fight 87 = .ok (.iload 6, 2) := by decide +kernel
theorem dX5_fight_89 : decode cX5_fight 89 = .ok (.invokevirtual 77, 3) := by decide +kernel
theorem dX5_fight_92 : decode cX5_fight 92 = .ok (.aload_n 1, 1) := by decide +kernel
theorem dX5_fight_93 : decode cX5_fight 93 = .ok (.iload_n 3, 1) := by decide +kernel
theorem dX5_fight_94 : decode cX5_fight 94 = .ok (.iload_n 2, 1) := by decide +kernel
theorem dX5_fight_95 : decode cX5_fight 95 = .ok (.iload 5, 2) := by decide +kernel
theorem dX5_fight_97 : decode cX5_fight 97 = .ok (.invokevirtual 81, 3) := by decide +kernel
theorem dX5_fight_100 : decode cX5_fight 100 = .ok (.goto 25, 3) := by decide +kernel
theorem dX5_fight_103 : decode cX5_fight 103 = .ok (.aload_n 1, 1) := by decide +kernel
theorem dX5_fight_104 : decode cX5_fight 104 = .ok (.iload 4, 2) := by decide +kernel
theorem dX5_fight_106 : decode cX5_fight 106 = .ok (.invokestatic 35, 3) := by decide +kernel
theorem dX5_fight_109 : decode cX5_fight 109 = .ok (.invokevirtual 73, 3) := by decide +kernel
theorem dX5_fight_112 : decode cX5_fight 112 = .ok (.aload_n 1, 1) := by decide +kernel
theorem dX5_fight_113 : decode cX5_fight 113 = .ok (.iload 4, 2) := by decide +kernel
theorem dX5_fight_115 : decode cX5_fight 115 = .ok (.invokestatic 47, 3) := by decide +kernel
theorem dX5_fight_118 : decode cX5_fight 118 = .ok (.iload 6, 2) := by decide +kernel
theorem dX5_fight_120 : decode cX5_fight 120 = .ok (.iload 7, 2) := by decide +kernel
theorem dX5_fight_122 : decode cX5_fight 122 = .ok (.invokevirtual 77, 3) := by decide +kernel
theorem dX5_fight_125 : decode cX5_fight 125 = .ok (.aload_n 1, 1) := by decide +kernel
theorem dX5_fight_126 : decode cX5_fight 126 = .ok (.dup, 1) := by decide +kernel
theorem dX5_fight_127 : decode cX5_fight 127 = .ok (.getfield 84, 3) := by decide +kernel
theorem dX5_fight_130 : decode cX5_fight 130 = .ok (.iconst 1, 1) := by decide +kernel
theorem dX5_fight_131 : decode cX5_fight 131 = .ok (.iadd, 1) := by decide +kernel
theorem dX5_fight_132 : decode cX5_fight 132 = .ok (.putfield 84, 3) := by decide +kernel
theorem dX5_fight_135 : decode cX5_fight 135 = .ok (.iload 8, 2) := by decide +kernel
theorem dX5_fight_137 : decode cX5_fight 137 = .ok (.ireturn, 1) := by decide +kernel
theorem dX5_comesAct_0 : decode cX5_comesAct 0 = .ok (.aload_n 1, 1) := by decide +kernel
theorem dX5_comesAct_1 : decode cX5_comesAct 1 = .ok (.iconst 1, 1) := by decide +kernel
theorem dX5_comesAct_2 : decode cX5_comesAct 2 = .ok (.invokestatic 87, 3) := by decide +kernel
theorem dX5_comesAct_5 : decode cX5_comesAct 5 = .ok (.iload_n 2, 1) := by decide +kernel
theorem dX5_comesAct_6 : decode cX5_comesAct 6 = .ok (.aload_n 0, 1) := by decide +kernel
theorem dX5_comesAct_7 : decode cX5_comesAct 7 = .ok (.getfield 9, 3) := by decide +kernel
theorem dX5_comesAct_10 : decode cX5_comesAct 10 = .ok (.iadd, 1) := by decide +kernel
theorem dX5_comesAct_11 : decode cX5_comesAct 11 = .ok (.ireturn, 1) := by decide +kernel
theorem dX5_daresAct_0 : decode cX5_daresAct 0 = .ok (.aload_n 1, 1) := by decide +kernel
theorem dX5_daresAct_1 : decode cX5_daresAct 1 = .ok (.iconst 2, 1) := by decide +kernel
theorem dX5_daresAct_2 : decode cX5_daresAct 2 = .ok (.invokestatic 87, 3) := by decide +kernel
theorem dX5_daresAct_5 : decode cX5_daresAct 5 = .ok (.aload_n 0, 1) := by decide +kernel
theorem dX5_daresAct_6 : decode cX5_daresAct 6 = .ok (.aload_n 1, 1) := by decide +kernel
theorem dX5_daresAct_7 : decode cX5_daresAct 7 = .ok (.iload_n 2, 1) := by decide +kernel
theorem dX5_daresAct_8 : decode cX5_daresAct 8 = .ok (.invokevirtual 91, 3) := by decide +kernel
theorem dX5_daresAct_11 : decode cX5_daresAct 11 = .ok (.aload_n 0, 1) := by decide +kernel
theorem dX5_daresAct_12 : decode cX5_daresAct 12 = .ok (.getfield 15, 3) := by decide +kernel
theorem dX5_daresAct_15 : decode cX5_daresAct 15 = .ok (.isub, 1) := by decide +kernel
theorem dX5_daresAct_16 : decode cX5_daresAct 16 = .ok (.ireturn, 1) := by decide +kernel
theorem dX5_holdsAct_0 : decode cX5_holdsAct 0 = .ok (.aload_n 1, 1) := by decide +kernel
theorem dX5_holdsAct_1 : decode cX5_holdsAct 1 = .ok (.iconst 3, 1) := by decide +kernel
theorem dX5_holdsAct_2 : decode cX5_holdsAct 2 = .ok (.invokestatic 87, 3) := by decide +kernel
theorem dX5_holdsAct_5 : decode cX5_holdsAct 5 = .ok (.aload_n 0, 1) := by decide +kernel
theorem dX5_holdsAct_6 : decode cX5_holdsAct 6 = .ok (.aload_n 1, 1) := by decide +kernel
theorem dX5_holdsAct_7 : decode cX5_holdsAct 7 = .ok (.iload_n 2, 1) := by decide +kernel
theorem dX5_holdsAct_8 : decode cX5_holdsAct 8 = .ok (.invokevirtual 95, 3) := by decide +kernel
theorem dX5_holdsAct_11 : decode cX5_holdsAct 11 = .ok (.iconst 2, 1) := by decide +kernel
theorem dX5_holdsAct_12 : decode cX5_holdsAct 12 = .ok (.imul, 1) := by decide +kernel
theorem dX5_holdsAct_13 : decode cX5_holdsAct 13 = .ok (.ireturn, 1) := by decide +kernel
theorem dX5_note_0 : decode cX5_note 0 = .ok (.aload_n 0, 1) := by decide +kernel
theorem dX5_note_1 : decode cX5_note 1 = .ok (.iconst 0, 1) := by decide +kernel
theorem dX5_note_2 : decode cX5_note 2 = .ok (.dup2, 1) := by decide +kernel
theorem dX5_note_3 : decode cX5_note 3 = .ok (.iaload, 1) := by decide +kernel
theorem dX5_note_4 : decode cX5_note 4 = .ok (.iconst 1, 1) := by decide +kernel
theorem dX5_note_5 : decode cX5_note 5 = .ok (.iadd, 1) := by decide +kernel
theorem dX5_note_6 : decode cX5_note 6 = .ok (.iastore, 1) := by decide +kernel
theorem dX5_note_7 : decode cX5_note 7 = .ok (.aload_n 0, 1) := by decide +kernel
theorem dX5_note_8 : decode cX5_note 8 = .ok (.iconst 0, 1) := by decide +kernel
theorem dX5_note_9 : decode cX5_note 9 = .ok (.iaload, 1) := by decide +kernel
theorem dX5_note_10 : decode cX5_note 10 = .ok (.aload_n 0, 1) := by decide +kernel
theorem dX5_note_11 : decode cX5_note 11 = .ok (.arraylength, 1) := by decide +kernel
theorem dX5_note_12 : decode cX5_note 12 = .ok (.if_icmp .ge 9, 3) := by decide +kernel
theorem dX5_note_15 : decode cX5_note 15 = .ok (.aload_n 0, 1) := by decide +kernel
theorem dX5_note_16 : decode cX5_note 16 = .ok (.aload_n 0, 1) := by decide +kernel
theorem dX5_note_17 : decode cX5_note 17 = .ok (.iconst 0, 1) := by decide +kernel
theorem dX5_note_18 : decode cX5_note 18 = .ok (.iaload, 1) := by decide +kernel
theorem dX5_note_19 : decode cX5_note 19 = .ok (.iload_n 1, 1) := by decide +kernel
theorem dX5_note_20 : decode cX5_note 20 = .ok (.iastore, 1) := by decide +kernel
theorem dX5_note_21 : decode cX5_note 21 = .ok (.return_, 1) := by decide +kernel
theorem dX6_init_0 : decode cX6_init 0 = .ok (.aload_n 0, 1) := by decide +kernel
theorem dX6_init_1 : decode cX6_init 1 = .ok (.invokespecial 3, 3) := by decide +kernel
theorem dX6_init_4 : decode cX6_init 4 = .ok (.aload_n 0, 1) := by decide +kernel
theorem dX6_init_5 : decode cX6_init 5 = .ok (.bipush 120, 2) := by decide +kernel
theorem dX6_init_7 : decode cX6_init 7 = .ok (.newarray .int, 2) := by decide +kernel
theorem dX6_init_9 : decode cX6_init 9 = .ok (.putfield 9, 3) := by decide +kernel
theorem dX6_init_12 : decode cX6_init 12 = .ok (.aload_n 0, 1) := by decide +kernel
theorem dX6_init_13 : decode cX6_init 13 = .ok (.iconst 0, 1) := by decide +kernel
theorem dX6_init_14 : decode cX6_init 14 = .ok (.putfield 15, 3) := by decide +kernel
theorem dX6_init_17 : decode cX6_init 17 = .ok (.aload_n 0, 1) := by decide +kernel
theorem dX6_init_18 : decode cX6_init 18 = .ok (.iconst 0, 1) := by decide +kernel
theorem dX6_init_19 : decode cX6_init 19 = .ok (.putfield 19, 3) := by decide +kernel
theorem dX6_init_22 : decode cX6_init 22 = .ok (.return_, 1) := by decide +kernel
theorem dX6_become_0 : decode cX6_become 0 = .ok (.aload_n 1, 1) := by decide +kernel
theorem dX6_become_1 : decode cX6_become 1 = .ok (.getfield 9, 3) := by decide +kernel
theorem dX6_become_4 : decode cX6_become 4 = .ok (.iconst 0, 1) := by decide +kernel
theorem dX6_become_5 : decode cX6_become 5 = .ok (.aload_n 0, 1) := by decide +kernel
theorem dX6_become_6 : decode cX6_become 6 = .ok (.getfield 9, 3) := by decide +kernel
theorem dX6_become_9 : decode cX6_become 9 = .ok (.iconst 0, 1) := by decide +kernel
theorem dX6_become_10 : decode cX6_become 10 = .ok (.bipush 120, 2) := by decide +kernel
theorem dX6_become_12 : decode cX6_become 12 = .ok (.invokestatic 22, 3) := by decide +kernel
theorem dX6_become_15 : decode cX6_become 15 = .ok (.aload_n 0, 1) := by decide +kernel
theorem dX6_become_16 : decode cX6_become 16 = .ok (.aload_n 1, 1) := by decide +kernel
theorem dX6_become_17 : decode cX6_become 17 = .ok (.getfield 15, 3) := by decide +kernel
theorem dX6_become_20 : decode cX6_become 20 = .ok (.putfield 15, 3) := by decide +kernel
theorem dX6_become_23 : decode cX6_become 23 = .ok (.return_, 1) := by decide +kernel
theorem dX6_put_0 : decode cX6_put 0 = .ok (.aload_n 0, 1) := by decide +kernel
theorem dX6_put_1 : decode cX6_put 1 = .ok (.getfield 15, 3) := by decide +kernel
theorem dX6_put_4 : decode cX6_put 4 = .ok (.bipush 120, 2) := by decide +kernel
theorem dX6_put_6 : decode cX6_put 6 = .ok (.if_icmp .lt 4, 3) := by decide +kernel
theorem dX6_put_9 : decode cX6_put 9 = .ok (.return_, 1) := by decide +kernel
theorem dX6_put_10 : decode cX6_put 10 = .ok (.aload_n 0, 1) := by decide +kernel
theorem dX6_put_11 : decode cX6_put 11 = .ok (.getfield 9, 3) := by decide +kernel
theorem dX6_put_14 : decode cX6_put 14 = .ok (.aload_n 0, 1) := by decide +kernel
theorem dX6_put_15 : decode cX6_put 15 = .ok (.getfield 15, 3) := by decide +kernel
theorem dX6_put_18 : decode cX6_put 18 = .ok (.iload_n 1, 1) := by decide +kernel
theorem dX6_put_19 : decode cX6_put 19 = .ok (.iastore, 1) := by decide +kernel
theorem dX6_put_20 : decode cX6_put 20 = .ok (.aload_n 0, 1) := by decide +kernel
theorem dX6_put_21 : decode cX6_put 21 = .ok (.dup, 1) := by decide +kernel
theorem dX6_put_22 : decode cX6_put 22 = .ok (.getfield 15, 3) := by decide +kernel
theorem dX6_put_25 : decode cX6_put 25 = .ok (.iconst 1, 1) := by decide +kernel
theorem dX6_put_26 : decode cX6_put 26 = .ok (.iadd, 1) := by decide +kernel
theorem dX6_put_27 : decode cX6_put 27 = .ok (.putfield 15, 3) := by decide +kernel
theorem dX6_put_30 : decode cX6_put 30 = .ok (.return_, 1) := by decide +kernel
theorem dX6_pick_0 : decode cX6_pick 0 = .ok (.aload_n 0, 1) := by decide +kernel
theorem dX6_pick_1 : decode cX6_pick 1 = .ok (.getfield 19, 3) := by decide +kernel
theorem dX6_pick_4 : decode cX6_pick 4 = .ok (.aload_n 0, 1) := by decide +kernel
theorem dX6_pick_5 : decode cX6_pick 5 = .ok (.getfield 15, 3) := by decide +kernel
theorem dX6_pick_8 : decode cX6_pick 8 = .ok (.if_icmp .ge 12, 3) := by decide +kernel
theorem dX6_pick_11 : decode cX6_pick 11 = .ok (.aload_n 0, 1) := by decide +kernel
theorem dX6_pick_12 : decode cX6_pick 12 = .ok (.getfield 19, 3) := by decide +kernel
theorem dX6_pick_15 : decode cX6_pick 15 = .ok (.bipush 120, 2) := by decide +kernel
theorem dX6_pick_17 : decode cX6_pick 17 = .ok (.if_icmp .lt 5, 3) := by decide +kernel
theorem dX6_pick_20 : decode cX6_pick 20 = .ok (.iconst (-1), 1) := by decide +kernel
theorem dX6_pick_21 : decode cX6_pick 21 = .ok (.ireturn, 1) := by decide +kernel
theorem dX6_pick_22 : decode cX6_pick 22 = .ok (.iconst 0, 1) := by decide +kernel
theorem dX6_pick_23 : decode cX6_pick 23 = .ok (.istore_n 2, 1) := by decide +kernel
theorem dX6_pick_24 : decode cX6_pick 24 = .ok (.iload_n 2, 1) := by decide +kernel
theorem dX6_pick_25 : decode cX6_pick 25 = .ok (.aload_n 1, 1) := by decide +kernel
theorem dX6_pick_26 : decode cX6_pick 26 = .ok (.invokevirtual 28, 3) := by decide +kernel
theorem dX6_pick_29 : decode cX6_pick 29 = .ok (.if_icmp .ge 38, 3) := by decide +kernel
theorem dX6_pick_32 : decode cX6_pick 32 = .ok (.aload_n 1, 1) := by decide +kernel
theorem dX6_pick_33 : decode cX6_pick 33 = .ok (.iload_n 2, 1) := by decide +kernel
theorem dX6_pick_34 : decode cX6_pick 34 = .ok (.invokevirtual 34, 3) := by decide +kernel
theorem dX6_pick_37 : decode cX6_pick 37 = .ok (.aload_n 0, 1) := by decide +kernel
theorem dX6_pick_38 : decode cX6_pick 38 = .ok (.getfield 9, 3) := by decide +kernel
theorem dX6_pick_41 : decode cX6_pick 41 = .ok (.aload_n 0, 1) := by decide +kernel
theorem dX6_pick_42 : decode cX6_pick 42 = .ok (.getfield 19, 3) := by decide +kernel
theorem dX6_pick_45 : decode cX6_pick 45 = .ok (.iaload, 1) := by decide +kernel
theorem dX6_pick_46 : decode cX6_pick 46 = .ok (.if_icmp .ne 15, 3) := by decide +kernel
theorem dX6_pick_49 : decode cX6_pick 49 = .ok (.aload_n 0, 1) := by decide +kernel
theorem dX6_pick_50 : decode cX6_pick 50 = .ok (.dup, 1) := by decide +kernel
theorem dX6_pick_51 : decode cX6_pick 51 = .ok (.getfield 19, 3) := by decide +kernel
theorem dX6_pick_54 : decode cX6_pick 54 = .ok (.iconst 1, 1) := by decide +kernel
theorem dX6_pick_55 : decode cX6_pick 55 = .ok (.iadd, 1) := by decide +kernel
theorem dX6_pick_56 : decode cX6_pick 56 = .ok (.putfield 19, 3) := by decide +kernel
theorem dX6_pick_59 : decode cX6_pick 59 = .ok (.iload_n 2, 1) := by decide +kernel
theorem dX6_pick_60 : decode cX6_pick 60 = .ok (.ireturn, 1) := by decide +kernel
theorem dX6_pick_61 : decode cX6_pick 61 = .ok (.iinc 2 1, 3) := by decide +kernel
theorem dX6_pick_64 : decode cX6_pick 64 = .ok (.goto (-40), 3) := by decide +kernel
theorem dX6_pick_67 : decode cX6_pick 67 = .ok (.iconst (-1), 1) := by decide +kernel
theorem dX6_pick_68 : decode cX6_pick 68 = .ok (.ireturn, 1) := by decide +kernel
theorem dX6_goesOn_0 : decode cX6_goesOn 0 = .ok (.iconst 0, 1) := by decide +kernel
theorem dX6_goesOn_1 : decode cX6_goesOn 1 = .ok (.istore_n 2, 1) := by decide +kernel
theorem dX6_goesOn_2 : decode cX6_goesOn 2 = .ok (.iload_n 2, 1) := by decide +kernel
theorem dX6_goesOn_3 : decode cX6_goesOn 3 = .ok (.aload_n 1, 1) := by decide +kernel
theorem dX6_goesOn_4 : decode cX6_goesOn 4 = .ok (.invokevirtual 28, 3) := by decide +kernel
theorem dX6_goesOn_7 : decode cX6_goesOn 7 = .ok (.if_icmp .ge 58, 3) := by decide +kernel
theorem dX6_goesOn_10 : decode cX6_goesOn 10 = .ok (.aload_n 0, 1) := by decide +kernel
theorem dX6_goesOn_11 : decode cX6_goesOn 11 = .ok (.getfield 19, 3) := by decide +kernel
theorem dX6_goesOn_14 : decode cX6_goesOn 14 = .ok (.aload_n 0, 1) := by decide +kernel
theorem dX6_goesOn_15 : decode cX6_goesOn 15 = .ok (.getfield 15, 3) := by decide +kernel
theorem dX6_goesOn_18 : decode cX6_goesOn 18 = .ok (.if_icmp .ge 29, 3) := by decide +kernel
theorem dX6_goesOn_21 : decode cX6_goesOn 21 = .ok (.aload_n 0, 1) := by decide +kernel
theorem dX6_goesOn_22 : decode cX6_goesOn 22 = .ok (.getfield 19, 3) := by decide +kernel
theorem dX6_goesOn_25 : decode cX6_goesOn 25 = .ok (.bipush 120, 2) := by decide +kernel
theorem dX6_goesOn_27 : decode cX6_goesOn 27 = .ok (.if_icmp .ge 20, 3) := by decide +kernel
theorem dX6_goesOn_30 : decode cX6_goesOn 30 = .ok (.aload_n 0, 1) := by decide +kernel
theorem dX6_goesOn_31 : decode cX6_goesOn 31 = .ok (.getfield 9, 3) := by decide +kernel
theorem dX6_goesOn_34 : decode cX6_goesOn 34 = .ok (.aload_n 0, 1) := by decide +kernel
theorem dX6_goesOn_35 : decode cX6_goesOn 35 = .ok (.getfield 19, 3) := by decide +kernel
theorem dX6_goesOn_38 : decode cX6_goesOn 38 = .ok (.iaload, 1) := by decide +kernel
theorem dX6_goesOn_39 : decode cX6_goesOn 39 = .ok (.aload_n 1, 1) := by decide +kernel
theorem dX6_goesOn_40 : decode cX6_goesOn 40 = .ok (.iload_n 2, 1) := by decide +kernel
theorem dX6_goesOn_41 : decode cX6_goesOn 41 = .ok (.invokevirtual 34, 3) := by decide +kernel
theorem dX6_goesOn_44 : decode cX6_goesOn 44 = .ok (.if_icmp .eq 5, 3) := by decide +kernel
theorem dX6_goesOn_47 : decode cX6_goesOn 47 = .ok (.iconst 0, 1) := by decide +kernel
theorem dX6_goesOn_48 : decode cX6_goesOn 48 = .ok (.ireturn, 1) := by decide +kernel
theorem dX6_goesOn_49 : decode cX6_goesOn 49 = .ok (.aload_n 0, 1) := by decide +kernel
theorem dX6_goesOn_50 : decode cX6_goesOn 50 = .ok (.dup, 1) := by decide +kernel
theorem dX6_goesOn_51 : decode cX6_goesOn 51 = .ok (.getfield 19, 3) := by decide +kernel
theorem dX6_goesOn_54 : decode cX6_goesOn 54 = .ok (.iconst 1, 1) := by decide +kernel
theorem dX6_goesOn_55 : decode cX6_goesOn 55 = .ok (.iadd, 1) := by decide +kernel
theorem dX6_goesOn_56 : decode cX6_goesOn 56 = .ok (.putfield 19, 3) := by decide +kernel
theorem dX6_goesOn_59 : decode cX6_goesOn 59 = .ok (.iinc 2 1, 3) := by decide +kernel
theorem dX6_goesOn_62 : decode cX6_goesOn 62 = .ok (.goto (-60), 3) := by decide +kernel
theorem dX6_goesOn_65 : decode cX6_goesOn 65 = .ok (.iconst 1, 1) := by decide +kernel
theorem dX6_goesOn_66 : decode cX6_goesOn 66 = .ok (.ireturn, 1) := by decide +kernel
theorem dX6_numeral_0 : decode cX6_numeral 0 = .ok (.aload_n 0, 1) := by decide +kernel
theorem dX6_numeral_1 : decode cX6_numeral 1 = .ok (.ldc 38, 2) := by decide +kernel
theorem dX6_numeral_3 : decode cX6_numeral 3 = .ok (.invokevirtual 40, 3) := by decide +kernel
theorem dX6_numeral_6 : decode cX6_numeral 6 = .ok (.istore_n 1, 1) := by decide +kernel
theorem dX6_numeral_7 : decode cX6_numeral 7 = .ok (.iload_n 1, 1) := by decide +kernel
theorem dX6_numeral_8 : decode cX6_numeral 8 = .ok (.ifCond .gt 5, 3) := by decide +kernel
theorem dX6_numeral_11 : decode cX6_numeral 11 = .ok (.iload_n 1, 1) := by decide +kernel
theorem dX6_numeral_12 : decode cX6_numeral 12 = .ok (.ireturn, 1) := by decide +kernel
theorem dX6_numeral_13 : decode cX6_numeral 13 = .ok (.iconst 1, 1) := by decide +kernel
theorem dX6_numeral_14 : decode cX6_numeral 14 = .ok (.istore_n 2, 1) := by decide +kernel
theorem dX6_numeral_15 : decode cX6_numeral 15 = .ok (.iload_n 2, 1) := by decide +kernel
theorem dX6_numeral_16 : decode cX6_numeral 16 = .ok (.iconst 3, 1) := by decide +kernel
theorem dX6_numeral_17 : decode cX6_numeral 17 = .ok (.if_icmp .ge 29, 3) := by decide +kernel
theorem dX6_numeral_20 : decode cX6_numeral 20 = .ok (.aload_n 0, 1) := by decide +kernel
theorem dX6_numeral_21 : decode cX6_numeral 21 = .ok (.ldc 38, 2) := by decide +kernel
theorem dX6_numeral_23 : decode cX6_numeral 23 = .ok (.invokevirtual 40, 3) := by decide +kernel
theorem dX6_numeral_26 : decode cX6_numeral 26 = .ok (.istore_n 3, 1) := by decide +kernel
theorem dX6_numeral_27 : decode cX6_numeral 27 = .ok (.iload_n 3, 1) := by decide +kernel
theorem dX6_numeral_28 : decode cX6_numeral 28 = .ok (.ifCond .ge 5, 3) := by decide +kernel
theorem dX6_numeral_31 : decode cX6_numeral 31 = .ok (.iload_n 1, 1) := by decide +kernel
theorem dX6_numeral_32 : decode cX6_numeral 32 = .ok (.ireturn, 1) := by decide +kernel
theorem dX6_numeral_33 : decode cX6_numeral 33 = .ok (.iload_n 1, 1) := by decide +kernel
theorem dX6_numeral_34 : decode cX6_numeral 34 = .ok (.bipush 10, 2) := by decide +kernel
theorem dX6_numeral_36 : decode cX6_numeral 36 = .ok (.imul, 1) := by decide +kernel
theorem dX6_numeral_37 : decode cX6_numeral 37 = .ok (.iload_n 3, 1) := by decide +kernel
theorem dX6_numeral_38 : decode cX6_numeral 38 = .ok (.iadd, 1) := by decide +kernel
theorem dX6_numeral_39 : decode cX6_numeral 39 = .ok (.istore_n 1, 1) := by decide +kernel
theorem dX6_numeral_40 : decode cX6_numeral 40 = .ok (.iinc 2 1, 3) := by decide +kernel
theorem dX6_numeral_43 : decode cX6_numeral 43 = .ok (.goto (-28), 3) := by decide +kernel
theorem dX6_numeral_46 : decode cX6_numeral 46 = .ok (.iload_n 1, 1) := by decide +kernel
theorem dX6_numeral_47 : decode cX6_numeral 47 = .ok (.ireturn, 1) := by decide +kernel
theorem dX7_init_0 : decode cX7_init 0 = .ok (.aload_n 0, 1) := by decide +kernel
theorem dX7_init_1 : decode cX7_init 1 = .ok (.iload_n 1, 1) := by decide +kernel
theorem dX7_init_2 : decode cX7_init 2 = .ok (.iload_n 2, 1) := by decide +kernel
theorem dX7_init_3 : decode cX7_init 3 = .ok (.invokespecial 1, 3) := by decide +kernel
theorem dX7_init_6 : decode cX7_init 6 = .ok (.return_, 1) := by decide +kernel
theorem dX7_camps_0 : decode cX7_camps 0 = .ok (.aload_n 0, 1) := by decide +kernel
theorem dX7_camps_1 : decode cX7_camps 1 = .ok (.aload_n 1, 1) := by decide +kernel
theorem dX7_camps_2 : decode cX7_camps 2 = .ok (.iload_n 2, 1) := by decide +kernel
theorem dX7_camps_3 : decode cX7_camps 3 = .ok (.iload_n 3, 1) := by decide +kernel
theorem dX7_camps_4 : decode cX7_camps 4 = .ok (.invokespecial 7, 3) := by decide +kernel
theorem dX7_camps_7 : decode cX7_camps 7 = .ok (.istore 4, 2) := by decide +kernel
theorem dX7_camps_9 : decode cX7_camps 9 = .ok (.aload_n 1, 1) := by decide +kernel
theorem dX7_camps_10 : decode cX7_camps 10 = .ok (.iload_n 2, 1) := by decide +kernel
theorem dX7_camps_11 : decode cX7_camps 11 = .ok (.iload_n 3, 1) := by decide +kernel
theorem dX7_camps_12 : decode cX7_camps 12 = .ok (.aload_n 1, 1) := by decide +kernel
theorem dX7_camps_13 : decode cX7_camps 13 = .ok (.iload 4, 2) := by decide +kernel
theorem dX7_camps_15 : decode cX7_camps 15 = .ok (.invokestatic 11, 3) := by decide +kernel
theorem dX7_camps_18 : decode cX7_camps 18 = .ok (.iload_n 3, 1) := by decide +kernel
theorem dX7_camps_19 : decode cX7_camps 19 = .ok (.invokestatic 17, 3) := by decide +kernel
theorem dX7_camps_22 : decode cX7_camps 22 = .ok (.aload_n 1, 1) := by decide +kernel
theorem dX7_camps_23 : decode cX7_camps 23 = .ok (.iload 4, 2) := by decide +kernel
theorem dX7_camps_25 : decode cX7_camps 25 = .ok (.invokestatic 20, 3) := by decide +kernel
theorem dX7_camps_28 : decode cX7_camps 28 = .ok (.iload_n 2, 1) := by decide +kernel
theorem dX7_camps_29 : decode cX7_camps 29 = .ok (.invokestatic 17, 3) := by decide +kernel
theorem dX7_camps_32 : decode cX7_camps 32 = .ok (.invokestatic 23, 3) := by decide +kernel
theorem dX7_camps_35 : decode cX7_camps 35 = .ok (.ireturn, 1) := by decide +kernel
theorem dX7_keepers_0 : decode cX7_keepers 0 = .ok (.iconst 0, 1) := by decide +kernel
theorem dX7_keepers_1 : decode cX7_keepers 1 = .ok (.istore_n 3, 1) := by decide +kernel
theorem dX7_keepers_2 : decode cX7_keepers 2 = .ok (.iconst 0, 1) := by decide +kernel
theorem dX7_keepers_3 : decode cX7_keepers 3 = .ok (.istore 4, 2) := by decide +kernel
theorem dX7_keepers_5 : decode cX7_keepers 5 = .ok (.iload 4, 2) := by decide +kernel
theorem dX7_keepers_7 : decode cX7_keepers 7 = .ok (.aload_n 0, 1) := by decide +kernel
theorem dX7_keepers_8 : decode cX7_keepers 8 = .ok (.getfield 27, 3) := by decide +kernel
theorem dX7_keepers_11 : decode cX7_keepers 11 = .ok (.if_icmp .ge 46, 3) := by decide +kernel
theorem dX7_keepers_14 : decode cX7_keepers 14 = .ok (.iload_n 1, 1) := by decide +kernel
theorem dX7_keepers_15 : decode cX7_keepers 15 = .ok (.iload 4, 2) := by decide +kernel
theorem dX7_keepers_17 : decode cX7_keepers 17 = .ok (.ishr, 1) := by decide +kernel
theorem dX7_keepers_18 : decode cX7_keepers 18 = .ok (.iconst 1, 1) := by decide +kernel
theorem dX7_keepers_19 : decode cX7_keepers 19 = .ok (.iand, 1) := by decide +kernel
theorem dX7_keepers_20 : decode cX7_keepers 20 = .ok (.ifCond .eq 31, 3) := by decide +kernel
theorem dX7_keepers_23 : decode cX7_keepers 23 = .ok (.aload_n 0, 1) := by decide +kernel
theorem dX7_keepers_24 : decode cX7_keepers 24 = .ok (.getfield 33, 3) := by decide +kernel
theorem dX7_keepers_27 : decode cX7_keepers 27 = .ok (.aload_n 0, 1) := by decide +kernel
theorem dX7_keepers_28 : decode cX7_keepers 28 = .ok (.iload 4, 2) := by decide +kernel
theorem dX7_keepers_30 : decode cX7_keepers 30 = .ok (.iload_n 2, 1) := by decide +kernel
theorem dX7_keepers_31 : decode cX7_keepers 31 = .ok (.invokevirtual 37, 3) := by decide +kernel
theorem dX7_keepers_34 : decode cX7_keepers 34 = .ok (.aload_n 0, 1) := by decide +kernel
theorem dX7_keepers_35 : decode cX7_keepers 35 = .ok (.getfield 33, 3) := by decide +kernel
theorem dX7_keepers_38 : decode cX7_keepers 38 = .ok (.getfield 42, 3) := by decide +kernel
theorem dX7_keepers_41 : decode cX7_keepers 41 = .ok (.if_icmp .gt 10, 3) := by decide +kernel
theorem dX7_keepers_44 : decode cX7_keepers 44 = .ok (.iload_n 3, 1) := by decide +kernel
theorem dX7_keepers_45 : decode cX7_keepers 45 = .ok (.iconst 1, 1) := by decide +kernel
theorem dX7_keepers_46 : decode cX7_keepers 46 = .ok (.iload 4, 2) := by decide +kernel
theorem dX7_keepers_48 : decode cX7_keepers 48 = .ok (.ishl, 1) := by decide +kernel
theorem dX7_keepers_49 : decode cX7_keepers 49 = .ok (.ior, 1) := by decide +kernel
theorem dX7_keepers_50 : decode cX7_keepers 50 = .ok (.istore_n 3, 1) := by decide +kernel
theorem dX7_keepers_51 : decode cX7_keepers 51 = .ok (.iinc 4 1, 3) := by decide +kernel
theorem dX7_keepers_54 : decode cX7_keepers 54 = .ok (.goto (-49), 3) := by decide +kernel
theorem dX7_keepers_57 : decode cX7_keepers 57 = .ok (.iload_n 3, 1) := by decide +kernel
theorem dX7_keepers_58 : decode cX7_keepers 58 = .ok (.ireturn, 1) := by decide +kernel
theorem dX7_daresAct_0 : decode cX7_daresAct 0 = .ok (.aload_n 1, 1) := by decide +kernel
theorem dX7_daresAct_1 : decode cX7_daresAct 1 = .ok (.bipush 61, 2) := by decide +kernel
theorem dX7_daresAct_3 : decode cX7_daresAct 3 = .ok (.invokestatic 45, 3) := by decide +kernel
theorem dX7_daresAct_6 : decode cX7_daresAct 6 = .ok (.aload_n 0, 1) := by decide +kernel
theorem dX7_daresAct_7 : decode cX7_daresAct 7 = .ok (.aload_n 1, 1) := by decide +kernel
theorem dX7_daresAct_8 : decode cX7_daresAct 8 = .ok (.iload_n 2, 1) := by decide +kernel
theorem dX7_daresAct_9 : decode cX7_daresAct 9 = .ok (.invokespecial 49, 3) := by decide +kernel
theorem dX7_daresAct_12 : decode cX7_daresAct 12 = .ok (.aload_n 0, 1) := by decide +kernel
theorem dX7_daresAct_13 : decode cX7_daresAct 13 = .ok (.getfield 53, 3) := by decide +kernel
theorem dX7_daresAct_16 : decode cX7_daresAct 16 = .ok (.iadd, 1) := by decide +kernel
theorem dX7_daresAct_17 : decode cX7_daresAct 17 = .ok (.ireturn, 1) := by decide +kernel
theorem dX8_init_0 : decode cX8_init 0 = .ok (.aload_n 0, 1) := by decide +kernel
theorem dX8_init_1 : decode cX8_init 1 = .ok (.invokespecial 3, 3) := by decide +kernel
theorem dX8_init_4 : decode cX8_init 4 = .ok (.aload_n 0, 1) := by decide +kernel
theorem dX8_init_5 : decode cX8_init 5 = .ok (.new 9, 3) := by decide +kernel
theorem dX8_init_8 : decode cX8_init 8 = .ok (.dup, 1) := by decide +kernel
theorem dX8_init_9 : decode cX8_init 9 = .ok (.bipush 8, 2) := by decide +kernel
theorem dX8_init_11 : decode cX8_init 11 = .ok (.iconst 0, 1) := by decide +kernel
theorem dX8_init_12 : decode cX8_init 12 = .ok (.invokespecial 13, 3) := by decide +kernel
theorem dX8_init_15 : decode cX8_init 15 = .ok (.putfield 16, 3) := by decide +kernel
theorem dX8_init_18 : decode cX8_init 18 = .ok (.aload_n 0, 1) := by decide +kernel
theorem dX8_init_19 : decode cX8_init 19 = .ok (.bipush 7, 2) := by decide +kernel
theorem dX8_init_21 : decode cX8_init 21 = .ok (.newarray .int, 2) := by decide +kernel
theorem dX8_init_23 : decode cX8_init 23 = .ok (.putfield 20, 3) := by decide +kernel
theorem dX8_init_26 : decode cX8_init 26 = .ok (.aload_n 0, 1) := by decide +kernel
theorem dX8_init_27 : decode cX8_init 27 = .ok (.iconst 0, 1) := by decide +kernel
theorem dX8_init_28 : decode cX8_init 28 = .ok (.putfield 24, 3) := by decide +kernel
theorem dX8_init_31 : decode cX8_init 31 = .ok (.return_, 1) := by decide +kernel
theorem dX8_fits_0 : decode cX8_fits 0 = .ok (.aload_n 1, 1) := by decide +kernel
theorem dX8_fits_1 : decode cX8_fits 1 = .ok (.getfield 28, 3) := by decide +kernel
theorem dX8_fits_4 : decode cX8_fits 4 = .ok (.invokestatic 33, 3) := by decide +kernel
theorem dX8_fits_7 : decode cX8_fits 7 = .ok (.bipush 6, 2) := by decide +kernel
theorem dX8_fits_9 : decode cX8_fits 9 = .ok (.if_icmp .gt 7, 3) := by decide +kernel
theorem dX8_fits_12 : decode cX8_fits 12 = .ok (.iconst 1, 1) := by decide +kernel
theorem dX8_fits_13 : decode cX8_fits 13 = .ok (.goto 4, 3) := by decide +kernel
theorem dX8_fits_16 : decode cX8_fits 16 = .ok (.iconst 0, 1) := by decide +kernel
theorem dX8_fits_17 : decode cX8_fits 17 = .ok (.ireturn, 1) := by decide +kernel
theorem dX8_blockOf_0 : decode cX8_blockOf 0 = .ok (.aload_n 1, 1) := by decide +kernel
theorem dX8_blockOf_1 : decode cX8_blockOf 1 = .ok (.getfield 39, 3) := by decide +kernel
theorem dX8_blockOf_4 : decode cX8_blockOf 4 = .ok (.bipush 8, 2) := by decide +kernel
theorem dX8_blockOf_6 : decode cX8_blockOf 6 = .ok (.aaload, 1) := by decide +kernel
theorem dX8_blockOf_7 : decode cX8_blockOf 7 = .ok (.iload_n 2, 1) := by decide +kernel
theorem dX8_blockOf_8 : decode cX8_blockOf 8 = .ok (.iaload, 1) := by decide +kernel
theorem dX8_blockOf_9 : decode cX8_blockOf 9 = .ok (.ireturn, 1) := by decide +kernel
theorem dX8_number_0 : decode cX8_number 0 = .ok (.iconst 0, 1) := by decide +kernel
theorem dX8_number_1 : decode cX8_number 1 = .ok (.istore 4, 2) := by decide +kernel
theorem dX8_number_3 : decode cX8_number 3 = .ok (.aload_n 0, 1) := by decide +kernel
theorem dX8_number_4 : decode cX8_number 4 = .ok (.aload_n 1, 1) := by decide +kernel
theorem dX8_number_5 : decode cX8_number 5 = .ok (.invokevirtual 43, 3) := by decide +kernel
theorem dX8_number_8 : decode cX8_number 8 = .ok (.iconst 0, 1) := by decide +kernel
theorem dX8_number_9 : decode cX8_number 9 = .ok (.istore 5, 2) := by decide +kernel
theorem dX8_number_11 : decode cX8_number 11 = .ok (.iload 5, 2) := by decide +kernel
theorem dX8_number_13 : decode cX8_number 13 = .ok (.sipush 203, 3) := by decide +kernel
theorem dX8_number_16 : decode cX8_number 16 = .ok (.if_icmp .ge 56, 3) := by decide +kernel
theorem dX8_number_19 : decode cX8_number 19 = .ok (.iload_n 2, 1) := by decide +kernel
theorem dX8_number_20 : decode cX8_number 20 = .ok (.ifCond .eq 14, 3) := by decide +kernel
theorem dX8_number_23 : decode cX8_number 23 = .ok (.aload_n 0, 1) := by decide +kernel
theorem dX8_number_24 : decode cX8_number 24 = .ok (.getfield 16, 3) := by decide +kernel
theorem dX8_number_27 : decode cX8_number 27 = .ok (.aload_n 1, 1) := by decide +kernel
theorem dX8_number_28 : decode cX8_number 28 = .ok (.invokevirtual 47, 3) := by decide +kernel
theorem dX8_number_31 : decode cX8_number 31 = .ok (.ifCond .ge 18, 3) := by decide +kernel
theorem dX8_number_34 : decode cX8_number 34 = .ok (.iload_n 3, 1) := by decide +kernel
theorem dX8_number_35 : decode cX8_number 35 = .ok (.ifCond .eq 11, 3) := by decide +kernel
theorem dX8_number_38 : decode cX8_number 38 = .ok (.aload_n 0, 1) := by decide +kernel
theorem dX8_number_39 : decode cX8_number 39 = .ok (.aload_n 1, 1) := by decide +kernel
theorem dX8_number_40 : decode cX8_number 40 = .ok (.invokevirtual 51, 3) := by decide +kernel
theorem dX8_number_43 : decode cX8_number 43 = .ok (.ifCond .eq 6, 3) := by decide +kernel
theorem dX8_number_46 : decode cX8_number 46 = .ok (.iinc 4 1, 3) := by decide +kernel
theorem dX8_number_49 : decode cX8_number 49 = .ok (.aload_n 0, 1) := by decide +kernel
theorem dX8_number_50 : decode cX8_number 50 = .ok (.aload_n 1, 1) := by decide +kernel
theorem dX8_number_51 : decode cX8_number 51 = .ok (.getfield 39, 3) := by decide +kernel
theorem dX8_number_54 : decode cX8_number 54 = .ok (.bipush 8, 2) := by decide +kernel
theorem dX8_number_56 : decode cX8_number 56 = .ok (.aaload, 1) := by decide +kernel
theorem dX8_number_57 : decode cX8_number 57 = .ok (.invokevirtual 55, 3) := by decide +kernel
theorem dX8_number_60 : decode cX8_number 60 = .ok (.ifCond .ne 6, 3) := by decide +kernel
theorem dX8_number_63 : decode cX8_number 63 = .ok (.goto 9, 3) := by decide +kernel
theorem dX8_number_66 : decode cX8_number 66 = .ok (.iinc 5 1, 3) := by decide +kernel
theorem dX8_number_69 : decode cX8_number 69 = .ok (.goto (-58), 3) := by decide +kernel
theorem dX8_number_72 : decode cX8_number 72 = .ok (.iload 4, 2) := by decide +kernel
theorem dX8_number_74 : decode cX8_number 74 = .ok (.ireturn, 1) := by decide +kernel
theorem dX8_find_0 : decode cX8_find 0 = .ok (.iconst 0, 1) := by decide +kernel
theorem dX8_find_1 : decode cX8_find 1 = .ok (.istore 4, 2) := by decide +kernel
theorem dX8_find_3 : decode cX8_find 3 = .ok (.aload_n 0, 1) := by decide +kernel
theorem dX8_find_4 : decode cX8_find 4 = .ok (.aload_n 1, 1) := by decide +kernel
theorem dX8_find_5 : decode cX8_find 5 = .ok (.invokevirtual 43, 3) := by decide +kernel
theorem dX8_find_8 : decode cX8_find 8 = .ok (.iconst 0, 1) := by decide +kernel
theorem dX8_find_9 : decode cX8_find 9 = .ok (.istore 5, 2) := by decide +kernel
theorem dX8_find_11 : decode cX8_find 11 = .ok (.iload 5, 2) := by decide +kernel
theorem dX8_find_13 : decode cX8_find 13 = .ok (.sipush 203, 3) := by decide +kernel
theorem dX8_find_16 : decode cX8_find 16 = .ok (.if_icmp .ge 60, 3) := by decide +kernel
theorem dX8_find_19 : decode cX8_find 19 = .ok (.aload_n 0, 1) := by decide +kernel
theorem dX8_find_20 : decode cX8_find 20 = .ok (.getfield 16, 3) := by decide +kernel
theorem dX8_find_23 : decode cX8_find 23 = .ok (.aload_n 1, 1) := by decide +kernel
theorem dX8_find_24 : decode cX8_find 24 = .ok (.invokevirtual 47, 3) := by decide +kernel
theorem dX8_find_27 : decode cX8_find 27 = .ok (.ifCond .ge 26, 3) := by decide +kernel
theorem dX8_find_30 : decode cX8_find 30 = .ok (.iload_n 3, 1) := by decide +kernel
theorem dX8_find_31 : decode cX8_find 31 = .ok (.ifCond .eq 11, 3) := by decide +kernel
theorem dX8_find_34 : decode cX8_find 34 = .ok (.aload_n 0, 1) := by decide +kernel
theorem dX8_find_35 : decode cX8_find 35 = .ok (.aload_n 1, 1) := by decide +kernel
theorem dX8_find_36 : decode cX8_find 36 = .ok (.invokevirtual 51, 3) := by decide +kernel
theorem dX8_find_39 : decode cX8_find 39 = .ok (.ifCond .eq 14, 3) := by decide +kernel
theorem dX8_find_42 : decode cX8_find 42 = .ok (.iload 4, 2) := by decide +kernel
theorem dX8_find_44 : decode cX8_find 44 = .ok (.iload_n 2, 1) := by decide +kernel
theorem dX8_find_45 : decode cX8_find 45 = .ok (.if_icmp .ne 5, 3) := by decide +kernel
theorem dX8_find_48 : decode cX8_find 48 = .ok (.iconst 1, 1) := by decide +kernel
theorem dX8_find_49 : decode cX8_find 49 = .ok (.ireturn, 1) := by decide +kernel
theorem dX8_find_50 : decode cX8_find 50 = .ok (.iinc 4 1, 3) := by decide +kernel
theorem dX8_find_53 : decode cX8_find 53 = .ok (.aload_n 0, 1) := by decide +kernel
theorem dX8_find_54 : decode cX8_find 54 = .ok (.aload_n 1, 1) := by decide +kernel
theorem dX8_find_55 : decode cX8_find 55 = .ok (.getfield 39, 3) := by decide +kernel
theorem dX8_find_58 : decode cX8_find 58 = .ok (.bipush 8, 2) := by decide +kernel
theorem dX8_find_60 : decode cX8_find 60 = .ok (.aaload, 1) := by decide +kernel
theorem dX8_find_61 : decode cX8_find 61 = .ok (.invokevirtual 55, 3) := by decide +kernel
theorem dX8_find_64 : decode cX8_find 64 = .ok (.ifCond .ne 6, 3) := by decide +kernel
theorem dX8_find_67 : decode cX8_find 67 = .ok (.goto 9, 3) := by decide +kernel
theorem dX8_find_70 : decode cX8_find 70 = .ok (.iinc 5 1, 3) := by decide +kernel
theorem dX8_find_73 : decode cX8_find 73 = .ok (.goto (-62), 3) := by decide +kernel
theorem dX8_find_76 : decode cX8_find 76 = .ok (.iconst 0, 1) := by decide +kernel
theorem dX8_find_77 : decode cX8_find 77 = .ok (.ireturn, 1) := by decide +kernel
theorem dX8_begin_0 : decode cX8_begin 0 = .ok (.aload_n 0, 1) := by decide +kernel
theorem dX8_begin_1 : decode cX8_begin 1 = .ok (.iconst 0, 1) := by decide +kernel
theorem dX8_begin_2 : decode cX8_begin 2 = .ok (.putfield 24, 3) := by decide +kernel
theorem dX8_begin_5 : decode cX8_begin 5 = .ok (.iconst 0, 1) := by decide +kernel
theorem dX8_begin_6 : decode cX8_begin 6 = .ok (.istore_n 2, 1) := by decide +kernel
theorem dX8_begin_7 : decode cX8_begin 7 = .ok (.iload_n 2, 1) := by decide +kernel
theorem dX8_begin_8 : decode cX8_begin 8 = .ok (.aload_n 1, 1) := by decide +kernel
theorem dX8_begin_9 : decode cX8_begin 9 = .ok (.getfield 59, 3) := by decide +kernel
theorem dX8_begin_12 : decode cX8_begin 12 = .ok (.if_icmp .ge 47, 3) := by decide +kernel
theorem dX8_begin_15 : decode cX8_begin 15 = .ok (.aload_n 1, 1) := by decide +kernel
theorem dX8_begin_16 : decode cX8_begin 16 = .ok (.getfield 39, 3) := by decide +kernel
theorem dX8_begin_19 : decode cX8_begin 19 = .ok (.bipush 8, 2) := by decide +kernel
theorem dX8_begin_21 : decode cX8_begin 21 = .ok (.aaload, 1) := by decide +kernel
theorem dX8_begin_22 : decode cX8_begin 22 = .ok (.iload_n 2, 1) := by decide +kernel
theorem dX8_begin_23 : decode cX8_begin 23 = .ok (.iconst 0, 1) := by decide +kernel
theorem dX8_begin_24 : decode cX8_begin 24 = .ok (.iastore, 1) := by decide +kernel
theorem dX8_begin_25 : decode cX8_begin 25 = .ok (.aload_n 1, 1) := by decide +kernel
theorem dX8_begin_26 : decode cX8_begin 26 = .ok (.iload_n 2, 1) := by decide +kernel
theorem dX8_begin_27 : decode cX8_begin 27 = .ok (.invokevirtual 62, 3) := by decide +kernel
theorem dX8_begin_30 : decode cX8_begin 30 = .ok (.ifCond .eq 23, 3) := by decide +kernel
theorem dX8_begin_33 : decode cX8_begin 33 = .ok (.aload_n 0, 1) := by decide +kernel
theorem dX8_begin_34 : decode cX8_begin 34 = .ok (.getfield 20, 3) := by decide +kernel
theorem dX8_begin_37 : decode cX8_begin 37 = .ok (.aload_n 0, 1) := by decide +kernel
theorem dX8_begin_38 : decode cX8_begin 38 = .ok (.getfield 24, 3) := by decide +kernel
theorem dX8_begin_41 : decode cX8_begin 41 = .ok (.iload_n 2, 1) := by decide +kernel
theorem dX8_begin_42 : decode cX8_begin 42 = .ok (.iastore, 1) := by decide +kernel
theorem dX8_begin_43 : decode cX8_begin 43 = .ok (.aload_n 0, 1) := by decide +kernel
theorem dX8_begin_44 : decode cX8_begin 44 = .ok (.dup, 1) := by decide +kernel
theorem dX8_begin_45 : decode cX8_begin 45 = .ok (.getfield 24, 3) := by decide +kernel
theorem dX8_begin_48 : decode cX8_begin 48 = .ok (.iconst 1, 1) := by decide +kernel
theorem dX8_begin_49 : decode cX8_begin 49 = .ok (.iadd, 1) := by decide +kernel
theorem dX8_begin_50 : decode cX8_begin 50 = .ok (.putfield 24, 3) := by decide +kernel
theorem dX8_begin_53 : decode cX8_begin 53 = .ok (.iinc 2 1, 3) := by decide +kernel
theorem dX8_begin_56 : decode cX8_begin 56 = .ok (.goto (-49), 3) := by decide +kernel
theorem dX8_begin_59 : decode cX8_begin 59 = .ok (.return_, 1) := by decide +kernel
theorem dX8_advance_0 : decode cX8_advance 0 = .ok (.aload_n 0, 1) := by decide +kernel
theorem dX8_advance_1 : decode cX8_advance 1 = .ok (.getfield 24, 3) := by decide +kernel
theorem dX8_advance_4 : decode cX8_advance 4 = .ok (.iconst 1, 1) := by decide +kernel
theorem dX8_advance_5 : decode cX8_advance 5 = .ok (.isub, 1) := by decide +kernel
theorem dX8_advance_6 : decode cX8_advance 6 = .ok (.istore_n 2, 1) := by decide +kernel
theorem dX8_advance_7 : decode cX8_advance 7 = .ok (.iload_n 2, 1) := by decide +kernel
theorem dX8_advance_8 : decode cX8_advance 8 = .ok (.ifCond .le 49, 3) := by decide +kernel
theorem dX8_advance_11 : decode cX8_advance 11 = .ok (.aload_n 1, 1) := by decide +kernel
theorem dX8_advance_12 : decode cX8_advance 12 = .ok (.aload_n 0, 1) := by decide +kernel
theorem dX8_advance_13 : decode cX8_advance 13 = .ok (.getfield 20, 3) := by decide +kernel
theorem dX8_advance_16 : decode cX8_advance 16 = .ok (.iload_n 2, 1) := by decide +kernel
theorem dX8_advance_17 : decode cX8_advance 17 = .ok (.iaload, 1) := by decide +kernel
theorem dX8_advance_18 : decode cX8_advance 18 = .ok (.iaload, 1) := by decide +kernel
theorem dX8_advance_19 : decode cX8_advance 19 = .ok (.aload_n 0, 1) := by decide +kernel
theorem dX8_advance_20 : decode cX8_advance 20 = .ok (.aload_n 1, 1) := by decide +kernel
theorem dX8_advance_21 : decode cX8_advance 21 = .ok (.iload_n 2, 1) := by decide +kernel
theorem dX8_advance_22 : decode cX8_advance 22 = .ok (.invokevirtual 66, 3) := by decide +kernel
theorem dX8_advance_25 : decode cX8_advance 25 = .ok (.if_icmp .gt 17, 3) := by decide +kernel
theorem dX8_advance_28 : decode cX8_advance 28 = .ok (.aload_n 1, 1) := by decide +kernel
theorem dX8_advance_29 : decode cX8_advance 29 = .ok (.aload_n 0, 1) := by decide +kernel
theorem dX8_advance_30 : decode cX8_advance 30 = .ok (.getfield 20, 3) := by decide +kernel
theorem dX8_advance_33 : decode cX8_advance 33 = .ok (.iload_n 2, 1) := by decide +kernel
theorem dX8_advance_34 : decode cX8_advance 34 = .ok (.iaload, 1) := by decide +kernel
theorem dX8_advance_35 : decode cX8_advance 35 = .ok (.dup2, 1) := by decide +kernel
theorem dX8_advance_36 : decode cX8_advance 36 = .ok (.iaload, 1) := by decide +kernel
theorem dX8_advance_37 : decode cX8_advance 37 = .ok (.iconst 1, 1) := by decide +kernel
theorem dX8_advance_38 : decode cX8_advance 38 = .ok (.iadd, 1) := by decide +kernel
theorem dX8_advance_39 : decode cX8_advance 39 = .ok (.iastore, 1) := by decide +kernel
theorem dX8_advance_40 : decode cX8_advance 40 = .ok (.iconst 1, 1) := by decide +kernel
theorem dX8_advance_41 : decode cX8_advance 41 = .ok (.ireturn, 1) := by decide +kernel
theorem dX8_advance_42 : decode cX8_advance 42 = .ok (.aload_n 1, 1) := by decide +kernel
theorem dX8_advance_43 : decode cX8_advance 43 = .ok (.aload_n 0, 1) := by decide +kernel
theorem dX8_advance_44 : decode cX8_advance 44 = .ok (.getfield 20, 3) := by decide +kernel
theorem dX8_advance_47 : decode cX8_advance 47 = .ok (.iload_n 2, 1) := by decide +kernel
theorem dX8_advance_48 : decode cX8_advance 48 = .ok (.iaload, 1) := by decide +kernel
theorem dX8_advance_49 : decode cX8_advance 49 = .ok (.iconst 0, 1) := by decide +kernel
theorem dX8_advance_50 : decode cX8_advance 50 = .ok (.iastore, 1) := by decide +kernel
theorem dX8_advance_51 : decode cX8_advance 51 = .ok (.iinc 2 (-1), 3) := by decide +kernel
theorem dX8_advance_54 : decode cX8_advance 54 = .ok (.goto (-47), 3) := by decide +kernel
theorem dX8_advance_57 : decode cX8_advance 57 = .ok (.iconst 0, 1) := by decide +kernel
theorem dX8_advance_58 : decode cX8_advance 58 = .ok (.ireturn, 1) := by decide +kernel
theorem dX8_highest_0 : decode cX8_highest 0 = .ok (.iconst 0, 1) := by decide +kernel
theorem dX8_highest_1 : decode cX8_highest 1 = .ok (.istore_n 3, 1) := by decide +kernel
theorem dX8_highest_2 : decode cX8_highest 2 = .ok (.iconst 0, 1) := by decide +kernel
theorem dX8_highest_3 : decode cX8_highest 3 = .ok (.istore 4, 2) := by decide +kernel
theorem dX8_highest_5 : decode cX8_highest 5 = .ok (.iload 4, 2) := by decide +kernel
theorem dX8_highest_7 : decode cX8_highest 7 = .ok (.iload_n 2, 1) := by decide +kernel
theorem dX8_highest_8 : decode cX8_highest 8 = .ok (.if_icmp .ge 23, 3) := by decide +kernel
theorem dX8_highest_11 : decode cX8_highest 11 = .ok (.iload_n 3, 1) := by decide +kernel
theorem dX8_highest_12 : decode cX8_highest 12 = .ok (.aload_n 1, 1) := by decide +kernel
theorem dX8_highest_13 : decode cX8_highest 13 = .ok (.aload_n 0, 1) := by decide +kernel
theorem dX8_highest_14 : decode cX8_highest 14 = .ok (.getfield 20, 3) := by decide +kernel
theorem dX8_highest_17 : decode cX8_highest 17 = .ok (.iload 4, 2) := by decide +kernel
theorem dX8_highest_19 : decode cX8_highest 19 = .ok (.iaload, 1) := by decide +kernel
theorem dX8_highest_20 : decode cX8_highest 20 = .ok (.iaload, 1) := by decide +kernel
theorem dX8_highest_21 : decode cX8_highest 21 = .ok (.invokestatic 70, 3) := by decide +kernel
theorem dX8_highest_24 : decode cX8_highest 24 = .ok (.istore_n 3, 1) := by decide +kernel
theorem dX8_highest_25 : decode cX8_highest 25 = .ok (.iinc 4 1, 3) := by decide +kernel
theorem dX8_highest_28 : decode cX8_highest 28 = .ok (.goto (-23), 3) := by decide +kernel
theorem dX8_highest_31 : decode cX8_highest 31 = .ok (.iload_n 3, 1) := by decide +kernel
theorem dX8_highest_32 : decode cX8_highest 32 = .ok (.ireturn, 1) := by decide +kernel
theorem dX8_steady_0 : decode cX8_steady 0 = .ok (.aload_n 1, 1) := by decide +kernel
theorem dX8_steady_1 : decode cX8_steady 1 = .ok (.getfield 39, 3) := by decide +kernel
theorem dX8_steady_4 : decode cX8_steady 4 = .ok (.bipush 8, 2) := by decide +kernel
theorem dX8_steady_6 : decode cX8_steady 6 = .ok (.aaload, 1) := by decide +kernel
theorem dX8_steady_7 : decode cX8_steady 7 = .ok (.astore_n 2, 1) := by decide +kernel
theorem dX8_steady_8 : decode cX8_steady 8 = .ok (.aload_n 0, 1) := by decide +kernel
theorem dX8_steady_9 : decode cX8_steady 9 = .ok (.aload_n 2, 1) := by decide +kernel
theorem dX8_steady_10 : decode cX8_steady 10 = .ok (.aload_n 0, 1) := by decide +kernel
theorem dX8_steady_11 : decode cX8_steady 11 = .ok (.getfield 24, 3) := by decide +kernel
theorem dX8_steady_14 : decode cX8_steady 14 = .ok (.invokevirtual 66, 3) := by decide +kernel
theorem dX8_steady_17 : decode cX8_steady 17 = .ok (.iconst 1, 1) := by decide +kernel
theorem dX8_steady_18 : decode cX8_steady 18 = .ok (.iadd, 1) := by decide +kernel
theorem dX8_steady_19 : decode cX8_steady 19 = .ok (.istore_n 3, 1) := by decide +kernel
theorem dX8_steady_20 : decode cX8_steady 20 = .ok (.iconst 0, 1) := by decide +kernel
theorem dX8_steady_21 : decode cX8_steady 21 = .ok (.istore 4, 2) := by decide +kernel
theorem dX8_steady_23 : decode cX8_steady 23 = .ok (.iload 4, 2) := by decide +kernel
theorem dX8_steady_25 : decode cX8_steady 25 = .ok (.aload_n 0, 1) := by decide +kernel
theorem dX8_steady_26 : decode cX8_steady 26 = .ok (.getfield 24, 3) := by decide +kernel
theorem dX8_steady_29 : decode cX8_steady 29 = .ok (.if_icmp .ge 93, 3) := by decide +kernel
theorem dX8_steady_32 : decode cX8_steady 32 = .ok (.aload_n 0, 1) := by decide +kernel
theorem dX8_steady_33 : decode cX8_steady 33 = .ok (.getfield 20, 3) := by decide +kernel
theorem dX8_steady_36 : decode cX8_steady 36 = .ok (.iload 4, 2) := by decide +kernel
theorem dX8_steady_38 : decode cX8_steady 38 = .ok (.iaload, 1) := by decide +kernel
theorem dX8_steady_39 : decode cX8_steady 39 = .ok (.istore 5, 2) := by decide +kernel
theorem dX8_steady_41 : decode cX8_steady 41 = .ok (.aload_n 2, 1) := by decide +kernel
theorem dX8_steady_42 : decode cX8_steady 42 = .ok (.iload 5, 2) := by decide +kernel
theorem dX8_steady_44 : decode cX8_steady 44 = .ok (.iaload, 1) := by decide +kernel
theorem dX8_steady_45 : decode cX8_steady 45 = .ok (.istore 6, 2) := by decide +kernel
theorem dX8_steady_47 : decode cX8_steady 47 = .ok (.iconst 0, 1) := by decide +kernel
theorem dX8_steady_48 : decode cX8_steady 48 = .ok (.istore 7, 2) := by decide +kernel
theorem dX8_steady_50 : decode cX8_steady 50 = .ok (.iconst 0, 1) := by decide +kernel
theorem dX8_steady_51 : decode cX8_steady 51 = .ok (.istore 8, 2) := by decide +kernel
theorem dX8_steady_53 : decode cX8_steady 53 = .ok (.iload 8, 2) := by decide +kernel
theorem dX8_steady_55 : decode cX8_steady 55 = .ok (.iload_n 3, 1) := by decide +kernel
theorem dX8_steady_56 : decode cX8_steady 56 = .ok (.if_icmp .gt 47, 3) := by decide +kernel
theorem dX8_steady_59 : decode cX8_steady 59 = .ok (.iload 7, 2) := by decide +kernel
theorem dX8_steady_61 : decode cX8_steady 61 = .ok (.ifCond .ne 42, 3) := by decide +kernel
theorem dX8_steady_64 : decode cX8_steady 64 = .ok (.aload_n 2, 1) := by decide +kernel
theorem dX8_steady_65 : decode cX8_steady 65 = .ok (.iload 5, 2) := by decide +kernel
theorem dX8_steady_67 : decode cX8_steady 67 = .ok (.iload 8, 2) := by decide +kernel
theorem dX8_steady_69 : decode cX8_steady 69 = .ok (.iastore, 1) := by decide +kernel
theorem dX8_steady_70 : decode cX8_steady 70 = .ok (.iload 8, 2) := by decide +kernel
theorem dX8_steady_72 : decode cX8_steady 72 = .ok (.iload 6, 2) := by decide +kernel
theorem dX8_steady_74 : decode cX8_steady 74 = .ok (.if_icmp .eq 20, 3) := by decide +kernel
theorem dX8_steady_77 : decode cX8_steady 77 = .ok (.aload_n 0, 1) := by decide +kernel
theorem dX8_steady_78 : decode cX8_steady 78 = .ok (.getfield 16, 3) := by decide +kernel
theorem dX8_steady_81 : decode cX8_steady 81 = .ok (.aload_n 1, 1) := by decide +kernel
theorem dX8_steady_82 : decode cX8_steady 82 = .ok (.iload 5, 2) := by decide +kernel
theorem dX8_steady_84 : decode cX8_steady 84 = .ok (.invokevirtual 76, 3) := by decide +kernel
theorem dX8_steady_87 : decode cX8_steady 87 = .ok (.ifCond .eq 7, 3) := by decide +kernel
theorem dX8_steady_90 : decode cX8_steady 90 = .ok (.iconst 1, 1) := by decide +kernel
theorem dX8_steady_91 : decode cX8_steady 91 = .ok (.goto 4, 3) := by decide +kernel
theorem dX8_steady_94 : decode cX8_steady 94 = .ok (.iconst 0, 1) := by decide +kernel
theorem dX8_steady_95 : decode cX8_steady 95 = .ok (.istore 7, 2) := by decide +kernel
theorem dX8_steady_97 : decode cX8_steady 97 = .ok (.iinc 8 1, 3) := by decide +kernel
theorem dX8_steady_100 : decode cX8_steady 100 = .ok (.goto (-47), 3) := by decide +kernel
theorem dX8_steady_103 : decode cX8_steady 103 = .ok (.aload_n 2, 1) := by decide +kernel
theorem dX8_steady_104 : decode cX8_steady 104 = .ok (.iload 5, 2) := by decide +kernel
theorem dX8_steady_106 : decode cX8_steady 106 = .ok (.iload 6, 2) := by decide +kernel
theorem dX8_steady_108 : decode cX8_steady 108 = .ok (.iastore, 1) := by decide +kernel
theorem dX8_steady_109 : decode cX8_steady 109 = .ok (.iload 7, 2) := by decide +kernel
theorem dX8_steady_111 : decode cX8_steady 111 = .ok (.ifCond .eq 5, 3) := by decide +kernel
theorem dX8_steady_114 : decode cX8_steady 114 = .ok (.iconst 0, 1) := by decide +kernel
theorem dX8_steady_115 : decode cX8_steady 115 = .ok (.ireturn, 1) := by decide +kernel
theorem dX8_steady_116 : decode cX8_steady 116 = .ok (.iinc 4 1, 3) := by decide +kernel
theorem dX8_steady_119 : decode cX8_steady 119 = .ok (.goto (-96), 3) := by decide +kernel
theorem dX8_steady_122 : decode cX8_steady 122 = .ok (.iconst 1, 1) := by decide +kernel
theorem dX8_steady_123 : decode cX8_steady 123 = .ok (.ireturn, 1) := by decide +kernel
theorem dX9_init_0 : decode cX9_init 0 = .ok (.aload_n 0, 1) := by decide +kernel
theorem dX9_init_1 : decode cX9_init 1 = .ok (.iload_n 1, 1) := by decide +kernel
theorem dX9_init_2 : decode cX9_init 2 = .ok (.iload_n 2, 1) := by decide +kernel
theorem dX9_init_3 : decode cX9_init 3 = .ok (.invokespecial 1, 3) := by decide +kernel
theorem dX9_init_6 : decode cX9_init 6 = .ok (.return_, 1) := by decide +kernel
theorem dX9_camps_0 : decode cX9_camps 0 = .ok (.iconst 0, 1) := by decide +kernel
theorem dX9_camps_1 : decode cX9_camps 1 = .ok (.istore 4, 2) := by decide +kernel
theorem dX9_camps_3 : decode cX9_camps 3 = .ok (.iconst 0, 1) := by decide +kernel
theorem dX9_camps_4 : decode cX9_camps 4 = .ok (.istore 5, 2) := by decide +kernel
theorem dX9_camps_6 : decode cX9_camps 6 = .ok (.iconst 0, 1) := by decide +kernel
theorem dX9_camps_7 : decode cX9_camps 7 = .ok (.istore 6, 2) := by decide +kernel
theorem dX9_camps_9 : decode cX9_camps 9 = .ok (.iload 6, 2) := by decide +kernel
theorem dX9_camps_11 : decode cX9_camps 11 = .ok (.aload_n 1, 1) := by decide +kernel
theorem dX9_camps_12 : decode cX9_camps 12 = .ok (.getfield 7, 3) := by decide +kernel
theorem dX9_camps_15 : decode cX9_camps 15 = .ok (.if_icmp .ge 109, 3) := by decide +kernel
theorem dX9_camps_18 : decode cX9_camps 18 = .ok (.aload_n 1, 1) := by decide +kernel
theorem dX9_camps_19 : decode cX9_camps 19 = .ok (.getfield 13, 3) := by decide +kernel
theorem dX9_camps_22 : decode cX9_camps 22 = .ok (.iload 6, 2) := by decide +kernel
theorem dX9_camps_24 : decode cX9_camps 24 = .ok (.aaload, 1) := by decide +kernel
theorem dX9_camps_25 : decode cX9_camps 25 = .ok (.iload_n 2, 1) := by decide +kernel
theorem dX9_camps_26 : decode cX9_camps 26 = .ok (.iaload, 1) := by decide +kernel
theorem dX9_camps_27 : decode cX9_camps 27 = .ok (.istore 7, 2) := by decide +kernel
theorem dX9_camps_29 : decode cX9_camps 29 = .ok (.aload_n 1, 1) := by decide +kernel
theorem dX9_camps_30 : decode cX9_camps 30 = .ok (.getfield 13, 3) := by decide +kernel
theorem dX9_camps_33 : decode cX9_camps 33 = .ok (.iload 6, 2) := by decide +kernel
theorem dX9_camps_35 : decode cX9_camps 35 = .ok (.aaload, 1) := by decide +kernel
theorem dX9_camps_36 : decode cX9_camps 36 = .ok (.iload_n 3, 1) := by decide +kernel
theorem dX9_camps_37 : decode cX9_camps 37 = .ok (.iaload, 1) := by decide +kernel
theorem dX9_camps_38 : decode cX9_camps 38 = .ok (.istore 8, 2) := by decide +kernel
theorem dX9_camps_40 : decode cX9_camps 40 = .ok (.iload 7, 2) := by decide +kernel
theorem dX9_camps_42 : decode cX9_camps 42 = .ok (.iconst 3, 1) := by decide +kernel
theorem dX9_camps_43 : decode cX9_camps 43 = .ok (.if_icmp .eq 75, 3) := by decide +kernel
theorem dX9_camps_46 : decode cX9_camps 46 = .ok (.iload 8, 2) := by decide +kernel
theorem dX9_camps_48 : decode cX9_camps 48 = .ok (.iconst 3, 1) := by decide +kernel
theorem dX9_camps_49 : decode cX9_camps 49 = .ok (.if_icmp .ne 6, 3) := by decide +kernel
theorem dX9_camps_52 : decode cX9_camps 52 = .ok (.goto 66, 3) := by decide +kernel
theorem dX9_camps_55 : decode cX9_camps 55 = .ok (.iload 7, 2) := by decide +kernel
theorem dX9_camps_57 : decode cX9_camps 57 = .ok (.iconst 2, 1) := by decide +kernel
theorem dX9_camps_58 : decode cX9_camps 58 = .ok (.if_icmp .ne 7, 3) := by decide +kernel
theorem dX9_camps_61 : decode cX9_camps 61 = .ok (.iconst 1, 1) := by decide +kernel
theorem dX9_camps_62 : decode cX9_camps 62 = .ok (.goto 4, 3) := by decide +kernel
theorem dX9_camps_65 : decode cX9_camps 65 = .ok (.iconst 0, 1) := by decide +kernel
theorem dX9_camps_66 : decode cX9_camps 66 = .ok (.istore 9, 2) := by decide +kernel
theorem dX9_camps_68 : decode cX9_camps 68 = .ok (.iload 8, 2) := by decide +kernel
theorem dX9_camps_70 : decode cX9_camps 70 = .ok (.ifCond .eq 7, 3) := by decide +kernel
theorem dX9_camps_73 : decode cX9_camps 73 = .ok (.iconst 1, 1) := by decide +kernel
theorem dX9_camps_74 : decode cX9_camps 74 = .ok (.goto 4, 3) := by decide +kernel
theorem dX9_camps_77 : decode cX9_camps 77 = .ok (.iconst 0, 1) := by decide +kernel
theorem dX9_camps_78 : decode cX9_camps 78 = .ok (.istore 10, 2) := by decide +kernel
theorem dX9_camps_80 : decode cX9_camps 80 = .ok (.iload 9, 2) := by decide +kernel
theorem dX9_camps_82 : decode cX9_camps 82 = .ok (.ifCond .eq 17, 3) := by decide +kernel
theorem dX9_camps_85 : decode cX9_camps 85 = .ok (.iload 10, 2) := by decide +kernel
theorem dX9_camps_87 : decode cX9_camps 87 = .ok (.ifCond .ne 12, 3) := by decide +kernel
theorem dX9_camps_90 : decode cX9_camps 90 = .ok (.iload 4, 2) := by decide +kernel
theorem dX9_camps_92 : decode cX9_camps 92 = .ok (.iconst 1, 1) := by decide +kernel
theorem dX9_camps_93 : decode cX9_camps 93 = .ok (.iload 6, 2) := by decide +kernel
theorem dX9_camps_95 : decode cX9_camps 95 = .ok (.ishl, 1) := by decide +kernel
theorem dX9_camps_96 : decode cX9_camps 96 = .ok (.ior, 1) := by decide +kernel
theorem dX9_camps_97 : decode cX9_camps 97 = .ok (.istore 4, 2) := by decide +kernel
theorem dX9_camps_99 : decode cX9_camps 99 = .ok (.iload 10, 2) := by decide +kernel
theorem dX9_camps_101 : decode cX9_camps 101 = .ok (.ifCond .eq 17, 3) := by decide +kernel
theorem dX9_camps_104 : decode cX9_camps 104 = .ok (.iload 9, 2) := by decide +kernel
theorem dX9_camps_106 : decode cX9_camps 106 = .ok (.ifCond .ne 12, 3) := by decide +kernel
theorem dX9_camps_109 : decode cX9_camps 109 = .ok (.iload 5, 2) := by decide +kernel
theorem dX9_camps_111 : decode cX9_camps 111 = .ok (.iconst 1, 1) := by decide +kernel
theorem dX9_camps_112 : decode cX9_camps 112 = .ok (.iload 6, 2) := by decide +kernel
theorem dX9_camps_114 : decode cX9_camps 114 = .ok (.ishl, 1) := by decide +kernel
theorem dX9_camps_115 : decode cX9_camps 115 = .ok (.ior, 1) := by decide +kernel
theorem dX9_camps_116 : decode cX9_camps 116 = .ok (.istore 5, 2) := by decide +kernel
theorem dX9_camps_118 : decode cX9_camps 118 = .ok (.iinc 6 1, 3) := by decide +kernel
theorem dX9_camps_121 : decode cX9_camps 121 = .ok (.goto (-112), 3) := by decide +kernel
theorem dX9_camps_124 : decode cX9_camps 124 = .ok (.aload_n 1, 1) := by decide +kernel
theorem dX9_camps_125 : decode cX9_camps 125 = .ok (.iload_n 2, 1) := by decide +kernel
theorem dX9_camps_126 : decode cX9_camps 126 = .ok (.iload_n 3, 1) := by decide +kernel
theorem dX9_camps_127 : decode cX9_camps 127 = .ok (.iload 4, 2) := by decide +kernel
theorem dX9_camps_129 : decode cX9_camps 129 = .ok (.iload 5, 2) := by decide +kernel
theorem dX9_camps_131 : decode cX9_camps 131 = .ok (.invokestatic 17, 3) := by decide +kernel
theorem dX9_camps_134 : decode cX9_camps 134 = .ok (.ireturn, 1) := by decide +kernel
theorem dX9_holdsAct_0 : decode cX9_holdsAct 0 = .ok (.aload_n 1, 1) := by decide +kernel
theorem dX9_holdsAct_1 : decode cX9_holdsAct 1 = .ok (.bipush 31, 2) := by decide +kernel
theorem dX9_holdsAct_3 : decode cX9_holdsAct 3 = .ok (.invokestatic 23, 3) := by decide +kernel
theorem dX9_holdsAct_6 : decode cX9_holdsAct 6 = .ok (.aload_n 0, 1) := by decide +kernel
theorem dX9_holdsAct_7 : decode cX9_holdsAct 7 = .ok (.aload_n 1, 1) := by decide +kernel
theorem dX9_holdsAct_8 : decode cX9_holdsAct 8 = .ok (.iload_n 2, 1) := by decide +kernel
theorem dX9_holdsAct_9 : decode cX9_holdsAct 9 = .ok (.invokespecial 27, 3) := by decide +kernel
theorem dX9_holdsAct_12 : decode cX9_holdsAct 12 = .ok (.bipush 7, 2) := by decide +kernel
theorem dX9_holdsAct_14 : decode cX9_holdsAct 14 = .ok (.ixor, 1) := by decide +kernel
theorem dX9_holdsAct_15 : decode cX9_holdsAct 15 = .ok (.ireturn, 1) := by decide +kernel
theorem dX10_init_0 : decode cX10_init 0 = .ok (.aload_n 0, 1) := by decide +kernel
theorem dX10_init_1 : decode cX10_init 1 = .ok (.invokespecial 3, 3) := by decide +kernel
theorem dX10_init_4 : decode cX10_init 4 = .ok (.aload_n 0, 1) := by decide +kernel
theorem dX10_init_5 : decode cX10_init 5 = .ok (.iconst 0, 1) := by decide +kernel
theorem dX10_init_6 : decode cX10_init 6 = .ok (.putfield 9, 3) := by decide +kernel
theorem dX10_init_9 : decode cX10_init 9 = .ok (.aload_n 0, 1) := by decide +kernel
theorem dX10_init_10 : decode cX10_init 10 = .ok (.iconst 0, 1) := by decide +kernel
theorem dX10_init_11 : decode cX10_init 11 = .ok (.putfield 15, 3) := by decide +kernel
theorem dX10_init_14 : decode cX10_init 14 = .ok (.aload_n 0, 1) := by decide +kernel
theorem dX10_init_15 : decode cX10_init 15 = .ok (.iconst 0, 1) := by decide +kernel
theorem dX10_init_16 : decode cX10_init 16 = .ok (.putfield 18, 3) := by decide +kernel
theorem dX10_init_19 : decode cX10_init 19 = .ok (.aload_n 0, 1) := by decide +kernel
theorem dX10_init_20 : decode cX10_init 20 = .ok (.iconst 0, 1) := by decide +kernel
theorem dX10_init_21 : decode cX10_init 21 = .ok (.putfield 21, 3) := by decide +kernel
theorem dX10_init_24 : decode cX10_init 24 = .ok (.aload_n 0, 1) := by decide +kernel
theorem dX10_init_25 : decode cX10_init 25 = .ok (.iconst 0, 1) := by decide +kernel
theorem dX10_init_26 : decode cX10_init 26 = .ok (.putfield 24, 3) := by decide +kernel
theorem dX10_init_29 : decode cX10_init 29 = .ok (.aload_n 0, 1) := by decide +kernel
theorem dX10_init_30 : decode cX10_init 30 = .ok (.bipush 10, 2) := by decide +kernel
theorem dX10_init_32 : decode cX10_init 32 = .ok (.newarray .int, 2) := by decide +kernel
theorem dX10_init_34 : decode cX10_init 34 = .ok (.putfield 27, 3) := by decide +kernel
theorem dX10_init_37 : decode cX10_init 37 = .ok (.aload_n 0, 1) := by decide +kernel
theorem dX10_init_38 : decode cX10_init 38 = .ok (.bipush 10, 2) := by decide +kernel
theorem dX10_init_40 : decode cX10_init 40 = .ok (.newarray .int, 2) := by decide +kernel
theorem dX10_init_42 : decode cX10_init 42 = .ok (.putfield 31, 3) := by decide +kernel
theorem dX10_init_45 : decode cX10_init 45 = .ok (.aload_n 0, 1) := by decide +kernel
theorem dX10_init_46 : decode cX10_init 46 = .ok (.bipush 120, 2) := by decide +kernel
theorem dX10_init_48 : decode cX10_init 48 = .ok (.newarray .int, 2) := by decide +kernel
theorem dX10_init_50 : decode cX10_init 50 = .ok (.putfield 34, 3) := by decide +kernel
theorem dX10_init_53 : decode cX10_init 53 = .ok (.aload_n 0, 1) := by decide +kernel
theorem dX10_init_54 : decode cX10_init 54 = .ok (.bipush 120, 2) := by decide +kernel
theorem dX10_init_56 : decode cX10_init 56 = .ok (.newarray .int, 2) := by decide +kernel
theorem dX10_init_58 : decode cX10_init 58 = .ok (.putfield 37, 3) := by decide +kernel
theorem dX10_init_61 : decode cX10_init 61 = .ok (.aload_n 0, 1) := by decide +kernel
theorem dX10_init_62 : decode cX10_init 62 = .ok (.bipush 120, 2) := by decide +kernel
theorem dX10_init_64 : decode cX10_init 64 = .ok (.newarray .int, 2) := by decide +kernel
theorem dX10_init_66 : decode cX10_init 66 = .ok (.putfield 40, 3) := by decide +kernel
theorem dX10_init_69 : decode cX10_init 69 = .ok (.aload_n 0, 1) := by decide +kernel
theorem dX10_init_70 : decode cX10_init 70 = .ok (.iconst 4, 1) := by decide +kernel
theorem dX10_init_71 : decode cX10_init 71 = .ok (.newarray .int, 2) := by decide +kernel
theorem dX10_init_73 : decode cX10_init 73 = .ok (.putfield 43, 3) := by decide +kernel
theorem dX10_init_76 : decode cX10_init 76 = .ok (.return_, 1) := by decide +kernel
theorem dX10_become_0 : decode cX10_become 0 = .ok (.aload_n 0, 1) := by decide +kernel
theorem dX10_become_1 : decode cX10_become 1 = .ok (.aload_n 1, 1) := by decide +kernel
theorem dX10_become_2 : decode cX10_become 2 = .ok (.getfield 9, 3) := by decide +kernel
theorem dX10_become_5 : decode cX10_become 5 = .ok (.putfield 9, 3) := by decide +kernel
theorem dX10_become_8 : decode cX10_become 8 = .ok (.aload_n 0, 1) := by decide +kernel
theorem dX10_become_9 : decode cX10_become 9 = .ok (.aload_n 1, 1) := by decide +kernel
theorem dX10_become_10 : decode cX10_become 10 = .ok (.getfield 15, 3) := by decide +kernel
theorem dX10_become_13 : decode cX10_become 13 = .ok (.putfield 15, 3) := by decide +kernel
theorem dX10_become_16 : decode cX10_become 16 = .ok (.aload_n 0, 1) := by decide +kernel
theorem dX10_become_17 : decode cX10_become 17 = .ok (.aload_n 1, 1) := by decide +kernel
theorem dX10_become_18 : decode cX10_become 18 = .ok (.getfield 18, 3) := by decide +kernel
theorem dX10_become_21 : decode cX10_become 21 = .ok (.putfield 18, 3) := by decide +kernel
theorem dX10_become_24 : decode cX10_become 24 = .ok (.aload_n 0, 1) := by decide +kernel
theorem dX10_become_25 : decode cX10_become 25 = .ok (.aload_n 1, 1) := by decide +kernel
theorem dX10_become_26 : decode cX10_become 26 = .ok (.getfield 21, 3) := by decide +kernel
theorem dX10_become_29 : decode cX10_become 29 = .ok (.putfield 21, 3) := by decide +kernel
theorem dX10_become_32 : decode cX10_become 32 = .ok (.aload_n 0, 1) := by decide +kernel
theorem dX10_become_33 : decode cX10_become 33 = .ok (.aload_n 1, 1) := by decide +kernel
theorem dX10_become_34 : decode cX10_become 34 = .ok (.getfield 24, 3) := by decide +kernel
theorem dX10_become_37 : decode cX10_become 37 = .ok (.putfield 24, 3) := by decide +kernel
theorem dX10_become_40 : decode cX10_become 40 = .ok (.aload_n 1, 1) := by decide +kernel
theorem dX10_become_41 : decode cX10_become 41 = .ok (.getfield 27, 3) := by decide +kernel
theorem dX10_become_44 : decode cX10_become 44 = .ok (.iconst 0, 1) := by decide +kernel
theorem dX10_become_45 : decode cX10_become 45 = .ok (.aload_n 0, 1) := by decide +kernel
theorem dX10_become_46 : decode cX10_become 46 = .ok (.getfield 27, 3) := by decide +kernel
theorem dX10_become_49 : decode cX10_become 49 = .ok (.iconst 0, 1) := by decide +kernel
theorem dX10_become_50 : decode cX10_become 50 = .ok (.bipush 10, 2) := by decide +kernel
theorem dX10_become_52 : decode cX10_become 52 = .ok (.invokestatic 46, 3) := by decide +kernel
theorem dX10_become_55 : decode cX10_become 55 = .ok (.aload_n 1, 1) := by decide +kernel
theorem dX10_become_56 : decode cX10_become 56 = .ok (.getfield 31, 3) := by decide +kernel
theorem dX10_become_59 : decode cX10_become 59 = .ok (.iconst 0, 1) := by decide +kernel
theorem dX10_become_60 : decode cX10_become 60 = .ok (.aload_n 0, 1) := by decide +kernel
theorem dX10_become_61 : decode cX10_become 61 = .ok (.getfield 31, 3) := by decide +kernel
theorem dX10_become_64 : decode cX10_become 64 = .ok (.iconst 0, 1) := by decide +kernel
theorem dX10_become_65 : decode cX10_become 65 = .ok (.bipush 10, 2) := by decide +kernel
theorem dX10_become_67 : decode cX10_become 67 = .ok (.invokestatic 46, 3) := by decide +kernel
theorem dX10_become_70 : decode cX10_become 70 = .ok (.aload_n 1, 1) := by decide +kernel
theorem dX10_become_71 : decode cX10_become 71 = .ok (.getfield 34, 3) := by decide +kernel
theorem dX10_become_74 : decode cX10_become 74 = .ok (.iconst 0, 1) := by decide +kernel
theorem dX10_become_75 : decode cX10_become 75 = .ok (.aload_n 0, 1) := by decide +kernel
theorem dX10_become_76 : decode cX10_become 76 = .ok (.getfield 34, 3) := by decide +kernel
theorem dX10_become_79 : decode cX10_become 79 = .ok (.iconst 0, 1) := by decide +kernel
theorem dX10_become_80 : decode cX10_become 80 = .ok (.bipush 120, 2) := by decide +kernel
theorem dX10_become_82 : decode cX10_become 82 = .ok (.invokestatic 46, 3) := by decide +kernel
theorem dX10_become_85 : decode cX10_become 85 = .ok (.aload_n 1, 1) := by decide +kernel
theorem dX10_become_86 : decode cX10_become 86 = .ok (.getfield 37, 3) := by decide +kernel
theorem dX10_become_89 : decode cX10_become 89 = .ok (.iconst 0, 1) := by decide +kernel
theorem dX10_become_90 : decode cX10_become 90 = .ok (.aload_n 0, 1) := by decide +kernel
theorem dX10_become_91 : decode cX10_become 91 = .ok (.getfield 37, 3) := by decide +kernel
theorem dX10_become_94 : decode cX10_become 94 = .ok (.iconst 0, 1) := by decide +kernel
theorem dX10_become_95 : decode cX10_become 95 = .ok (.bipush 120, 2) := by decide +kernel
theorem dX10_become_97 : decode cX10_become 97 = .ok (.invokestatic 46, 3) := by decide +kernel
theorem dX10_become_100 : decode cX10_become 100 = .ok (.aload_n 1, 1) := by decide +kernel
theorem dX10_become_101 : decode cX10_become 101 = .ok (.getfield 40, 3) := by decide +kernel
theorem dX10_become_104 : decode cX10_become 104 = .ok (.iconst 0, 1) := by decide +kernel
theorem dX10_become_105 : decode cX10_become 105 = .ok (.aload_n 0, 1) := by decide +kernel
theorem dX10_become_106 : decode cX10_become 106 = .ok (.getfield 40, 3) := by decide +kernel
theorem dX10_become_109 : decode cX10_become 109 = .ok (.iconst 0, 1) := by decide +kernel
theorem dX10_become_110 : decode cX10_become 110 = .ok (.bipush 120, 2) := by decide +kernel
theorem dX10_become_112 : decode cX10_become 112 = .ok (.invokestatic 46, 3) := by decide +kernel
theorem dX10_become_115 : decode cX10_become 115 = .ok (.return_, 1) := by decide +kernel
theorem dX10_costOf_0 : decode cX10_costOf 0 = .ok (.aload_n 0, 1) := by decide +kernel
theorem dX10_costOf_1 : decode cX10_costOf 1 = .ok (.getfield 43, 3) := by decide +kernel
theorem dX10_costOf_4 : decode cX10_costOf 4 = .ok (.iconst 0, 1) := by decide +kernel
theorem dX10_costOf_5 : decode cX10_costOf 5 = .ok (.aload_n 1, 1) := by decide +kernel
theorem dX10_costOf_6 : decode cX10_costOf 6 = .ok (.getfield 52, 3) := by decide +kernel
theorem dX10_costOf_9 : decode cX10_costOf 9 = .ok (.iload_n 2, 1) := by decide +kernel
theorem dX10_costOf_10 : decode cX10_costOf 10 = .ok (.iaload, 1) := by decide +kernel
theorem dX10_costOf_11 : decode cX10_costOf 11 = .ok (.aload_n 1, 1) := by decide +kernel
theorem dX10_costOf_12 : decode cX10_costOf 12 = .ok (.getfield 52, 3) := by decide +kernel
theorem dX10_costOf_15 : decode cX10_costOf 15 = .ok (.iload_n 3, 1) := by decide +kernel
theorem dX10_costOf_16 : decode cX10_costOf 16 = .ok (.iaload, 1) := by decide +kernel
theorem dX10_costOf_17 : decode cX10_costOf 17 = .ok (.isub, 1) := by decide +kernel
theorem dX10_costOf_18 : decode cX10_costOf 18 = .ok (.invokestatic 57, 3) := by decide +kernel
theorem dX10_costOf_21 : decode cX10_costOf 21 = .ok (.iastore, 1) := by decide +kernel
theorem dX10_costOf_22 : decode cX10_costOf 22 = .ok (.aload_n 0, 1) := by decide +kernel
theorem dX10_costOf_23 : decode cX10_costOf 23 = .ok (.getfield 43, 3) := by decide +kernel
theorem dX10_costOf_26 : decode cX10_costOf 26 = .ok (.iconst 1, 1) := by decide +kernel
theorem dX10_costOf_27 : decode cX10_costOf 27 = .ok (.aload_n 1, 1) := by decide +kernel
theorem dX10_costOf_28 : decode cX10_costOf 28 = .ok (.getfield 63, 3) := by decide +kernel
theorem dX10_costOf_31 : decode cX10_costOf 31 = .ok (.iload_n 2, 1) := by decide +kernel
theorem dX10_costOf_32 : decode cX10_costOf 32 = .ok (.iaload, 1) := by decide +kernel
theorem dX10_costOf_33 : decode cX10_costOf 33 = .ok (.iastore, 1) := by decide +kernel
theorem dX10_costOf_34 : decode cX10_costOf 34 = .ok (.aload_n 0, 1) := by decide +kernel
theorem dX10_costOf_35 : decode cX10_costOf 35 = .ok (.getfield 43, 3) := by decide +kernel
theorem dX10_costOf_38 : decode cX10_costOf 38 = .ok (.iconst 2, 1) := by decide +kernel
theorem dX10_costOf_39 : decode cX10_costOf 39 = .ok (.aload_n 1, 1) := by decide +kernel
theorem dX10_costOf_40 : decode cX10_costOf 40 = .ok (.getfield 63, 3) := by decide +kernel
theorem dX10_costOf_43 : decode cX10_costOf 43 = .ok (.iload_n 3, 1) := by decide +kernel
theorem dX10_costOf_44 : decode cX10_costOf 44 = .ok (.iaload, 1) := by decide +kernel
theorem dX10_costOf_45 : decode cX10_costOf 45 = .ok (.iastore, 1) := by decide +kernel
theorem dX10_costOf_46 : decode cX10_costOf 46 = .ok (.aload_n 0, 1) := by decide +kernel
theorem dX10_costOf_47 : decode cX10_costOf 47 = .ok (.getfield 43, 3) := by decide +kernel
theorem dX10_costOf_50 : decode cX10_costOf 50 = .ok (.iconst 3, 1) := by decide +kernel
theorem dX10_costOf_51 : decode cX10_costOf 51 = .ok (.iload_n 2, 1) := by decide +kernel
theorem dX10_costOf_52 : decode cX10_costOf 52 = .ok (.iastore, 1) := by decide +kernel
theorem dX10_costOf_53 : decode cX10_costOf 53 = .ok (.iconst 0, 1) := by decide +kernel
theorem dX10_costOf_54 : decode cX10_costOf 54 = .ok (.istore 4, 2) := by decide +kernel
theorem dX10_costOf_56 : decode cX10_costOf 56 = .ok (.iconst 0, 1) := by decide +kernel
theorem dX10_costOf_57 : decode cX10_costOf 57 = .ok (.istore 5, 2) := by decide +kernel
theorem dX10_costOf_59 : decode cX10_costOf 59 = .ok (.iconst 0, 1) := by decide +kernel
theorem dX10_costOf_60 : decode cX10_costOf 60 = .ok (.istore 6, 2) := by decide +kernel
theorem dX10_costOf_62 : decode cX10_costOf 62 = .ok (.iload 6, 2) := by decide +kernel
theorem dX10_costOf_64 : decode cX10_costOf 64 = .ok (.aload_n 0, 1) := by decide +kernel
theorem dX10_costOf_65 : decode cX10_costOf 65 = .ok (.getfield 21, 3) := by decide +kernel
theorem dX10_costOf_68 : decode cX10_costOf 68 = .ok (.if_icmp .ge 210, 3) := by decide +kernel
theorem dX10_costOf_71 : decode cX10_costOf 71 = .ok (.iload 6, 2) := by decide +kernel
theorem dX10_costOf_73 : decode cX10_costOf 73 = .ok (.bipush 10, 2) := by decide +kernel
theorem dX10_costOf_75 : decode cX10_costOf 75 = .ok (.if_icmp .ge 203, 3) := by decide +kernel
theorem dX10_costOf_78 : decode cX10_costOf 78 = .ok (.iconst 0, 1) := by decide +kernel
theorem dX10_costOf_79 : decode cX10_costOf 79 = .ok (.istore 7, 2) := by decide +kernel
theorem dX10_costOf_81 : decode cX10_costOf 81 = .ok (.iload 5, 2) := by decide +kernel
theorem dX10_costOf_83 : decode cX10_costOf 83 = .ok (.aload_n 0, 1) := by decide +kernel
theorem dX10_costOf_84 : decode cX10_costOf 84 = .ok (.getfield 31, 3) := by decide +kernel
theorem dX10_costOf_87 : decode cX10_costOf 87 = .ok (.iload 6, 2) := by decide +kernel
theorem dX10_costOf_89 : decode cX10_costOf 89 = .ok (.iaload, 1) := by decide +kernel
theorem dX10_costOf_90 : decode cX10_costOf 90 = .ok (.if_icmp .ge 163, 3) := by decide +kernel
theorem dX10_costOf_93 : decode cX10_costOf 93 = .ok (.iload 5, 2) := by decide +kernel
theorem dX10_costOf_95 : decode cX10_costOf 95 = .ok (.bipush 120, 2) := by decide +kernel
theorem dX10_costOf_97 : decode cX10_costOf 97 = .ok (.if_icmp .ge 156, 3) := by decide +kernel
theorem dX10_costOf_100 : decode cX10_costOf 100 = .ok (.aload_n 0, 1) := by decide +kernel
theorem dX10_costOf_101 : decode cX10_costOf 101 = .ok (.getfield 34, 3) := by decide +kernel
theorem dX10_costOf_104 : decode cX10_costOf 104 = .ok (.iload 5, 2) := by decide +kernel
theorem dX10_costOf_106 : decode cX10_costOf 106 = .ok (.iaload, 1) := by decide +kernel
theorem dX10_costOf_107 : decode cX10_costOf 107 = .ok (.tableswitch 65 4 6 #[25, 34, 51], 25) := by decide +kernel
theorem dX10_costOf_132 : decode cX10_costOf 132 = .ok (.iload 7, 2) := by decide +kernel
theorem dX10_costOf_134 : decode cX10_costOf 134 = .ok (.iconst 1, 1) := by decide +kernel
theorem dX10_costOf_135 : decode cX10_costOf 135 = .ok (.ixor, 1) := by decide +kernel
theorem dX10_costOf_136 : decode cX10_costOf 136 = .ok (.istore 7, 2) := by decide +kernel
theorem dX10_costOf_138 : decode cX10_costOf 138 = .ok (.goto 109, 3) := by decide +kernel
theorem dX10_costOf_141 : decode cX10_costOf 141 = .ok (.iload 7, 2) := by decide +kernel
theorem dX10_costOf_143 : decode cX10_costOf 143 = .ok (.iconst 1, 1) := by decide +kernel
theorem dX10_costOf_144 : decode cX10_costOf 144 = .ok (.ishr, 1) := by decide +kernel
theorem dX10_costOf_145 : decode cX10_costOf 145 = .ok (.iload 7, 2) := by decide +kernel
theorem dX10_costOf_147 : decode cX10_costOf 147 = .ok (.iconst 1, 1) := by decide +kernel
theorem dX10_costOf_148 : decode cX10_costOf 148 = .ok (.iand, 1) := by decide +kernel
theorem dX10_costOf_149 : decode cX10_costOf 149 = .ok (.bipush (-2), 2) := by decide +kernel
theorem dX10_costOf_151 : decode cX10_costOf 151 = .ok (.ior, 1) := by decide +kernel
theorem dX10_costOf_152 : decode cX10_costOf 152 = .ok (.iand, 1) := by decide +kernel
theorem dX10_costOf_153 : decode cX10_costOf 153 = .ok (.istore 7, 2) := by decide +kernel
theorem dX10_costOf_155 : decode cX10_costOf 155 = .ok (.goto 92, 3) := by decide +kernel
theorem dX10_costOf_158 : decode cX10_costOf 158 = .ok (.iload 7, 2) := by decide +kernel
theorem dX10_costOf_160 : decode cX10_costOf 160 = .ok (.iconst 1, 1) := by decide +kernel
theorem dX10_costOf_161 : decode cX10_costOf 161 = .ok (.ishr, 1) := by decide +kernel
theorem dX10_costOf_162 : decode cX10_costOf 162 = .ok (.iload 7, 2) := by decide +kernel
theorem dX10_costOf_164 : decode cX10_costOf 164 = .ok (.iconst 1, 1) := by decide +kernel
theorem dX10_costOf_165 : decode cX10_costOf 165 = .ok (.iand, 1) := by decide +kernel
theorem dX10_costOf_166 : decode cX10_costOf 166 = .ok (.ior, 1) := by decide +kernel
theorem dX10_costOf_167 : decode cX10_costOf 167 = .ok (.istore 7, 2) := by decide +kernel
theorem dX10_costOf_169 : decode cX10_costOf 169 = .ok (.goto 78, 3) := by decide +kernel
theorem dX10_costOf_172 : decode cX10_costOf 172 = .ok (.aload_n 0, 1) := by decide +kernel
theorem dX10_costOf_173 : decode cX10_costOf 173 = .ok (.getfield 43, 3) := by decide +kernel
theorem dX10_costOf_176 : decode cX10_costOf 176 = .ok (.aload_n 0, 1) := by decide +kernel
theorem dX10_costOf_177 : decode cX10_costOf 177 = .ok (.getfield 34, 3) := by decide +kernel
theorem dX10_costOf_180 : decode cX10_costOf 180 = .ok (.iload 5, 2) := by decide +kernel
theorem dX10_costOf_182 : decode cX10_costOf 182 = .ok (.iaload, 1) := by decide +kernel
theorem dX10_costOf_183 : decode cX10_costOf 183 = .ok (.iconst 3, 1) := by decide +kernel
theorem dX10_costOf_184 : decode cX10_costOf 184 = .ok (.iand, 1) := by decide +kernel
theorem dX10_costOf_185 : decode cX10_costOf 185 = .ok (.iaload, 1) := by decide +kernel
theorem dX10_costOf_186 : decode cX10_costOf 186 = .ok (.istore 8, 2) := by decide +kernel
theorem dX10_costOf_188 : decode cX10_costOf 188 = .ok (.iload 8, 2) := by decide +kernel
theorem dX10_costOf_190 : decode cX10_costOf 190 = .ok (.aload_n 0, 1) := by decide +kernel
theorem dX10_costOf_191 : decode cX10_costOf 191 = .ok (.getfield 40, 3) := by decide +kernel
theorem dX10_costOf_194 : decode cX10_costOf 194 = .ok (.iload 5, 2) := by decide +kernel
theorem dX10_costOf_196 : decode cX10_costOf 196 = .ok (.iaload, 1) := by decide +kernel
theorem dX10_costOf_197 : decode cX10_costOf 197 = .ok (.if_icmp .ge 7, 3) := by decide +kernel
theorem dX10_costOf_200 : decode cX10_costOf 200 = .ok (.iconst 0, 1) := by decide +kernel
theorem dX10_costOf_201 : decode cX10_costOf 201 = .ok (.goto 20, 3) := by decide +kernel
theorem dX10_costOf_204 : decode cX10_costOf 204 = .ok (.iload 8, 2) := by decide +kernel
theorem dX10_costOf_206 : decode cX10_costOf 206 = .ok (.aload_n 0, 1) := by decide +kernel
theorem dX10_costOf_207 : decode cX10_costOf 207 = .ok (.getfield 40, 3) := by decide +kernel
theorem dX10_costOf_210 : decode cX10_costOf 210 = .ok (.iload 5, 2) := by decide +kernel
theorem dX10_costOf_212 : decode cX10_costOf 212 = .ok (.iaload, 1) := by decide +kernel
theorem dX10_costOf_213 : decode cX10_costOf 213 = .ok (.if_icmp .le 7, 3) := by decide +kernel
theorem dX10_costOf_216 : decode cX10_costOf 216 = .ok (.iconst 2, 1) := by decide +kernel
theorem dX10_costOf_217 : decode cX10_costOf 217 = .ok (.goto 4, 3) := by decide +kernel
theorem dX10_costOf_220 : decode cX10_costOf 220 = .ok (.iconst 1, 1) := by decide +kernel
theorem dX10_costOf_221 : decode cX10_costOf 221 = .ok (.istore 9, 2) := by decide +kernel
theorem dX10_costOf_223 : decode cX10_costOf 223 = .ok (.iload 7, 2) := by decide +kernel
theorem dX10_costOf_225 : decode cX10_costOf 225 = .ok (.iconst 1, 1) := by decide +kernel
theorem dX10_costOf_226 : decode cX10_costOf 226 = .ok (.ishl, 1) := by decide +kernel
theorem dX10_costOf_227 : decode cX10_costOf 227 = .ok (.iload 9, 2) := by decide +kernel
theorem dX10_costOf_229 : decode cX10_costOf 229 = .ok (.aload_n 0, 1) := by decide +kernel
theorem dX10_costOf_230 : decode cX10_costOf 230 = .ok (.getfield 37, 3) := by decide +kernel
theorem dX10_costOf_233 : decode cX10_costOf 233 = .ok (.iload 5, 2) := by decide +kernel
theorem dX10_costOf_235 : decode cX10_costOf 235 = .ok (.iaload, 1) := by decide +kernel
theorem dX10_costOf_236 : decode cX10_costOf 236 = .ok (.if_icmp .ne 7, 3) := by decide +kernel
theorem dX10_costOf_239 : decode cX10_costOf 239 = .ok (.iconst 1, 1) := by decide +kernel
theorem dX10_costOf_240 : decode cX10_costOf 240 = .ok (.goto 4, 3) := by decide +kernel
theorem dX10_costOf_243 : decode cX10_costOf 243 = .ok (.iconst 0, 1) := by decide +kernel
theorem dX10_costOf_244 : decode cX10_costOf 244 = .ok (.ior, 1) := by decide +kernel
theorem dX10_costOf_245 : decode cX10_costOf 245 = .ok (.istore 7, 2) := by decide +kernel
theorem dX10_costOf_247 : decode cX10_costOf 247 = .ok (.iinc 5 1, 3) := by decide +kernel
theorem dX10_costOf_250 : decode cX10_costOf 250 = .ok (.goto (-169), 3) := by decide +kernel
theorem dX10_costOf_253 : decode cX10_costOf 253 = .ok (.iload 7, 2) := by decide +kernel
theorem dX10_costOf_255 : decode cX10_costOf 255 = .ok (.iconst 1, 1) := by decide +kernel
theorem dX10_costOf_256 : decode cX10_costOf 256 = .ok (.iand, 1) := by decide +kernel
theorem dX10_costOf_257 : decode cX10_costOf 257 = .ok (.ifCond .eq 15, 3) := by decide +kernel
theorem dX10_costOf_260 : decode cX10_costOf 260 = .ok (.iload 4, 2) := by decide +kernel
theorem dX10_costOf_262 : decode cX10_costOf 262 = .ok (.aload_n 0, 1) := by decide +kernel
theorem dX10_costOf_263 : decode cX10_costOf 263 = .ok (.getfield 27, 3) := by decide +kernel
theorem dX10_costOf_266 : decode cX10_costOf 266 = .ok (.iload 6, 2) := by decide +kernel
theorem dX10_costOf_268 : decode cX10_costOf 268 = .ok (.iaload, 1) := by decide +kernel
theorem dX10_costOf_269 : decode cX10_costOf 269 = .ok (.iadd, 1) := by decide +kernel
theorem dX10_costOf_270 : decode cX10_costOf 270 = .ok (.istore 4, 2) := by decide +kernel
theorem dX10_costOf_272 : decode cX10_costOf 272 = .ok (.iinc 6 1, 3) := by decide +kernel
theorem dX10_costOf_275 : decode cX10_costOf 275 = .ok (.goto (-213), 3) := by decide +kernel
theorem dX10_costOf_278 : decode cX10_costOf 278 = .ok (.iload 4, 2) := by decide +kernel
theorem dX10_costOf_280 : decode cX10_costOf 280 = .ok (.ireturn, 1) := by decide +kernel
theorem dX10_read_0 : decode cX10_read 0 = .ok (.aload_n 0, 1) := by decide +kernel
theorem dX10_read_1 : decode cX10_read 1 = .ok (.iconst 0, 1) := by decide +kernel
theorem dX10_read_2 : decode cX10_read 2 = .ok (.putfield 9, 3) := by decide +kernel
theorem dX10_read_5 : decode cX10_read 5 = .ok (.aload_n 0, 1) := by decide +kernel
theorem dX10_read_6 : decode cX10_read 6 = .ok (.iconst 0, 1) := by decide +kernel
theorem dX10_read_7 : decode cX10_read 7 = .ok (.putfield 15, 3) := by decide +kernel
theorem dX10_read_10 : decode cX10_read 10 = .ok (.aload_n 0, 1) := by decide +kernel
theorem dX10_read_11 : decode cX10_read 11 = .ok (.iconst 0, 1) := by decide +kernel
theorem dX10_read_12 : decode cX10_read 12 = .ok (.putfield 18, 3) := by decide +kernel
theorem dX10_read_15 : decode cX10_read 15 = .ok (.aload_n 0, 1) := by decide +kernel
theorem dX10_read_16 : decode cX10_read 16 = .ok (.iconst 0, 1) := by decide +kernel
theorem dX10_read_17 : decode cX10_read 17 = .ok (.putfield 21, 3) := by decide +kernel
theorem dX10_read_20 : decode cX10_read 20 = .ok (.aload_n 0, 1) := by decide +kernel
theorem dX10_read_21 : decode cX10_read 21 = .ok (.iconst 0, 1) := by decide +kernel
theorem dX10_read_22 : decode cX10_read 22 = .ok (.putfield 24, 3) := by decide +kernel
theorem dX10_read_25 : decode cX10_read 25 = .ok (.aload_n 1, 1) := by decide +kernel
theorem dX10_read_26 : decode cX10_read 26 = .ok (.iconst 0, 1) := by decide +kernel
theorem dX10_read_27 : decode cX10_read 27 = .ok (.putfield 66, 3) := by decide +kernel
theorem dX10_read_30 : decode cX10_read 30 = .ok (.iconst 1, 1) := by decide +kernel
theorem dX10_read_31 : decode cX10_read 31 = .ok (.istore_n 2, 1) := by decide +kernel
theorem dX10_read_32 : decode cX10_read 32 = .ok (.iload_n 2, 1) := by decide +kernel
theorem dX10_read_33 : decode cX10_read 33 = .ok (.bipush 10, 2) := by decide +kernel
theorem dX10_read_35 : decode cX10_read 35 = .ok (.if_icmp .gt 55, 3) := by decide +kernel
theorem dX10_read_38 : decode cX10_read 38 = .ok (.aload_n 0, 1) := by decide +kernel
theorem dX10_read_39 : decode cX10_read 39 = .ok (.aload_n 1, 1) := by decide +kernel
theorem dX10_read_40 : decode cX10_read 40 = .ok (.invokevirtual 71, 3) := by decide +kernel
theorem dX10_read_43 : decode cX10_read 43 = .ok (.ifCond .ne 8, 3) := by decide +kernel
theorem dX10_read_46 : decode cX10_read 46 = .ok (.aload_n 1, 1) := by decide +kernel
theorem dX10_read_47 : decode cX10_read 47 = .ok (.getfield 66, 3) := by decide +kernel
theorem dX10_read_50 : decode cX10_read 50 = .ok (.ireturn, 1) := by decide +kernel
theorem dX10_read_51 : decode cX10_read 51 = .ok (.aload_n 1, 1) := by decide +kernel
theorem dX10_read_52 : decode cX10_read 52 = .ok (.getfield 66, 3) := by decide +kernel
theorem dX10_read_55 : decode cX10_read 55 = .ok (.aload_n 1, 1) := by decide +kernel
theorem dX10_read_56 : decode cX10_read 56 = .ok (.getfield 75, 3) := by decide +kernel
theorem dX10_read_59 : decode cX10_read 59 = .ok (.if_icmp .lt 5, 3) := by decide +kernel
theorem dX10_read_62 : decode cX10_read 62 = .ok (.iconst (-1), 1) := by decide +kernel
theorem dX10_read_63 : decode cX10_read 63 = .ok (.ireturn, 1) := by decide +kernel
theorem dX10_read_64 : decode cX10_read 64 = .ok (.iload_n 2, 1) := by decide +kernel
theorem dX10_read_65 : decode cX10_read 65 = .ok (.bipush 10, 2) := by decide +kernel
theorem dX10_read_67 : decode cX10_read 67 = .ok (.if_icmp .eq 12, 3) := by decide +kernel
theorem dX10_read_70 : decode cX10_read 70 = .ok (.aload_n 1, 1) := by decide +kernel
theorem dX10_read_71 : decode cX10_read 71 = .ok (.ldc 78, 2) := by decide +kernel
theorem dX10_read_73 : decode cX10_read 73 = .ok (.invokevirtual 80, 3) := by decide +kernel
theorem dX10_read_76 : decode cX10_read 76 = .ok (.ifCond .ge 8, 3) := by decide +kernel
theorem dX10_read_79 : decode cX10_read 79 = .ok (.aload_n 1, 1) := by decide +kernel
theorem dX10_read_80 : decode cX10_read 80 = .ok (.getfield 66, 3) := by decide +kernel
theorem dX10_read_83 : decode cX10_read 83 = .ok (.ireturn, 1) := by decide +kernel
theorem dX10_read_84 : decode cX10_read 84 = .ok (.iinc 2 1, 3) := by decide +kernel
theorem dX10_read_87 : decode cX10_read 87 = .ok (.goto (-55), 3) := by decide +kernel
theorem dX10_read_90 : decode cX10_read 90 = .ok (.aload_n 1, 1) := by decide +kernel
theorem dX10_read_91 : decode cX10_read 91 = .ok (.getfield 66, 3) := by decide +kernel
theorem dX10_read_94 : decode cX10_read 94 = .ok (.ireturn, 1) := by decide +kernel
theorem dX10_clause_0 : decode cX10_clause 0 = .ok (.aload_n 1, 1) := by decide +kernel
theorem dX10_clause_1 : decode cX10_clause 1 = .ok (.ldc 84, 2) := by decide +kernel
theorem dX10_clause_3 : decode cX10_clause 3 = .ok (.invokevirtual 80, 3) := by decide +kernel
theorem dX10_clause_6 : decode cX10_clause 6 = .ok (.tableswitch 105 0 3 #[30, 36, 59, 82], 30) := by decide +kernel
theorem dX10_clause_36 : decode cX10_clause 36 = .ok (.aload_n 0, 1) := by decide +kernel
theorem dX10_clause_37 : decode cX10_clause 37 = .ok (.aload_n 1, 1) := by decide +kernel
theorem dX10_clause_38 : decode cX10_clause 38 = .ok (.invokevirtual 86, 3) := by decide +kernel
theorem dX10_clause_41 : decode cX10_clause 41 = .ok (.ireturn, 1) := by decide +kernel
theorem dX10_clause_42 : decode cX10_clause 42 = .ok (.aload_n 0, 1) := by decide +kernel
theorem dX10_clause_43 : decode cX10_clause 43 = .ok (.aload_n 1, 1) := by decide +kernel
theorem dX10_clause_44 : decode cX10_clause 44 = .ok (.ldc 89, 2) := by decide +kernel
theorem dX10_clause_46 : decode cX10_clause 46 = .ok (.invokevirtual 91, 3) := by decide +kernel
theorem dX10_clause_49 : decode cX10_clause 49 = .ok (.istore_n 2, 1) := by decide +kernel
theorem dX10_clause_50 : decode cX10_clause 50 = .ok (.aload_n 0, 1) := by decide +kernel
theorem dX10_clause_51 : decode cX10_clause 51 = .ok (.iload_n 2, 1) := by decide +kernel
theorem dX10_clause_52 : decode cX10_clause 52 = .ok (.putfield 9, 3) := by decide +kernel
theorem dX10_clause_55 : decode cX10_clause 55 = .ok (.iload_n 2, 1) := by decide +kernel
theorem dX10_clause_56 : decode cX10_clause 56 = .ok (.ifCond .lt 7, 3) := by decide +kernel
theorem dX10_clause_59 : decode cX10_clause 59 = .ok (.iconst 1, 1) := by decide +kernel
theorem dX10_clause_60 : decode cX10_clause 60 = .ok (.goto 4, 3) := by decide +kernel
theorem dX10_clause_63 : decode cX10_clause 63 = .ok (.iconst 0, 1) := by decide +kernel
theorem dX10_clause_64 : decode cX10_clause 64 = .ok (.ireturn, 1) := by decide +kernel
theorem dX10_clause_65 : decode cX10_clause 65 = .ok (.aload_n 0, 1) := by decide +kernel
theorem dX10_clause_66 : decode cX10_clause 66 = .ok (.aload_n 1, 1) := by decide +kernel
theorem dX10_clause_67 : decode cX10_clause 67 = .ok (.ldc 95, 2) := by decide +kernel
theorem dX10_clause_69 : decode cX10_clause 69 = .ok (.invokevirtual 91, 3) := by decide +kernel
theorem dX10_clause_72 : decode cX10_clause 72 = .ok (.istore_n 2, 1) := by decide +kernel
theorem dX10_clause_73 : decode cX10_clause 73 = .ok (.aload_n 0, 1) := by decide +kernel
theorem dX10_clause_74 : decode cX10_clause 74 = .ok (.iload_n 2, 1) := by decide +kernel
theorem dX10_clause_75 : decode cX10_clause 75 = .ok (.putfield 15, 3) := by decide +kernel
theorem dX10_clause_78 : decode cX10_clause 78 = .ok (.iload_n 2, 1) := by decide +kernel
theorem dX10_clause_79 : decode cX10_clause 79 = .ok (.ifCond .lt 7, 3) := by decide +kernel
theorem dX10_clause_82 : decode cX10_clause 82 = .ok (.iconst 1, 1) := by decide +kernel
theorem dX10_clause_83 : decode cX10_clause 83 = .ok (.goto 4, 3) := by decide +kernel
theorem dX10_clause_86 : decode cX10_clause 86 = .ok (.iconst 0, 1) := by decide +kernel
theorem dX10_clause_87 : decode cX10_clause 87 = .ok (.ireturn, 1) := by decide +kernel
theorem dX10_clause_88 : decode cX10_clause 88 = .ok (.aload_n 0, 1) := by decide +kernel
theorem dX10_clause_89 : decode cX10_clause 89 = .ok (.aload_n 1, 1) := by decide +kernel
theorem dX10_clause_90 : decode cX10_clause 90 = .ok (.ldc 97, 2) := by decide +kernel
theorem dX10_clause_92 : decode cX10_clause 92 = .ok (.invokevirtual 91, 3) := by decide +kernel
theorem dX10_clause_95 : decode cX10_clause 95 = .ok (.istore_n 2, 1) := by decide +kernel
theorem dX10_clause_96 : decode cX10_clause 96 = .ok (.aload_n 0, 1) := by decide +kernel
theorem dX10_clause_97 : decode cX10_clause 97 = .ok (.iload_n 2, 1) := by decide +kernel
theorem dX10_clause_98 : decode cX10_clause 98 = .ok (.putfield 18, 3) := by decide +kernel
theorem dX10_clause_101 : decode cX10_clause 101 = .ok (.iload_n 2, 1) := by decide +kernel
theorem dX10_clause_102 : decode cX10_clause 102 = .ok (.ifCond .lt 7, 3) := by decide +kernel
theorem dX10_clause_105 : decode cX10_clause 105 = .ok (.iconst 1, 1) := by decide +kernel
theorem dX10_clause_106 : decode cX10_clause 106 = .ok (.goto 4, 3) := by decide +kernel
theorem dX10_clause_109 : decode cX10_clause 109 = .ok (.iconst 0, 1) := by decide +kernel
theorem dX10_clause_110 : decode cX10_clause 110 = .ok (.ireturn, 1) := by decide +kernel
theorem dX10_clause_111 : decode cX10_clause 111 = .ok (.iconst 0, 1) := by decide +kernel
theorem dX10_clause_112 : decode cX10_clause 112 = .ok (.ireturn, 1) := by decide +kernel
theorem dX10_amount_0 : decode cX10_amount 0 = .ok (.aload_n 1, 1) := by decide +kernel
theorem dX10_amount_1 : decode cX10_amount 1 = .ok (.aload_n 2, 1) := by decide +kernel
theorem dX10_amount_2 : decode cX10_amount 2 = .ok (.invokevirtual 99, 3) := by decide +kernel
theorem dX10_amount_5 : decode cX10_amount 5 = .ok (.ifCond .eq 10, 3) := by decide +kernel
theorem dX10_amount_8 : decode cX10_amount 8 = .ok (.aload_n 1, 1) := by decide +kernel
theorem dX10_amount_9 : decode cX10_amount 9 = .ok (.invokevirtual 103, 3) := by decide +kernel
theorem dX10_amount_12 : decode cX10_amount 12 = .ok (.goto 4, 3) := by decide +kernel
theorem dX10_amount_15 : decode cX10_amount 15 = .ok (.iconst (-1), 1) := by decide +kernel
theorem dX10_amount_16 : decode cX10_amount 16 = .ok (.ireturn, 1) := by decide +kernel
theorem dX10_priced_0 : decode cX10_priced 0 = .ok (.aload_n 0, 1) := by decide +kernel
theorem dX10_priced_1 : decode cX10_priced 1 = .ok (.aload_n 1, 1) := by decide +kernel
theorem dX10_priced_2 : decode cX10_priced 2 = .ok (.ldc 107, 2) := by decide +kernel
theorem dX10_priced_4 : decode cX10_priced 4 = .ok (.invokevirtual 91, 3) := by decide +kernel
theorem dX10_priced_7 : decode cX10_priced 7 = .ok (.istore_n 2, 1) := by decide +kernel
theorem dX10_priced_8 : decode cX10_priced 8 = .ok (.iload_n 2, 1) := by decide +kernel
theorem dX10_priced_9 : decode cX10_priced 9 = .ok (.ifCond .lt 30, 3) := by decide +kernel
theorem dX10_priced_12 : decode cX10_priced 12 = .ok (.aload_n 1, 1) := by decide +kernel
theorem dX10_priced_13 : decode cX10_priced 13 = .ok (.ldc 109, 2) := by decide +kernel
theorem dX10_priced_15 : decode cX10_priced 15 = .ok (.invokevirtual 80, 3) := by decide +kernel
theorem dX10_priced_18 : decode cX10_priced 18 = .ok (.ifCond .lt 21, 3) := by decide +kernel
theorem dX10_priced_21 : decode cX10_priced 21 = .ok (.aload_n 0, 1) := by decide +kernel
theorem dX10_priced_22 : decode cX10_priced 22 = .ok (.aload_n 1, 1) := by decide +kernel
theorem dX10_priced_23 : decode cX10_priced 23 = .ok (.iconst 0, 1) := by decide +kernel
theorem dX10_priced_24 : decode cX10_priced 24 = .ok (.invokevirtual 111, 3) := by decide +kernel
theorem dX10_priced_27 : decode cX10_priced 27 = .ok (.ifCond .eq 12, 3) := by decide +kernel
theorem dX10_priced_30 : decode cX10_priced 30 = .ok (.aload_n 0, 1) := by decide +kernel
theorem dX10_priced_31 : decode cX10_priced 31 = .ok (.getfield 21, 3) := by decide +kernel
theorem dX10_priced_34 : decode cX10_priced 34 = .ok (.bipush 10, 2) := by decide +kernel
theorem dX10_priced_36 : decode cX10_priced 36 = .ok (.if_icmp .lt 5, 3) := by decide +kernel
theorem dX10_priced_39 : decode cX10_priced 39 = .ok (.iconst 0, 1) := by decide +kernel
theorem dX10_priced_40 : decode cX10_priced 40 = .ok (.ireturn, 1) := by decide +kernel
theorem dX10_priced_41 : decode cX10_priced 41 = .ok (.aload_n 0, 1) := by decide +kernel
theorem dX10_priced_42 : decode cX10_priced 42 = .ok (.getfield 27, 3) := by decide +kernel
theorem dX10_priced_45 : decode cX10_priced 45 = .ok (.aload_n 0, 1) := by decide +kernel
theorem dX10_priced_46 : decode cX10_priced 46 = .ok (.getfield 21, 3) := by decide +kernel
theorem dX10_priced_49 : decode cX10_priced 49 = .ok (.iload_n 2, 1) := by decide +kernel
theorem dX10_priced_50 : decode cX10_priced 50 = .ok (.iastore, 1) := by decide +kernel
theorem dX10_priced_51 : decode cX10_priced 51 = .ok (.aload_n 0, 1) := by decide +kernel
theorem dX10_priced_52 : decode cX10_priced 52 = .ok (.getfield 31, 3) := by decide +kernel
theorem dX10_priced_55 : decode cX10_priced 55 = .ok (.aload_n 0, 1) := by decide +kernel
theorem dX10_priced_56 : decode cX10_priced 56 = .ok (.getfield 21, 3) := by decide +kernel
theorem dX10_priced_59 : decode cX10_priced 59 = .ok (.aload_n 0, 1) := by decide +kernel
theorem dX10_priced_60 : decode cX10_priced 60 = .ok (.getfield 24, 3) := by decide +kernel
theorem dX10_priced_63 : decode cX10_priced 63 = .ok (.iastore, 1) := by decide +kernel
theorem dX10_priced_64 : decode cX10_priced 64 = .ok (.aload_n 0, 1) := by decide +kernel
theorem dX10_priced_65 : decode cX10_priced 65 = .ok (.dup, 1) := by decide +kernel
theorem dX10_priced_66 : decode cX10_priced 66 = .ok (.getfield 21, 3) := by decide +kernel
theorem dX10_priced_69 : decode cX10_priced 69 = .ok (.iconst 1, 1) := by decide +kernel
theorem dX10_priced_70 : decode cX10_priced 70 = .ok (.iadd, 1) := by decide +kernel
theorem dX10_priced_71 : decode cX10_priced 71 = .ok (.putfield 21, 3) := by decide +kernel
theorem dX10_priced_74 : decode cX10_priced 74 = .ok (.iconst 1, 1) := by decide +kernel
theorem dX10_priced_75 : decode cX10_priced 75 = .ok (.ireturn, 1) := by decide +kernel
theorem dX10_either_0 : decode cX10_either 0 = .ok (.aload_n 0, 1) := by decide +kernel
theorem dX10_either_1 : decode cX10_either 1 = .ok (.aload_n 1, 1) := by decide +kernel
theorem dX10_either_2 : decode cX10_either 2 = .ok (.iload_n 2, 1) := by decide +kernel
theorem dX10_either_3 : decode cX10_either 3 = .ok (.invokevirtual 115, 3) := by decide +kernel
theorem dX10_either_6 : decode cX10_either 6 = .ok (.ifCond .ne 5, 3) := by decide +kernel
theorem dX10_either_9 : decode cX10_either 9 = .ok (.iconst 0, 1) := by decide +kernel
theorem dX10_either_10 : decode cX10_either 10 = .ok (.ireturn, 1) := by decide +kernel
theorem dX10_either_11 : decode cX10_either 11 = .ok (.iconst 0, 1) := by decide +kernel
theorem dX10_either_12 : decode cX10_either 12 = .ok (.istore_n 3, 1) := by decide +kernel
theorem dX10_either_13 : decode cX10_either 13 = .ok (.iload_n 3, 1) := by decide +kernel
theorem dX10_either_14 : decode cX10_either 14 = .ok (.bipush 120, 2) := by decide +kernel
theorem dX10_either_16 : decode cX10_either 16 = .ok (.if_icmp .ge 37, 3) := by decide +kernel
theorem dX10_either_19 : decode cX10_either 19 = .ok (.aload_n 1, 1) := by decide +kernel
theorem dX10_either_20 : decode cX10_either 20 = .ok (.ldc 118, 2) := by decide +kernel
theorem dX10_either_22 : decode cX10_either 22 = .ok (.invokevirtual 80, 3) := by decide +kernel
theorem dX10_either_25 : decode cX10_either 25 = .ok (.ifCond .ne 28, 3) := by decide +kernel
theorem dX10_either_28 : decode cX10_either 28 = .ok (.aload_n 0, 1) := by decide +kernel
theorem dX10_either_29 : decode cX10_either 29 = .ok (.aload_n 1, 1) := by decide +kernel
theorem dX10_either_30 : decode cX10_either 30 = .ok (.iload_n 2, 1) := by decide +kernel
theorem dX10_either_31 : decode cX10_either 31 = .ok (.invokevirtual 115, 3) := by decide +kernel
theorem dX10_either_34 : decode cX10_either 34 = .ok (.ifCond .ne 5, 3) := by decide +kernel
theorem dX10_either_37 : decode cX10_either 37 = .ok (.iconst 0, 1) := by decide +kernel
theorem dX10_either_38 : decode cX10_either 38 = .ok (.ireturn, 1) := by decide +kernel
theorem dX10_either_39 : decode cX10_either 39 = .ok (.aload_n 0, 1) := by decide +kernel
theorem dX10_either_40 : decode cX10_either 40 = .ok (.bipush 6, 2) := by decide +kernel
theorem dX10_either_42 : decode cX10_either 42 = .ok (.iconst 0, 1) := by decide +kernel
theorem dX10_either_43 : decode cX10_either 43 = .ok (.iconst 0, 1) := by decide +kernel
theorem dX10_either_44 : decode cX10_either 44 = .ok (.invokevirtual 120, 3) := by decide +kernel
theorem dX10_either_47 : decode cX10_either 47 = .ok (.iinc 3 1, 3) := by decide +kernel
theorem dX10_either_50 : decode cX10_either 50 = .ok (.goto (-37), 3) := by decide +kernel
theorem dX10_either_53 : decode cX10_either 53 = .ok (.iconst 1, 1) := by decide +kernel
theorem dX10_either_54 : decode cX10_either 54 = .ok (.ireturn, 1) := by decide +kernel
theorem dX10_both_0 : decode cX10_both 0 = .ok (.aload_n 0, 1) := by decide +kernel
theorem dX10_both_1 : decode cX10_both 1 = .ok (.aload_n 1, 1) := by decide +kernel
theorem dX10_both_2 : decode cX10_both 2 = .ok (.iload_n 2, 1) := by decide +kernel
theorem dX10_both_3 : decode cX10_both 3 = .ok (.invokevirtual 124, 3) := by decide +kernel
theorem dX10_both_6 : decode cX10_both 6 = .ok (.ifCond .ne 5, 3) := by decide +kernel
theorem dX10_both_9 : decode cX10_both 9 = .ok (.iconst 0, 1) := by decide +kernel
theorem dX10_both_10 : decode cX10_both 10 = .ok (.ireturn, 1) := by decide +kernel
theorem dX10_both_11 : decode cX10_both 11 = .ok (.iconst 0, 1) := by decide +kernel
theorem dX10_both_12 : decode cX10_both 12 = .ok (.istore_n 3, 1) := by decide +kernel
theorem dX10_both_13 : decode cX10_both 13 = .ok (.iload_n 3, 1) := by decide +kernel
theorem dX10_both_14 : decode cX10_both 14 = .ok (.bipush 120, 2) := by decide +kernel
theorem dX10_both_16 : decode cX10_both 16 = .ok (.if_icmp .ge 36, 3) := by decide +kernel
theorem dX10_both_19 : decode cX10_both 19 = .ok (.aload_n 1, 1) := by decide +kernel
theorem dX10_both_20 : decode cX10_both 20 = .ok (.ldc 127, 2) := by decide +kernel
theorem dX10_both_22 : decode cX10_both 22 = .ok (.invokevirtual 80, 3) := by decide +kernel
theorem dX10_both_25 : decode cX10_both 25 = .ok (.ifCond .ne 27, 3) := by decide +kernel
theorem dX10_both_28 : decode cX10_both 28 = .ok (.aload_n 0, 1) := by decide +kernel
theorem dX10_both_29 : decode cX10_both 29 = .ok (.aload_n 1, 1) := by decide +kernel
theorem dX10_both_30 : decode cX10_both 30 = .ok (.iload_n 2, 1) := by decide +kernel
theorem dX10_both_31 : decode cX10_both 31 = .ok (.invokevirtual 124, 3) := by decide +kernel
theorem dX10_both_34 : decode cX10_both 34 = .ok (.ifCond .ne 5, 3) := by decide +kernel
theorem dX10_both_37 : decode cX10_both 37 = .ok (.iconst 0, 1) := by decide +kernel
theorem dX10_both_38 : decode cX10_both 38 = .ok (.ireturn, 1) := by decide +kernel
theorem dX10_both_39 : decode cX10_both 39 = .ok (.aload_n 0, 1) := by decide +kernel
theorem dX10_both_40 : decode cX10_both 40 = .ok (.iconst 5, 1) := by decide +kernel
theorem dX10_both_41 : decode cX10_both 41 = .ok (.iconst 0, 1) := by decide +kernel
theorem dX10_both_42 : decode cX10_both 42 = .ok (.iconst 0, 1) := by decide +kernel
theorem dX10_both_43 : decode cX10_both 43 = .ok (.invokevirtual 120, 3) := by decide +kernel
theorem dX10_both_46 : decode cX10_both 46 = .ok (.iinc 3 1, 3) := by decide +kernel
theorem dX10_both_49 : decode cX10_both 49 = .ok (.goto (-36), 3) := by decide +kernel
theorem dX10_both_52 : decode cX10_both 52 = .ok (.iconst 1, 1) := by decide +kernel
theorem dX10_both_53 : decode cX10_both 53 = .ok (.ireturn, 1) := by decide +kernel
theorem dX10_single_0 : decode cX10_single 0 = .ok (.iload_n 2, 1) := by decide +kernel
theorem dX10_single_1 : decode cX10_single 1 = .ok (.iconst 5, 1) := by decide +kernel
theorem dX10_single_2 : decode cX10_single 2 = .ok (.if_icmp .ge 12, 3) := by decide +kernel
theorem dX10_single_5 : decode cX10_single 5 = .ok (.aload_n 1, 1) := by decide +kernel
theorem dX10_single_6 : decode cX10_single 6 = .ok (.ldc 129, 2) := by decide +kernel
theorem dX10_single_8 : decode cX10_single 8 = .ok (.invokevirtual 80, 3) := by decide +kernel
theorem dX10_single_11 : decode cX10_single 11 = .ok (.goto 4, 3) := by decide +kernel
theorem dX10_single_14 : decode cX10_single 14 = .ok (.iconst (-1), 1) := by decide +kernel
theorem dX10_single_15 : decode cX10_single 15 = .ok (.istore_n 3, 1) := by decide +kernel
theorem dX10_single_16 : decode cX10_single 16 = .ok (.iload_n 3, 1) := by decide +kernel
theorem dX10_single_17 : decode cX10_single 17 = .ok (.ifCond .ge 9, 3) := by decide +kernel
theorem dX10_single_20 : decode cX10_single 20 = .ok (.aload_n 0, 1) := by decide +kernel
theorem dX10_single_21 : decode cX10_single 21 = .ok (.aload_n 1, 1) := by decide +kernel
theorem dX10_single_22 : decode cX10_single 22 = .ok (.invokevirtual 131, 3) := by decide +kernel
theorem dX10_single_25 : decode cX10_single 25 = .ok (.ireturn, 1) := by decide +kernel
theorem dX10_single_26 : decode cX10_single 26 = .ok (.iload_n 3, 1) := by decide +kernel
theorem dX10_single_27 : decode cX10_single 27 = .ok (.iconst 1, 1) := by decide +kernel
theorem dX10_single_28 : decode cX10_single 28 = .ok (.if_icmp .ne 29, 3) := by decide +kernel
theorem dX10_single_31 : decode cX10_single 31 = .ok (.aload_n 0, 1) := by decide +kernel
theorem dX10_single_32 : decode cX10_single 32 = .ok (.aload_n 1, 1) := by decide +kernel
theorem dX10_single_33 : decode cX10_single 33 = .ok (.iload_n 2, 1) := by decide +kernel
theorem dX10_single_34 : decode cX10_single 34 = .ok (.iconst 1, 1) := by decide +kernel
theorem dX10_single_35 : decode cX10_single 35 = .ok (.iadd, 1) := by decide +kernel
theorem dX10_single_36 : decode cX10_single 36 = .ok (.invokevirtual 111, 3) := by decide +kernel
theorem dX10_single_39 : decode cX10_single 39 = .ok (.ifCond .eq 16, 3) := by decide +kernel
theorem dX10_single_42 : decode cX10_single 42 = .ok (.aload_n 1, 1) := by decide +kernel
theorem dX10_single_43 : decode cX10_single 43 = .ok (.ldc 134, 2) := by decide +kernel
theorem dX10_single_45 : decode cX10_single 45 = .ok (.invokevirtual 80, 3) := by decide +kernel
theorem dX10_single_48 : decode cX10_single 48 = .ok (.ifCond .ne 7, 3) := by decide +kernel
theorem dX10_single_51 : decode cX10_single 51 = .ok (.iconst 1, 1) := by decide +kernel
theorem dX10_single_52 : decode cX10_single 52 = .ok (.goto 4, 3) := by decide +kernel
theorem dX10_single_55 : decode cX10_single 55 = .ok (.iconst 0, 1) := by decide +kernel
theorem dX10_single_56 : decode cX10_single 56 = .ok (.ireturn, 1) := by decide +kernel
theorem dX10_single_57 : decode cX10_single 57 = .ok (.aload_n 0, 1) := by decide +kernel
theorem dX10_single_58 : decode cX10_single 58 = .ok (.aload_n 1, 1) := by decide +kernel
theorem dX10_single_59 : decode cX10_single 59 = .ok (.iload_n 2, 1) := by decide +kernel
theorem dX10_single_60 : decode cX10_single 60 = .ok (.iconst 1, 1) := by decide +kernel
theorem dX10_single_61 : decode cX10_single 61 = .ok (.iadd, 1) := by decide +kernel
theorem dX10_single_62 : decode cX10_single 62 = .ok (.invokevirtual 124, 3) := by decide +kernel
theorem dX10_single_65 : decode cX10_single 65 = .ok (.ifCond .ne 5, 3) := by decide +kernel
theorem dX10_single_68 : decode cX10_single 68 = .ok (.iconst 0, 1) := by decide +kernel
theorem dX10_single_69 : decode cX10_single 69 = .ok (.ireturn, 1) := by decide +kernel
theorem dX10_single_70 : decode cX10_single 70 = .ok (.aload_n 0, 1) := by decide +kernel
theorem dX10_single_71 : decode cX10_single 71 = .ok (.iconst 4, 1) := by decide +kernel
theorem dX10_single_72 : decode cX10_single 72 = .ok (.iconst 0, 1) := by decide +kernel
theorem dX10_single_73 : decode cX10_single 73 = .ok (.iconst 0, 1) := by decide +kernel
theorem dX10_single_74 : decode cX10_single 74 = .ok (.invokevirtual 120, 3) := by decide +kernel
theorem dX10_single_77 : decode cX10_single 77 = .ok (.iconst 1, 1) := by decide +kernel
theorem dX10_single_78 : decode cX10_single 78 = .ok (.ireturn, 1) := by decide +kernel
theorem dX10_test_0 : decode cX10_test 0 = .ok (.aload_n 1, 1) := by decide +kernel
theorem dX10_test_1 : decode cX10_test 1 = .ok (.ldc 136, 2) := by decide +kernel
theorem dX10_test_3 : decode cX10_test 3 = .ok (.invokevirtual 80, 3) := by decide +kernel
theorem dX10_test_6 : decode cX10_test 6 = .ok (.istore_n 2, 1) := by decide +kernel
theorem dX10_test_7 : decode cX10_test 7 = .ok (.iload_n 2, 1) := by decide +kernel
theorem dX10_test_8 : decode cX10_test 8 = .ok (.ifCond .ge 5, 3) := by decide +kernel
theorem dX10_test_11 : decode cX10_test 11 = .ok (.iconst 0, 1) := by decide +kernel
theorem dX10_test_12 : decode cX10_test 12 = .ok (.ireturn, 1) := by decide +kernel
theorem dX10_test_13 : decode cX10_test 13 = .ok (.aload_n 1, 1) := by decide +kernel
theorem dX10_test_14 : decode cX10_test 14 = .ok (.ldc 138, 2) := by decide +kernel
theorem dX10_test_16 : decode cX10_test 16 = .ok (.invokevirtual 80, 3) := by decide +kernel
theorem dX10_test_19 : decode cX10_test 19 = .ok (.istore_n 3, 1) := by decide +kernel
theorem dX10_test_20 : decode cX10_test 20 = .ok (.iload_n 3, 1) := by decide +kernel
theorem dX10_test_21 : decode cX10_test 21 = .ok (.ifCond .ge 5, 3) := by decide +kernel
theorem dX10_test_24 : decode cX10_test 24 = .ok (.iconst 0, 1) := by decide +kernel
theorem dX10_test_25 : decode cX10_test 25 = .ok (.ireturn, 1) := by decide +kernel
theorem dX10_test_26 : decode cX10_test 26 = .ok (.aload_n 1, 1) := by decide +kernel
theorem dX10_test_27 : decode cX10_test 27 = .ok (.invokevirtual 103, 3) := by decide +kernel
theorem dX10_test_30 : decode cX10_test 30 = .ok (.istore 4, 2) := by decide +kernel
theorem dX10_test_32 : decode cX10_test 32 = .ok (.iload 4, 2) := by decide +kernel
theorem dX10_test_34 : decode cX10_test 34 = .ok (.ifCond .ge 5, 3) := by decide +kernel
theorem dX10_test_37 : decode cX10_test 37 = .ok (.iconst 0, 1) := by decide +kernel
theorem dX10_test_38 : decode cX10_test 38 = .ok (.ireturn, 1) := by decide +kernel
theorem dX10_test_39 : decode cX10_test 39 = .ok (.aload_n 0, 1) := by decide +kernel
theorem dX10_test_40 : decode cX10_test 40 = .ok (.iload_n 2, 1) := by decide +kernel
theorem dX10_test_41 : decode cX10_test 41 = .ok (.iload_n 3, 1) := by decide +kernel
theorem dX10_test_42 : decode cX10_test 42 = .ok (.iload 4, 2) := by decide +kernel
theorem dX10_test_44 : decode cX10_test 44 = .ok (.invokevirtual 120, 3) := by decide +kernel
theorem dX10_test_47 : decode cX10_test 47 = .ok (.iconst 1, 1) := by decide +kernel
theorem dX10_test_48 : decode cX10_test 48 = .ok (.ireturn, 1) := by decide +kernel
theorem dX10_step_0 : decode cX10_step 0 = .ok (.aload_n 0, 1) := by decide +kernel
theorem dX10_step_1 : decode cX10_step 1 = .ok (.getfield 24, 3) := by decide +kernel
theorem dX10_step_4 : decode cX10_step 4 = .ok (.bipush 120, 2) := by decide +kernel
theorem dX10_step_6 : decode cX10_step 6 = .ok (.if_icmp .lt 4, 3) := by decide +kernel
theorem dX10_step_9 : decode cX10_step 9 = .ok (.return_, 1) := by decide +kernel
theorem dX10_step_10 : decode cX10_step 10 = .ok (.aload_n 0, 1) := by decide +kernel
theorem dX10_step_11 : decode cX10_step 11 = .ok (.getfield 34, 3) := by decide +kernel
theorem dX10_step_14 : decode cX10_step 14 = .ok (.aload_n 0, 1) := by decide +kernel
theorem dX10_step_15 : decode cX10_step 15 = .ok (.getfield 24, 3) := by decide +kernel
theorem dX10_step_18 : decode cX10_step 18 = .ok (.iload_n 1, 1) := by decide +kernel
theorem dX10_step_19 : decode cX10_step 19 = .ok (.iastore, 1) := by decide +kernel
theorem dX10_step_20 : decode cX10_step 20 = .ok (.aload_n 0, 1) := by decide +kernel
theorem dX10_step_21 : decode cX10_step 21 = .ok (.getfield 37, 3) := by decide +kernel
theorem dX10_step_24 : decode cX10_step 24 = .ok (.aload_n 0, 1) := by decide +kernel
theorem dX10_step_25 : decode cX10_step 25 = .ok (.getfield 24, 3) := by decide +kernel
theorem dX10_step_28 : decode cX10_step 28 = .ok (.iload_n 2, 1) := by decide +kernel
theorem dX10_step_29 : decode cX10_step 29 = .ok (.iastore, 1) := by decide +kernel
theorem dX10_step_30 : decode cX10_step 30 = .ok (.aload_n 0, 1) := by decide +kernel
theorem dX10_step_31 : decode cX10_step 31 = .ok (.getfield 40, 3) := by decide +kernel
theorem dX10_step_34 : decode cX10_step 34 = .ok (.aload_n 0, 1) := by decide +kernel
theorem dX10_step_35 : decode cX10_step 35 = .ok (.getfield 24, 3) := by decide +kernel
theorem dX10_step_38 : decode cX10_step 38 = .ok (.iload_n 3, 1) := by decide +kernel
theorem dX10_step_39 : decode cX10_step 39 = .ok (.iastore, 1) := by decide +kernel
theorem dX10_step_40 : decode cX10_step 40 = .ok (.aload_n 0, 1) := by decide +kernel
theorem dX10_step_41 : decode cX10_step 41 = .ok (.dup, 1) := by decide +kernel
theorem dX10_step_42 : decode cX10_step 42 = .ok (.getfield 24, 3) := by decide +kernel
theorem dX10_step_45 : decode cX10_step 45 = .ok (.iconst 1, 1) := by decide +kernel
theorem dX10_step_46 : decode cX10_step 46 = .ok (.iadd, 1) := by decide +kernel
theorem dX10_step_47 : decode cX10_step 47 = .ok (.putfield 24, 3) := by decide +kernel
theorem dX10_step_50 : decode cX10_step 50 = .ok (.return_, 1) := by decide +kernel
theorem dX11_init_0 : decode cX11_init 0 = .ok (.aload_n 0, 1) := by decide +kernel
theorem dX11_init_1 : decode cX11_init 1 = .ok (.invokespecial 3, 3) := by decide +kernel
theorem dX11_init_4 : decode cX11_init 4 = .ok (.aload_n 0, 1) := by decide +kernel
theorem dX11_init_5 : decode cX11_init 5 = .ok (.new 9, 3) := by decide +kernel
theorem dX11_init_8 : decode cX11_init 8 = .ok (.dup, 1) := by decide +kernel
theorem dX11_init_9 : decode cX11_init 9 = .ok (.invokespecial 11, 3) := by decide +kernel
theorem dX11_init_12 : decode cX11_init 12 = .ok (.putfield 12, 3) := by decide +kernel
theorem dX11_init_15 : decode cX11_init 15 = .ok (.aload_n 0, 1) := by decide +kernel
theorem dX11_init_16 : decode cX11_init 16 = .ok (.new 9, 3) := by decide +kernel
theorem dX11_init_19 : decode cX11_init 19 = .ok (.dup, 1) := by decide +kernel
theorem dX11_init_20 : decode cX11_init 20 = .ok (.invokespecial 11, 3) := by decide +kernel
theorem dX11_init_23 : decode cX11_init 23 = .ok (.putfield 18, 3) := by decide +kernel
theorem dX11_init_26 : decode cX11_init 26 = .ok (.aload_n 0, 1) := by decide +kernel
theorem dX11_init_27 : decode cX11_init 27 = .ok (.iconst 0, 1) := by decide +kernel
theorem dX11_init_28 : decode cX11_init 28 = .ok (.putfield 21, 3) := by decide +kernel
theorem dX11_init_31 : decode cX11_init 31 = .ok (.aload_n 0, 1) := by decide +kernel
theorem dX11_init_32 : decode cX11_init 32 = .ok (.new 25, 3) := by decide +kernel
theorem dX11_init_35 : decode cX11_init 35 = .ok (.dup, 1) := by decide +kernel
theorem dX11_init_36 : decode cX11_init 36 = .ok (.invokespecial 27, 3) := by decide +kernel
theorem dX11_init_39 : decode cX11_init 39 = .ok (.putfield 28, 3) := by decide +kernel
theorem dX11_init_42 : decode cX11_init 42 = .ok (.aload_n 0, 1) := by decide +kernel
theorem dX11_init_43 : decode cX11_init 43 = .ok (.new 32, 3) := by decide +kernel
theorem dX11_init_46 : decode cX11_init 46 = .ok (.dup, 1) := by decide +kernel
theorem dX11_init_47 : decode cX11_init 47 = .ok (.invokespecial 34, 3) := by decide +kernel
theorem dX11_init_50 : decode cX11_init 50 = .ok (.putfield 35, 3) := by decide +kernel
theorem dX11_init_53 : decode cX11_init 53 = .ok (.aload_n 0, 1) := by decide +kernel
theorem dX11_init_54 : decode cX11_init 54 = .ok (.bipush 21, 2) := by decide +kernel
theorem dX11_init_56 : decode cX11_init 56 = .ok (.newarray .int, 2) := by decide +kernel
theorem dX11_init_58 : decode cX11_init 58 = .ok (.putfield 39, 3) := by decide +kernel
theorem dX11_init_61 : decode cX11_init 61 = .ok (.aload_n 0, 1) := by decide +kernel
theorem dX11_init_62 : decode cX11_init 62 = .ok (.bipush 7, 2) := by decide +kernel
theorem dX11_init_64 : decode cX11_init 64 = .ok (.newarray .int, 2) := by decide +kernel
theorem dX11_init_66 : decode cX11_init 66 = .ok (.putfield 43, 3) := by decide +kernel
theorem dX11_init_69 : decode cX11_init 69 = .ok (.return_, 1) := by decide +kernel
theorem dX11_king_0 : decode cX11_king 0 = .ok (.iload_n 1, 1) := by decide +kernel
theorem dX11_king_1 : decode cX11_king 1 = .ok (.bipush 99, 2) := by decide +kernel
theorem dX11_king_3 : decode cX11_king 3 = .ok (.invokestatic 46, 3) := by decide +kernel
theorem dX11_king_6 : decode cX11_king 6 = .ok (.ifCond .ne 12, 3) := by decide +kernel
theorem dX11_king_9 : decode cX11_king 9 = .ok (.iload_n 2, 1) := by decide +kernel
theorem dX11_king_10 : decode cX11_king 10 = .ok (.bipush 40, 2) := by decide +kernel
theorem dX11_king_12 : decode cX11_king 12 = .ok (.invokestatic 46, 3) := by decide +kernel
theorem dX11_king_15 : decode cX11_king 15 = .ok (.ifCond .eq 6, 3) := by decide +kernel
theorem dX11_king_18 : decode cX11_king 18 = .ok (.bipush (-2), 2) := by decide +kernel
theorem dX11_king_20 : decode cX11_king 20 = .ok (.ireturn, 1) := by decide +kernel
theorem dX11_king_21 : decode cX11_king 21 = .ok (.aload_n 0, 1) := by decide +kernel
theorem dX11_king_22 : decode cX11_king 22 = .ok (.getfield 12, 3) := by decide +kernel
theorem dX11_king_25 : decode cX11_king 25 = .ok (.getfield 50, 3) := by decide +kernel
theorem dX11_king_28 : decode cX11_king 28 = .ok (.bipush 7, 2) := by decide +kernel
theorem dX11_king_30 : decode cX11_king 30 = .ok (.if_icmp .lt 6, 3) := by decide +kernel
theorem dX11_king_33 : decode cX11_king 33 = .ok (.bipush (-4), 2) := by decide +kernel
theorem dX11_king_35 : decode cX11_king 35 = .ok (.ireturn, 1) := by decide +kernel
theorem dX11_king_36 : decode cX11_king 36 = .ok (.aload_n 0, 1) := by decide +kernel
theorem dX11_king_37 : decode cX11_king 37 = .ok (.getfield 12, 3) := by decide +kernel
theorem dX11_king_40 : decode cX11_king 40 = .ok (.iload_n 1, 1) := by decide +kernel
theorem dX11_king_41 : decode cX11_king 41 = .ok (.iload_n 2, 1) := by decide +kernel
theorem dX11_king_42 : decode cX11_king 42 = .ok (.invokevirtual 54, 3) := by decide +kernel
theorem dX11_king_45 : decode cX11_king 45 = .ok (.ireturn, 1) := by decide +kernel
theorem dX11_of_0 : decode cX11_of 0 = .ok (.aload_n 0, 1) := by decide +kernel
theorem dX11_of_1 : decode cX11_of 1 = .ok (.getfield 12, 3) := by decide +kernel
theorem dX11_of_4 : decode cX11_of 4 = .ok (.iload_n 1, 1) := by decide +kernel
theorem dX11_of_5 : decode cX11_of 5 = .ok (.invokevirtual 58, 3) := by decide +kernel
theorem dX11_of_8 : decode cX11_of 8 = .ok (.ifCond .ne 5, 3) := by decide +kernel
theorem dX11_of_11 : decode cX11_of 11 = .ok (.iconst (-1), 1) := by decide +kernel
theorem dX11_of_12 : decode cX11_of 12 = .ok (.ireturn, 1) := by decide +kernel
theorem dX11_of_13 : decode cX11_of 13 = .ok (.iload_n 2, 1) := by decide +kernel
theorem dX11_of_14 : decode cX11_of 14 = .ok (.tableswitch 77 0 3 #[30, 40, 50, 67], 30) := by decide +kernel
theorem dX11_of_44 : decode cX11_of 44 = .ok (.aload_n 0, 1) := by decide +kernel
theorem dX11_of_45 : decode cX11_of 45 = .ok (.getfield 12, 3) := by decide +kernel
theorem dX11_of_48 : decode cX11_of 48 = .ok (.getfield 62, 3) := by decide +kernel
theorem dX11_of_51 : decode cX11_of 51 = .ok (.iload_n 1, 1) := by decide +kernel
theorem dX11_of_52 : decode cX11_of 52 = .ok (.iaload, 1) := by decide +kernel
theorem dX11_of_53 : decode cX11_of 53 = .ok (.ireturn, 1) := by decide +kernel
theorem dX11_of_54 : decode cX11_of 54 = .ok (.aload_n 0, 1) := by decide +kernel
theorem dX11_of_55 : decode cX11_of 55 = .ok (.getfield 12, 3) := by decide +kernel
theorem dX11_of_58 : decode cX11_of 58 = .ok (.getfield 65, 3) := by decide +kernel
theorem dX11_of_61 : decode cX11_of 61 = .ok (.iload_n 1, 1) := by decide +kernel
theorem dX11_of_62 : decode cX11_of 62 = .ok (.iaload, 1) := by decide +kernel
theorem dX11_of_63 : decode cX11_of 63 = .ok (.ireturn, 1) := by decide +kernel
theorem dX11_of_64 : decode cX11_of 64 = .ok (.aload_n 0, 1) := by decide +kernel
theorem dX11_of_65 : decode cX11_of 65 = .ok (.getfield 12, 3) := by decide +kernel
theorem dX11_of_68 : decode cX11_of 68 = .ok (.iload_n 1, 1) := by decide +kernel
theorem dX11_of_69 : decode cX11_of 69 = .ok (.invokevirtual 68, 3) := by decide +kernel
theorem dX11_of_72 : decode cX11_of 72 = .ok (.ifCond .eq 7, 3) := by decide +kernel
theorem dX11_of_75 : decode cX11_of 75 = .ok (.iconst 0, 1) := by decide +kernel
theorem dX11_of_76 : decode cX11_of 76 = .ok (.goto 4, 3) := by decide +kernel
theorem dX11_of_79 : decode cX11_of 79 = .ok (.iconst 1, 1) := by decide +kernel
theorem dX11_of_80 : decode cX11_of 80 = .ok (.ireturn, 1) := by decide +kernel
theorem dX11_of_81 : decode cX11_of 81 = .ok (.aload_n 0, 1) := by decide +kernel
theorem dX11_of_82 : decode cX11_of 82 = .ok (.getfield 12, 3) := by decide +kernel
theorem dX11_of_85 : decode cX11_of 85 = .ok (.getfield 71, 3) := by decide +kernel
theorem dX11_of_88 : decode cX11_of 88 = .ok (.iload_n 1, 1) := by decide +kernel
theorem dX11_of_89 : decode cX11_of 89 = .ok (.iaload, 1) := by decide +kernel
theorem dX11_of_90 : decode cX11_of 90 = .ok (.ireturn, 1) := by decide +kernel
theorem dX11_of_91 : decode cX11_of 91 = .ok (.iconst (-1), 1) := by decide +kernel
theorem dX11_of_92 : decode cX11_of 92 = .ok (.ireturn, 1) := by decide +kernel
theorem dX11_arm_0 : decode cX11_arm 0 = .ok (.aload_n 0, 1) := by decide +kernel
theorem dX11_arm_1 : decode cX11_arm 1 = .ok (.getfield 12, 3) := by decide +kernel
theorem dX11_arm_4 : decode cX11_arm 4 = .ok (.iload_n 1, 1) := by decide +kernel
theorem dX11_arm_5 : decode cX11_arm 5 = .ok (.invokevirtual 58, 3) := by decide +kernel
theorem dX11_arm_8 : decode cX11_arm 8 = .ok (.ifCond .ne 5, 3) := by decide +kernel
theorem dX11_arm_11 : decode cX11_arm 11 = .ok (.iconst (-1), 1) := by decide +kernel
theorem dX11_arm_12 : decode cX11_arm 12 = .ok (.ireturn, 1) := by decide +kernel
theorem dX11_arm_13 : decode cX11_arm 13 = .ok (.iload_n 2, 1) := by decide +kernel
theorem dX11_arm_14 : decode cX11_arm 14 = .ok (.bipush 99, 2) := by decide +kernel
theorem dX11_arm_16 : decode cX11_arm 16 = .ok (.invokestatic 46, 3) := by decide +kernel
theorem dX11_arm_19 : decode cX11_arm 19 = .ok (.ifCond .eq 6, 3) := by decide +kernel
theorem dX11_arm_22 : decode cX11_arm 22 = .ok (.bipush (-2), 2) := by decide +kernel
theorem dX11_arm_24 : decode cX11_arm 24 = .ok (.ireturn, 1) := by decide +kernel
theorem dX11_arm_25 : decode cX11_arm 25 = .ok (.aload_n 0, 1) := by decide +kernel
theorem dX11_arm_26 : decode cX11_arm 26 = .ok (.getfield 12, 3) := by decide +kernel
theorem dX11_arm_29 : decode cX11_arm 29 = .ok (.iload_n 1, 1) := by decide +kernel
theorem dX11_arm_30 : decode cX11_arm 30 = .ok (.invokevirtual 68, 3) := by decide +kernel
theorem dX11_arm_33 : decode cX11_arm 33 = .ok (.ifCond .ne 6, 3) := by decide +kernel
theorem dX11_arm_36 : decode cX11_arm 36 = .ok (.bipush (-3), 2) := by decide +kernel
theorem dX11_arm_38 : decode cX11_arm 38 = .ok (.ireturn, 1) := by decide +kernel
theorem dX11_arm_39 : decode cX11_arm 39 = .ok (.aload_n 0, 1) := by decide +kernel
theorem dX11_arm_40 : decode cX11_arm 40 = .ok (.getfield 12, 3) := by decide +kernel
theorem dX11_arm_43 : decode cX11_arm 43 = .ok (.getfield 62, 3) := by decide +kernel
theorem dX11_arm_46 : decode cX11_arm 46 = .ok (.iload_n 1, 1) := by decide +kernel
theorem dX11_arm_47 : decode cX11_arm 47 = .ok (.iaload, 1) := by decide +kernel
theorem dX11_arm_48 : decode cX11_arm 48 = .ok (.istore_n 3, 1) := by decide +kernel
theorem dX11_arm_49 : decode cX11_arm 49 = .ok (.aload_n 0, 1) := by decide +kernel
theorem dX11_arm_50 : decode cX11_arm 50 = .ok (.getfield 12, 3) := by decide +kernel
theorem dX11_arm_53 : decode cX11_arm 53 = .ok (.getfield 62, 3) := by decide +kernel
theorem dX11_arm_56 : decode cX11_arm 56 = .ok (.iload_n 1, 1) := by decide +kernel
theorem dX11_arm_57 : decode cX11_arm 57 = .ok (.iload_n 2, 1) := by decide +kernel
theorem dX11_arm_58 : decode cX11_arm 58 = .ok (.iastore, 1) := by decide +kernel
theorem dX11_arm_59 : decode cX11_arm 59 = .ok (.iload_n 3, 1) := by decide +kernel
theorem dX11_arm_60 : decode cX11_arm 60 = .ok (.ireturn, 1) := by decide +kernel
theorem dX11_worth_0 : decode cX11_worth 0 = .ok (.aload_n 0, 1) := by decide +kernel
theorem dX11_worth_1 : decode cX11_worth 1 = .ok (.getfield 12, 3) := by decide +kernel
theorem dX11_worth_4 : decode cX11_worth 4 = .ok (.iload_n 1, 1) := by decide +kernel
theorem dX11_worth_5 : decode cX11_worth 5 = .ok (.invokevirtual 58, 3) := by decide +kernel
theorem dX11_worth_8 : decode cX11_worth 8 = .ok (.ifCond .eq 14, 3) := by decide +kernel
theorem dX11_worth_11 : decode cX11_worth 11 = .ok (.aload_n 0, 1) := by decide +kernel
theorem dX11_worth_12 : decode cX11_worth 12 = .ok (.getfield 12, 3) := by decide +kernel
theorem dX11_worth_15 : decode cX11_worth 15 = .ok (.iload_n 2, 1) := by decide +kernel
theorem dX11_worth_16 : decode cX11_worth 16 = .ok (.invokevirtual 58, 3) := by decide +kernel
theorem dX11_worth_19 : decode cX11_worth 19 = .ok (.ifCond .ne 5, 3) := by decide +kernel
theorem dX11_worth_22 : decode cX11_worth 22 = .ok (.iconst (-1), 1) := by decide +kernel
theorem dX11_worth_23 : decode cX11_worth 23 = .ok (.ireturn, 1) := by decide +kernel
theorem dX11_worth_24 : decode cX11_worth 24 = .ok (.iload_n 1, 1) := by decide +kernel
theorem dX11_worth_25 : decode cX11_worth 25 = .ok (.iload_n 2, 1) := by decide +kernel
theorem dX11_worth_26 : decode cX11_worth 26 = .ok (.if_icmp .eq 12, 3) := by decide +kernel
theorem dX11_worth_29 : decode cX11_worth 29 = .ok (.iload_n 3, 1) := by decide +kernel
theorem dX11_worth_30 : decode cX11_worth 30 = .ok (.bipush 99, 2) := by decide +kernel
theorem dX11_worth_32 : decode cX11_worth 32 = .ok (.invokestatic 46, 3) := by decide +kernel
theorem dX11_worth_35 : decode cX11_worth 35 = .ok (.ifCond .eq 6, 3) := by decide +kernel
theorem dX11_worth_38 : decode cX11_worth 38 = .ok (.bipush (-2), 2) := by decide +kernel
theorem dX11_worth_40 : decode cX11_worth 40 = .ok (.ireturn, 1) := by decide +kernel
theorem dX11_worth_41 : decode cX11_worth 41 = .ok (.aload_n 0, 1) := by decide +kernel
theorem dX11_worth_42 : decode cX11_worth 42 = .ok (.getfield 12, 3) := by decide +kernel
theorem dX11_worth_45 : decode cX11_worth 45 = .ok (.getfield 74, 3) := by decide +kernel
theorem dX11_worth_48 : decode cX11_worth 48 = .ok (.iload_n 1, 1) := by decide +kernel
theorem dX11_worth_49 : decode cX11_worth 49 = .ok (.aaload, 1) := by decide +kernel
theorem dX11_worth_50 : decode cX11_worth 50 = .ok (.iload_n 2, 1) := by decide +kernel
theorem dX11_worth_51 : decode cX11_worth 51 = .ok (.iaload, 1) := by decide +kernel
theorem dX11_worth_52 : decode cX11_worth 52 = .ok (.istore 4, 2) := by decide +kernel
theorem dX11_worth_54 : decode cX11_worth 54 = .ok (.aload_n 0, 1) := by decide +kernel
theorem dX11_worth_55 : decode cX11_worth 55 = .ok (.getfield 12, 3) := by decide +kernel
theorem dX11_worth_58 : decode cX11_worth 58 = .ok (.getfield 74, 3) := by decide +kernel
theorem dX11_worth_61 : decode cX11_worth 61 = .ok (.iload_n 1, 1) := by decide +kernel
theorem dX11_worth_62 : decode cX11_worth 62 = .ok (.aaload, 1) := by decide +kernel
theorem dX11_worth_63 : decode cX11_worth 63 = .ok (.iload_n 2, 1) := by decide +kernel
theorem dX11_worth_64 : decode cX11_worth 64 = .ok (.iload_n 3, 1) := by decide +kernel
theorem dX11_worth_65 : decode cX11_worth 65 = .ok (.iastore, 1) := by decide +kernel
theorem dX11_worth_66 : decode cX11_worth 66 = .ok (.iload 4, 2) := by decide +kernel
theorem dX11_worth_68 : decode cX11_worth 68 = .ok (.ireturn, 1) := by decide +kernel
theorem dX11_pact_0 : decode cX11_pact 0 = .ok (.aload_n 0, 1) := by decide +kernel
theorem dX11_pact_1 : decode cX11_pact 1 = .ok (.getfield 12, 3) := by decide +kernel
theorem dX11_pact_4 : decode cX11_pact 4 = .ok (.iload_n 1, 1) := by decide +kernel
theorem dX11_pact_5 : decode cX11_pact 5 = .ok (.invokevirtual 58, 3) := by decide +kernel
theorem dX11_pact_8 : decode cX11_pact 8 = .ok (.ifCond .eq 14, 3) := by decide +kernel
theorem dX11_pact_11 : decode cX11_pact 11 = .ok (.aload_n 0, 1) := by decide +kernel
theorem dX11_pact_12 : decode cX11_pact 12 = .ok (.getfield 12, 3) := by decide +kernel
theorem dX11_pact_15 : decode cX11_pact 15 = .ok (.iload_n 2, 1) := by decide +kernel
theorem dX11_pact_16 : decode cX11_pact 16 = .ok (.invokevirtual 58, 3) := by decide +kernel
theorem dX11_pact_19 : decode cX11_pact 19 = .ok (.ifCond .ne 5, 3) := by decide +kernel
theorem dX11_pact_22 : decode cX11_pact 22 = .ok (.iconst (-1), 1) := by decide +kernel
theorem dX11_pact_23 : decode cX11_pact 23 = .ok (.ireturn, 1) := by decide +kernel
theorem dX11_pact_24 : decode cX11_pact 24 = .ok (.iload_n 1, 1) := by decide +kernel
theorem dX11_pact_25 : decode cX11_pact 25 = .ok (.iload_n 2, 1) := by decide +kernel
theorem dX11_pact_26 : decode cX11_pact 26 = .ok (.if_icmp .eq 11, 3) := by decide +kernel
theorem dX11_pact_29 : decode cX11_pact 29 = .ok (.iload_n 3, 1) := by decide +kernel
theorem dX11_pact_30 : decode cX11_pact 30 = .ok (.iconst 3, 1) := by decide +kernel
theorem dX11_pact_31 : decode cX11_pact 31 = .ok (.invokestatic 46, 3) := by decide +kernel
theorem dX11_pact_34 : decode cX11_pact 34 = .ok (.ifCond .eq 6, 3) := by decide +kernel
theorem dX11_pact_37 : decode cX11_pact 37 = .ok (.bipush (-2), 2) := by decide +kernel
theorem dX11_pact_39 : decode cX11_pact 39 = .ok (.ireturn, 1) := by decide +kernel
theorem dX11_pact_40 : decode cX11_pact 40 = .ok (.aload_n 0, 1) := by decide +kernel
theorem dX11_pact_41 : decode cX11_pact 41 = .ok (.getfield 12, 3) := by decide +kernel
theorem dX11_pact_44 : decode cX11_pact 44 = .ok (.getfield 78, 3) := by decide +kernel
theorem dX11_pact_47 : decode cX11_pact 47 = .ok (.iload_n 1, 1) := by decide +kernel
theorem dX11_pact_48 : decode cX11_pact 48 = .ok (.aaload, 1) := by decide +kernel
theorem dX11_pact_49 : decode cX11_pact 49 = .ok (.iload_n 2, 1) := by decide +kernel
theorem dX11_pact_50 : decode cX11_pact 50 = .ok (.iaload, 1) := by decide +kernel
theorem dX11_pact_51 : decode cX11_pact 51 = .ok (.istore 4, 2) := by decide +kernel
theorem dX11_pact_53 : decode cX11_pact 53 = .ok (.aload_n 0, 1) := by decide +kernel
theorem dX11_pact_54 : decode cX11_pact 54 = .ok (.getfield 12, 3) := by decide +kernel
theorem dX11_pact_57 : decode cX11_pact 57 = .ok (.getfield 78, 3) := by decide +kernel
theorem dX11_pact_60 : decode cX11_pact 60 = .ok (.iload_n 1, 1) := by decide +kernel
theorem dX11_pact_61 : decode cX11_pact 61 = .ok (.aaload, 1) := by decide +kernel
theorem dX11_pact_62 : decode cX11_pact 62 = .ok (.iload_n 2, 1) := by decide +kernel
theorem dX11_pact_63 : decode cX11_pact 63 = .ok (.iload_n 3, 1) := by decide +kernel
theorem dX11_pact_64 : decode cX11_pact 64 = .ok (.iastore, 1) := by decide +kernel
theorem dX11_pact_65 : decode cX11_pact 65 = .ok (.iload 4, 2) := by decide +kernel
theorem dX11_pact_67 : decode cX11_pact 67 = .ok (.ireturn, 1) := by decide +kernel
theorem dX11_feed_0 : decode cX11_feed 0 = .ok (.iload_n 3, 1) := by decide +kernel
theorem dX11_feed_1 : decode cX11_feed 1 = .ok (.iconst 1, 1) := by decide +kernel
theorem dX11_feed_2 : decode cX11_feed 2 = .ok (.if_icmp .lt 9, 3) := by decide +kernel
theorem dX11_feed_5 : decode cX11_feed 5 = .ok (.iload_n 3, 1) := by decide +kernel
theorem dX11_feed_6 : decode cX11_feed 6 = .ok (.bipush 8, 2) := by decide +kernel
theorem dX11_feed_8 : decode cX11_feed 8 = .ok (.if_icmp .le 6, 3) := by decide +kernel
theorem dX11_feed_11 : decode cX11_feed 11 = .ok (.bipush (-2), 2) := by decide +kernel
theorem dX11_feed_13 : decode cX11_feed 13 = .ok (.ireturn, 1) := by decide +kernel
theorem dX11_feed_14 : decode cX11_feed 14 = .ok (.aload_n 0, 1) := by decide +kernel
theorem dX11_feed_15 : decode cX11_feed 15 = .ok (.getfield 12, 3) := by decide +kernel
theorem dX11_feed_18 : decode cX11_feed 18 = .ok (.getfield 81, 3) := by decide +kernel
theorem dX11_feed_21 : decode cX11_feed 21 = .ok (.getfield 85, 3) := by decide +kernel
theorem dX11_feed_24 : decode cX11_feed 24 = .ok (.iload_n 3, 1) := by decide +kernel
theorem dX11_feed_25 : decode cX11_feed 25 = .ok (.iadd, 1) := by decide +kernel
theorem dX11_feed_26 : decode cX11_feed 26 = .ok (.bipush 120, 2) := by decide +kernel
theorem dX11_feed_28 : decode cX11_feed 28 = .ok (.if_icmp .le 6, 3) := by decide +kernel
theorem dX11_feed_31 : decode cX11_feed 31 = .ok (.bipush (-4), 2) := by decide +kernel
theorem dX11_feed_33 : decode cX11_feed 33 = .ok (.ireturn, 1) := by decide +kernel
theorem dX11_feed_34 : decode cX11_feed 34 = .ok (.iload_n 3, 1) := by decide +kernel
theorem dX11_feed_35 : decode cX11_feed 35 = .ok (.iconst 1, 1) := by decide +kernel
theorem dX11_feed_36 : decode cX11_feed 36 = .ok (.isub, 1) := by decide +kernel
theorem dX11_feed_37 : decode cX11_feed 37 = .ok (.istore 4, 2) := by decide +kernel
theorem dX11_feed_39 : decode cX11_feed 39 = .ok (.iload 4, 2) := by decide +kernel
theorem dX11_feed_41 : decode cX11_feed 41 = .ok (.ifCond .lt 31, 3) := by decide +kernel
theorem dX11_feed_44 : decode cX11_feed 44 = .ok (.aload_n 0, 1) := by decide +kernel
theorem dX11_feed_45 : decode cX11_feed 45 = .ok (.getfield 12, 3) := by decide +kernel
theorem dX11_feed_48 : decode cX11_feed 48 = .ok (.getfield 81, 3) := by decide +kernel
theorem dX11_feed_51 : decode cX11_feed 51 = .ok (.lload_n 1, 1) := by decide +kernel
theorem dX11_feed_52 : decode cX11_feed 52 = .ok (.bipush 8, 2) := by decide +kernel
theorem dX11_feed_54 : decode cX11_feed 54 = .ok (.iload 4, 2) := by decide +kernel
theorem dX11_feed_56 : decode cX11_feed 56 = .ok (.imul, 1) := by decide +kernel
theorem dX11_feed_57 : decode cX11_feed 57 = .ok (.lushr, 1) := by decide +kernel
theorem dX11_feed_58 : decode cX11_feed 58 = .ok (.l2i, 1) := by decide +kernel
theorem dX11_feed_59 : decode cX11_feed 59 = .ok (.sipush 255, 3) := by decide +kernel
theorem dX11_feed_62 : decode cX11_feed 62 = .ok (.iand, 1) := by decide +kernel
theorem dX11_feed_63 : decode cX11_feed 63 = .ok (.invokevirtual 90, 3) := by decide +kernel
theorem dX11_feed_66 : decode cX11_feed 66 = .ok (.iinc 4 (-1), 3) := by decide +kernel
theorem dX11_feed_69 : decode cX11_feed 69 = .ok (.goto (-30), 3) := by decide +kernel
theorem dX11_feed_72 : decode cX11_feed 72 = .ok (.aload_n 0, 1) := by decide +kernel
theorem dX11_feed_73 : decode cX11_feed 73 = .ok (.getfield 12, 3) := by decide +kernel
theorem dX11_feed_76 : decode cX11_feed 76 = .ok (.getfield 81, 3) := by decide +kernel
theorem dX11_feed_79 : decode cX11_feed 79 = .ok (.getfield 85, 3) := by decide +kernel
theorem dX11_feed_82 : decode cX11_feed 82 = .ok (.ireturn, 1) := by decide +kernel
theorem dX11_world_0 : decode cX11_world 0 = .ok (.aload_n 0, 1) := by decide +kernel
theorem dX11_world_1 : decode cX11_world 1 = .ok (.getfield 28, 3) := by decide +kernel
theorem dX11_world_4 : decode cX11_world 4 = .ok (.aload_n 0, 1) := by decide +kernel
theorem dX11_world_5 : decode cX11_world 5 = .ok (.getfield 12, 3) := by decide +kernel
theorem dX11_world_8 : decode cX11_world 8 = .ok (.getfield 81, 3) := by decide +kernel
theorem dX11_world_11 : decode cX11_world 11 = .ok (.invokevirtual 94, 3) := by decide +kernel
theorem dX11_world_14 : decode cX11_world 14 = .ok (.istore_n 1, 1) := by decide +kernel
theorem dX11_world_15 : decode cX11_world 15 = .ok (.aload_n 0, 1) := by decide +kernel
theorem dX11_world_16 : decode cX11_world 16 = .ok (.getfield 12, 3) := by decide +kernel
theorem dX11_world_19 : decode cX11_world 19 = .ok (.getfield 81, 3) := by decide +kernel
theorem dX11_world_22 : decode cX11_world 22 = .ok (.iconst 0, 1) := by decide +kernel
theorem dX11_world_23 : decode cX11_world 23 = .ok (.putfield 85, 3) := by decide +kernel
theorem dX11_world_26 : decode cX11_world 26 = .ok (.iload_n 1, 1) := by decide +kernel
theorem dX11_world_27 : decode cX11_world 27 = .ok (.ifCond .lt 8, 3) := by decide +kernel
theorem dX11_world_30 : decode cX11_world 30 = .ok (.bipush (-10), 2) := by decide +kernel
theorem dX11_world_32 : decode cX11_world 32 = .ok (.iload_n 1, 1) := by decide +kernel
theorem dX11_world_33 : decode cX11_world 33 = .ok (.isub, 1) := by decide +kernel
theorem dX11_world_34 : decode cX11_world 34 = .ok (.ireturn, 1) := by decide +kernel
theorem dX11_world_35 : decode cX11_world 35 = .ok (.aload_n 0, 1) := by decide +kernel
theorem dX11_world_36 : decode cX11_world 36 = .ok (.getfield 12, 3) := by decide +kernel
theorem dX11_world_39 : decode cX11_world 39 = .ok (.getfield 98, 3) := by decide +kernel
theorem dX11_world_42 : decode cX11_world 42 = .ok (.aload_n 0, 1) := by decide +kernel
theorem dX11_world_43 : decode cX11_world 43 = .ok (.getfield 28, 3) := by decide +kernel
theorem dX11_world_46 : decode cX11_world 46 = .ok (.invokevirtual 101, 3) := by decide +kernel
theorem dX11_world_49 : decode cX11_world 49 = .ok (.aload_n 0, 1) := by decide +kernel
theorem dX11_world_50 : decode cX11_world 50 = .ok (.getfield 12, 3) := by decide +kernel
theorem dX11_world_53 : decode cX11_world 53 = .ok (.dup, 1) := by decide +kernel
theorem dX11_world_54 : decode cX11_world 54 = .ok (.getfield 105, 3) := by decide +kernel
theorem dX11_world_57 : decode cX11_world 57 = .ok (.iconst 1, 1) := by decide +kernel
theorem dX11_world_58 : decode cX11_world 58 = .ok (.iadd, 1) := by decide +kernel
theorem dX11_world_59 : decode cX11_world 59 = .ok (.putfield 105, 3) := by decide +kernel
theorem dX11_world_62 : decode cX11_world 62 = .ok (.aload_n 0, 1) := by decide +kernel
theorem dX11_world_63 : decode cX11_world 63 = .ok (.getfield 12, 3) := by decide +kernel
theorem dX11_world_66 : decode cX11_world 66 = .ok (.getfield 105, 3) := by decide +kernel
theorem dX11_world_69 : decode cX11_world 69 = .ok (.ireturn, 1) := by decide +kernel
theorem dX11_cost_0 : decode cX11_cost 0 = .ok (.aload_n 0, 1) := by decide +kernel
theorem dX11_cost_1 : decode cX11_cost 1 = .ok (.getfield 12, 3) := by decide +kernel
theorem dX11_cost_4 : decode cX11_cost 4 = .ok (.iload_n 1, 1) := by decide +kernel
theorem dX11_cost_5 : decode cX11_cost 5 = .ok (.invokevirtual 58, 3) := by decide +kernel
theorem dX11_cost_8 : decode cX11_cost 8 = .ok (.ifCond .eq 14, 3) := by decide +kernel
theorem dX11_cost_11 : decode cX11_cost 11 = .ok (.aload_n 0, 1) := by decide +kernel
theorem dX11_cost_12 : decode cX11_cost 12 = .ok (.getfield 12, 3) := by decide +kernel
theorem dX11_cost_15 : decode cX11_cost 15 = .ok (.iload_n 2, 1) := by decide +kernel
theorem dX11_cost_16 : decode cX11_cost 16 = .ok (.invokevirtual 58, 3) := by decide +kernel
theorem dX11_cost_19 : decode cX11_cost 19 = .ok (.ifCond .ne 5, 3) := by decide +kernel
theorem dX11_cost_22 : decode cX11_cost 22 = .ok (.iconst (-1), 1) := by decide +kernel
theorem dX11_cost_23 : decode cX11_cost 23 = .ok (.ireturn, 1) := by decide +kernel
theorem dX11_cost_24 : decode cX11_cost 24 = .ok (.iload_n 1, 1) := by decide +kernel
theorem dX11_cost_25 : decode cX11_cost 25 = .ok (.iload_n 2, 1) := by decide +kernel
theorem dX11_cost_26 : decode cX11_cost 26 = .ok (.if_icmp .ne 6, 3) := by decide +kernel
theorem dX11_cost_29 : decode cX11_cost 29 = .ok (.bipush (-2), 2) := by decide +kernel
theorem dX11_cost_31 : decode cX11_cost 31 = .ok (.ireturn, 1) := by decide +kernel
theorem dX11_cost_32 : decode cX11_cost 32 = .ok (.aload_n 0, 1) := by decide +kernel
theorem dX11_cost_33 : decode cX11_cost 33 = .ok (.getfield 12, 3) := by decide +kernel
theorem dX11_cost_36 : decode cX11_cost 36 = .ok (.getfield 98, 3) := by decide +kernel
theorem dX11_cost_39 : decode cX11_cost 39 = .ok (.aload_n 0, 1) := by decide +kernel
theorem dX11_cost_40 : decode cX11_cost 40 = .ok (.getfield 12, 3) := by decide +kernel
theorem dX11_cost_43 : decode cX11_cost 43 = .ok (.iload_n 1, 1) := by decide +kernel
theorem dX11_cost_44 : decode cX11_cost 44 = .ok (.iload_n 2, 1) := by decide +kernel
theorem dX11_cost_45 : decode cX11_cost 45 = .ok (.invokevirtual 108, 3) := by decide +kernel
theorem dX11_cost_48 : decode cX11_cost 48 = .ok (.ireturn, 1) := by decide +kernel
theorem dX11_force_0 : decode cX11_force 0 = .ok (.aload_n 0, 1) := by decide +kernel
theorem dX11_force_1 : decode cX11_force 1 = .ok (.getfield 12, 3) := by decide +kernel
theorem dX11_force_4 : decode cX11_force 4 = .ok (.iload_n 1, 1) := by decide +kernel
theorem dX11_force_5 : decode cX11_force 5 = .ok (.invokevirtual 58, 3) := by decide +kernel
theorem dX11_force_8 : decode cX11_force 8 = .ok (.ifCond .ne 5, 3) := by decide +kernel
theorem dX11_force_11 : decode cX11_force 11 = .ok (.iconst (-1), 1) := by decide +kernel
theorem dX11_force_12 : decode cX11_force 12 = .ok (.ireturn, 1) := by decide +kernel
theorem dX11_force_13 : decode cX11_force 13 = .ok (.iload_n 2, 1) := by decide +kernel
theorem dX11_force_14 : decode cX11_force 14 = .ok (.bipush 40, 2) := by decide +kernel
theorem dX11_force_16 : decode cX11_force 16 = .ok (.invokestatic 46, 3) := by decide +kernel
theorem dX11_force_19 : decode cX11_force 19 = .ok (.ifCond .eq 6, 3) := by decide +kernel
theorem dX11_force_22 : decode cX11_force 22 = .ok (.bipush (-2), 2) := by decide +kernel
theorem dX11_force_24 : decode cX11_force 24 = .ok (.ireturn, 1) := by decide +kernel
theorem dX11_force_25 : decode cX11_force 25 = .ok (.aload_n 0, 1) := by decide +kernel
theorem dX11_force_26 : decode cX11_force 26 = .ok (.getfield 12, 3) := by decide +kernel
theorem dX11_force_29 : decode cX11_force 29 = .ok (.iload_n 1, 1) := by decide +kernel
theorem dX11_force_30 : decode cX11_force 30 = .ok (.iload_n 2, 1) := by decide +kernel
theorem dX11_force_31 : decode cX11_force 31 = .ok (.invokevirtual 112, 3) := by decide +kernel
theorem dX11_force_34 : decode cX11_force 34 = .ok (.ireturn, 1) := by decide +kernel
theorem dX11_standing_0 : decode cX11_standing 0 = .ok (.iload_n 1, 1) := by decide +kernel
theorem dX11_standing_1 : decode cX11_standing 1 = .ok (.bipush 6, 2) := by decide +kernel
theorem dX11_standing_3 : decode cX11_standing 3 = .ok (.invokestatic 46, 3) := by decide +kernel
theorem dX11_standing_6 : decode cX11_standing 6 = .ok (.ifCond .eq 5, 3) := by decide +kernel
theorem dX11_standing_9 : decode cX11_standing 9 = .ok (.iconst (-1), 1) := by decide +kernel
theorem dX11_standing_10 : decode cX11_standing 10 = .ok (.ireturn, 1) := by decide +kernel
theorem dX11_standing_11 : decode cX11_standing 11 = .ok (.iload_n 2, 1) := by decide +kernel
theorem dX11_standing_12 : decode cX11_standing 12 = .ok (.bipush 9, 2) := by decide +kernel
theorem dX11_standing_14 : decode cX11_standing 14 = .ok (.invokestatic 46, 3) := by decide +kernel
theorem dX11_standing_17 : decode cX11_standing 17 = .ok (.ifCond .eq 6, 3) := by decide +kernel
theorem dX11_standing_20 : decode cX11_standing 20 = .ok (.bipush (-2), 2) := by decide +kernel
theorem dX11_standing_22 : decode cX11_standing 22 = .ok (.ireturn, 1) := by decide +kernel
theorem dX11_standing_23 : decode cX11_standing 23 = .ok (.aload_n 0, 1) := by decide +kernel
theorem dX11_standing_24 : decode cX11_standing 24 = .ok (.getfield 12, 3) := by decide +kernel
theorem dX11_standing_27 : decode cX11_standing 27 = .ok (.getfield 115, 3) := by decide +kernel
theorem dX11_standing_30 : decode cX11_standing 30 = .ok (.istore_n 3, 1) := by decide +kernel
theorem dX11_standing_31 : decode cX11_standing 31 = .ok (.iload_n 3, 1) := by decide +kernel
theorem dX11_standing_32 : decode cX11_standing 32 = .ok (.bipush 8, 2) := by decide +kernel
theorem dX11_standing_34 : decode cX11_standing 34 = .ok (.if_icmp .lt 6, 3) := by decide +kernel
theorem dX11_standing_37 : decode cX11_standing 37 = .ok (.bipush (-4), 2) := by decide +kernel
theorem dX11_standing_39 : decode cX11_standing 39 = .ok (.ireturn, 1) := by decide +kernel
theorem dX11_standing_40 : decode cX11_standing 40 = .ok (.aload_n 0, 1) := by decide +kernel
theorem dX11_standing_41 : decode cX11_standing 41 = .ok (.getfield 12, 3) := by decide +kernel
theorem dX11_standing_44 : decode cX11_standing 44 = .ok (.getfield 118, 3) := by decide +kernel
theorem dX11_standing_47 : decode cX11_standing 47 = .ok (.iload_n 3, 1) := by decide +kernel
theorem dX11_standing_48 : decode cX11_standing 48 = .ok (.iload_n 1, 1) := by decide +kernel
theorem dX11_standing_49 : decode cX11_standing 49 = .ok (.iload_n 3, 1) := by decide +kernel
theorem dX11_standing_50 : decode cX11_standing 50 = .ok (.iload_n 2, 1) := by decide +kernel
theorem dX11_standing_51 : decode cX11_standing 51 = .ok (.invokestatic 122, 3) := by decide +kernel
theorem dX11_standing_54 : decode cX11_standing 54 = .ok (.aastore, 1) := by decide +kernel
theorem dX11_standing_55 : decode cX11_standing 55 = .ok (.aload_n 0, 1) := by decide +kernel
theorem dX11_standing_56 : decode cX11_standing 56 = .ok (.getfield 12, 3) := by decide +kernel
theorem dX11_standing_59 : decode cX11_standing 59 = .ok (.dup, 1) := by decide +kernel
theorem dX11_standing_60 : decode cX11_standing 60 = .ok (.getfield 115, 3) := by decide +kernel
theorem dX11_standing_63 : decode cX11_standing 63 = .ok (.iconst 1, 1) := by decide +kernel
theorem dX11_standing_64 : decode cX11_standing 64 = .ok (.iadd, 1) := by decide +kernel
theorem dX11_standing_65 : decode cX11_standing 65 = .ok (.putfield 115, 3) := by decide +kernel
theorem dX11_standing_68 : decode cX11_standing 68 = .ok (.iload_n 3, 1) := by decide +kernel
theorem dX11_standing_69 : decode cX11_standing 69 = .ok (.ireturn, 1) := by decide +kernel
theorem dX11_block_0 : decode cX11_block 0 = .ok (.aload_n 0, 1) := by decide +kernel
theorem dX11_block_1 : decode cX11_block 1 = .ok (.getfield 12, 3) := by decide +kernel
theorem dX11_block_4 : decode cX11_block 4 = .ok (.iload_n 1, 1) := by decide +kernel
theorem dX11_block_5 : decode cX11_block 5 = .ok (.invokevirtual 126, 3) := by decide +kernel
theorem dX11_block_8 : decode cX11_block 8 = .ok (.ifnull 14, 3) := by decide +kernel
theorem dX11_block_11 : decode cX11_block 11 = .ok (.aload_n 0, 1) := by decide +kernel
theorem dX11_block_12 : decode cX11_block 12 = .ok (.getfield 12, 3) := by decide +kernel
theorem dX11_block_15 : decode cX11_block 15 = .ok (.iload_n 2, 1) := by decide +kernel
theorem dX11_block_16 : decode cX11_block 16 = .ok (.invokevirtual 58, 3) := by decide +kernel
theorem dX11_block_19 : decode cX11_block 19 = .ok (.ifCond .ne 5, 3) := by decide +kernel
theorem dX11_block_22 : decode cX11_block 22 = .ok (.iconst (-1), 1) := by decide +kernel
theorem dX11_block_23 : decode cX11_block 23 = .ok (.ireturn, 1) := by decide +kernel
theorem dX11_block_24 : decode cX11_block 24 = .ok (.iload_n 3, 1) := by decide +kernel
theorem dX11_block_25 : decode cX11_block 25 = .ok (.bipush 6, 2) := by decide +kernel
theorem dX11_block_27 : decode cX11_block 27 = .ok (.invokestatic 46, 3) := by decide +kernel
theorem dX11_block_30 : decode cX11_block 30 = .ok (.ifCond .eq 6, 3) := by decide +kernel
theorem dX11_block_33 : decode cX11_block 33 = .ok (.bipush (-2), 2) := by decide +kernel
theorem dX11_block_35 : decode cX11_block 35 = .ok (.ireturn, 1) := by decide +kernel
theorem dX11_block_36 : decode cX11_block 36 = .ok (.aload_n 0, 1) := by decide +kernel
theorem dX11_block_37 : decode cX11_block 37 = .ok (.getfield 12, 3) := by decide +kernel
theorem dX11_block_40 : decode cX11_block 40 = .ok (.getfield 130, 3) := by decide +kernel
theorem dX11_block_43 : decode cX11_block 43 = .ok (.iload_n 1, 1) := by decide +kernel
theorem dX11_block_44 : decode cX11_block 44 = .ok (.aaload, 1) := by decide +kernel
theorem dX11_block_45 : decode cX11_block 45 = .ok (.iload_n 2, 1) := by decide +kernel
theorem dX11_block_46 : decode cX11_block 46 = .ok (.iaload, 1) := by decide +kernel
theorem dX11_block_47 : decode cX11_block 47 = .ok (.istore 4, 2) := by decide +kernel
theorem dX11_block_49 : decode cX11_block 49 = .ok (.aload_n 0, 1) := by decide +kernel
theorem dX11_block_50 : decode cX11_block 50 = .ok (.getfield 12, 3) := by decide +kernel
theorem dX11_block_53 : decode cX11_block 53 = .ok (.getfield 130, 3) := by decide +kernel
theorem dX11_block_56 : decode cX11_block 56 = .ok (.iload_n 1, 1) := by decide +kernel
theorem dX11_block_57 : decode cX11_block 57 = .ok (.aaload, 1) := by decide +kernel
theorem dX11_block_58 : decode cX11_block 58 = .ok (.iload_n 2, 1) := by decide +kernel
theorem dX11_block_59 : decode cX11_block 59 = .ok (.iload_n 3, 1) := by decide +kernel
theorem dX11_block_60 : decode cX11_block 60 = .ok (.iastore, 1) := by decide +kernel
theorem dX11_block_61 : decode cX11_block 61 = .ok (.iload 4, 2) := by decide +kernel
theorem dX11_block_63 : decode cX11_block 63 = .ok (.ireturn, 1) := by decide +kernel
theorem dX11_comes_0 : decode cX11_comes 0 = .ok (.aload_n 0, 1) := by decide +kernel
theorem dX11_comes_1 : decode cX11_comes 1 = .ok (.getfield 12, 3) := by decide +kernel
theorem dX11_comes_4 : decode cX11_comes 4 = .ok (.iload_n 1, 1) := by decide +kernel
theorem dX11_comes_5 : decode cX11_comes 5 = .ok (.invokevirtual 126, 3) := by decide +kernel
theorem dX11_comes_8 : decode cX11_comes 8 = .ok (.astore 5, 2) := by decide +kernel
theorem dX11_comes_10 : decode cX11_comes 10 = .ok (.aload 5, 2) := by decide +kernel
theorem dX11_comes_12 : decode cX11_comes 12 = .ok (.ifnull 12, 3) := by decide +kernel
theorem dX11_comes_15 : decode cX11_comes 15 = .ok (.iload 4, 2) := by decide +kernel
theorem dX11_comes_17 : decode cX11_comes 17 = .ok (.iconst 1, 1) := by decide +kernel
theorem dX11_comes_18 : decode cX11_comes 18 = .ok (.invokestatic 46, 3) := by decide +kernel
theorem dX11_comes_21 : decode cX11_comes 21 = .ok (.ifCond .eq 5, 3) := by decide +kernel
theorem dX11_comes_24 : decode cX11_comes 24 = .ok (.iconst (-1), 1) := by decide +kernel
theorem dX11_comes_25 : decode cX11_comes 25 = .ok (.ireturn, 1) := by decide +kernel
theorem dX11_comes_26 : decode cX11_comes 26 = .ok (.aload_n 0, 1) := by decide +kernel
theorem dX11_comes_27 : decode cX11_comes 27 = .ok (.iload_n 2, 1) := by decide +kernel
theorem dX11_comes_28 : decode cX11_comes 28 = .ok (.iload_n 3, 1) := by decide +kernel
theorem dX11_comes_29 : decode cX11_comes 29 = .ok (.invokevirtual 133, 3) := by decide +kernel
theorem dX11_comes_32 : decode cX11_comes 32 = .ok (.istore 6, 2) := by decide +kernel
theorem dX11_comes_34 : decode cX11_comes 34 = .ok (.iload 6, 2) := by decide +kernel
theorem dX11_comes_36 : decode cX11_comes 36 = .ok (.ifCond .eq 6, 3) := by decide +kernel
theorem dX11_comes_39 : decode cX11_comes 39 = .ok (.iload 6, 2) := by decide +kernel
theorem dX11_comes_41 : decode cX11_comes 41 = .ok (.ireturn, 1) := by decide +kernel
theorem dX11_comes_42 : decode cX11_comes 42 = .ok (.aload 5, 2) := by decide +kernel
theorem dX11_comes_44 : decode cX11_comes 44 = .ok (.aload_n 0, 1) := by decide +kernel
theorem dX11_comes_45 : decode cX11_comes 45 = .ok (.getfield 12, 3) := by decide +kernel
theorem dX11_comes_48 : decode cX11_comes 48 = .ok (.iload_n 2, 1) := by decide +kernel
theorem dX11_comes_49 : decode cX11_comes 49 = .ok (.iload_n 3, 1) := by decide +kernel
theorem dX11_comes_50 : decode cX11_comes 50 = .ok (.invokevirtual 136, 3) := by decide +kernel
theorem dX11_comes_53 : decode cX11_comes 53 = .ok (.istore 7, 2) := by decide +kernel
theorem dX11_comes_55 : decode cX11_comes 55 = .ok (.iload 4, 2) := by decide +kernel
theorem dX11_comes_57 : decode cX11_comes 57 = .ok (.ifCond .ne 11, 3) := by decide +kernel
theorem dX11_comes_60 : decode cX11_comes 60 = .ok (.iload 7, 2) := by decide +kernel
theorem dX11_comes_62 : decode cX11_comes 62 = .ok (.invokestatic 141, 3) := by decide +kernel
theorem dX11_comes_65 : decode cX11_comes 65 = .ok (.goto 8, 3) := by decide +kernel
theorem dX11_comes_68 : decode cX11_comes 68 = .ok (.iload 7, 2) := by decide +kernel
theorem dX11_comes_70 : decode cX11_comes 70 = .ok (.invokestatic 145, 3) := by decide +kernel
theorem dX11_comes_73 : decode cX11_comes 73 = .ok (.ireturn, 1) := by decide +kernel
theorem dX11_war_0 : decode cX11_war 0 = .ok (.aload_n 0, 1) := by decide +kernel
theorem dX11_war_1 : decode cX11_war 1 = .ok (.getfield 12, 3) := by decide +kernel
theorem dX11_war_4 : decode cX11_war 4 = .ok (.iload_n 1, 1) := by decide +kernel
theorem dX11_war_5 : decode cX11_war 5 = .ok (.invokevirtual 126, 3) := by decide +kernel
theorem dX11_war_8 : decode cX11_war 8 = .ok (.astore 5, 2) := by decide +kernel
theorem dX11_war_10 : decode cX11_war 10 = .ok (.aload 5, 2) := by decide +kernel
theorem dX11_war_12 : decode cX11_war 12 = .ok (.ifnull 12, 3) := by decide +kernel
theorem dX11_war_15 : decode cX11_war 15 = .ok (.aload_n 0, 1) := by decide +kernel
theorem dX11_war_16 : decode cX11_war 16 = .ok (.iload_n 2, 1) := by decide +kernel
theorem dX11_war_17 : decode cX11_war 17 = .ok (.iload_n 3, 1) := by decide +kernel
theorem dX11_war_18 : decode cX11_war 18 = .ok (.invokevirtual 133, 3) := by decide +kernel
theorem dX11_war_21 : decode cX11_war 21 = .ok (.ifCond .eq 7, 3) := by decide +kernel
theorem dX11_war_24 : decode cX11_war 24 = .ok (.ldc2_w 148, 3) := by decide +kernel
theorem dX11_war_27 : decode cX11_war 27 = .ok (.lreturn, 1) := by decide +kernel
theorem dX11_war_28 : decode cX11_war 28 = .ok (.aload 5, 2) := by decide +kernel
theorem dX11_war_30 : decode cX11_war 30 = .ok (.aload_n 0, 1) := by decide +kernel
theorem dX11_war_31 : decode cX11_war 31 = .ok (.getfield 12, 3) := by decide +kernel
theorem dX11_war_34 : decode cX11_war 34 = .ok (.iload_n 2, 1) := by decide +kernel
theorem dX11_war_35 : decode cX11_war 35 = .ok (.iload_n 3, 1) := by decide +kernel
theorem dX11_war_36 : decode cX11_war 36 = .ok (.invokevirtual 136, 3) := by decide +kernel
theorem dX11_war_39 : decode cX11_war 39 = .ok (.istore 6, 2) := by decide +kernel
theorem dX11_war_41 : decode cX11_war 41 = .ok (.aload_n 0, 1) := by decide +kernel
theorem dX11_war_42 : decode cX11_war 42 = .ok (.getfield 12, 3) := by decide +kernel
theorem dX11_war_45 : decode cX11_war 45 = .ok (.iload 6, 2) := by decide +kernel
theorem dX11_war_47 : decode cX11_war 47 = .ok (.invokestatic 141, 3) := by decide +kernel
theorem dX11_war_50 : decode cX11_war 50 = .ok (.aload_n 0, 1) := by decide +kernel
theorem dX11_war_51 : decode cX11_war 51 = .ok (.getfield 12, 3) := by decide +kernel
theorem dX11_war_54 : decode cX11_war 54 = .ok (.getfield 65, 3) := by decide +kernel
theorem dX11_war_57 : decode cX11_war 57 = .ok (.iload_n 3, 1) := by decide +kernel
theorem dX11_war_58 : decode cX11_war 58 = .ok (.iaload, 1) := by decide +kernel
theorem dX11_war_59 : decode cX11_war 59 = .ok (.invokevirtual 150, 3) := by decide +kernel
theorem dX11_war_62 : decode cX11_war 62 = .ok (.istore 7, 2) := by decide +kernel
theorem dX11_war_64 : decode cX11_war 64 = .ok (.aload_n 0, 1) := by decide +kernel
theorem dX11_war_65 : decode cX11_war 65 = .ok (.getfield 12, 3) := by decide +kernel
theorem dX11_war_68 : decode cX11_war 68 = .ok (.iload 6, 2) := by decide +kernel
theorem dX11_war_70 : decode cX11_war 70 = .ok (.invokestatic 145, 3) := by decide +kernel
theorem dX11_war_73 : decode cX11_war 73 = .ok (.aload_n 0, 1) := by decide +kernel
theorem dX11_war_74 : decode cX11_war 74 = .ok (.getfield 12, 3) := by decide +kernel
theorem dX11_war_77 : decode cX11_war 77 = .ok (.getfield 65, 3) := by decide +kernel
theorem dX11_war_80 : decode cX11_war 80 = .ok (.iload_n 3, 1) := by decide +kernel
theorem dX11_war_81 : decode cX11_war 81 = .ok (.iaload, 1) := by decide +kernel
theorem dX11_war_82 : decode cX11_war 82 = .ok (.invokevirtual 150, 3) := by decide +kernel
theorem dX11_war_85 : decode cX11_war 85 = .ok (.istore 8, 2) := by decide +kernel
theorem dX11_war_87 : decode cX11_war 87 = .ok (.iload 4, 2) := by decide +kernel
theorem dX11_war_89 : decode cX11_war 89 = .ok (.tableswitch 87 0 2 #[27, 31, 35], 27) := by decide +kernel
theorem dX11_war_116 : decode cX11_war 116 = .ok (.iload 7, 2) := by decide +kernel
theorem dX11_war_118 : decode cX11_war 118 = .ok (.i2l, 1) := by decide +kernel
theorem dX11_war_119 : decode cX11_war 119 = .ok (.lreturn, 1) := by decide +kernel
theorem dX11_war_120 : decode cX11_war 120 = .ok (.iload 8, 2) := by decide +kernel
theorem dX11_war_122 : decode cX11_war 122 = .ok (.i2l, 1) := by decide +kernel
theorem dX11_war_123 : decode cX11_war 123 = .ok (.lreturn, 1) := by decide +kernel
theorem dX11_war_124 : decode cX11_war 124 = .ok (.iload 7, 2) := by decide +kernel
theorem dX11_war_126 : decode cX11_war 126 = .ok (.iload 8, 2) := by decide +kernel
theorem dX11_war_128 : decode cX11_war 128 = .ok (.if_icmp .le 17, 3) := by decide +kernel
theorem dX11_war_131 : decode cX11_war 131 = .ok (.aload_n 0, 1) := by decide +kernel
theorem dX11_war_132 : decode cX11_war 132 = .ok (.getfield 12, 3) := by decide +kernel
theorem dX11_war_135 : decode cX11_war 135 = .ok (.getfield 74, 3) := by decide +kernel
theorem dX11_war_138 : decode cX11_war 138 = .ok (.iload_n 3, 1) := by decide +kernel
theorem dX11_war_139 : decode cX11_war 139 = .ok (.aaload, 1) := by decide +kernel
theorem dX11_war_140 : decode cX11_war 140 = .ok (.iload_n 2, 1) := by decide +kernel
theorem dX11_war_141 : decode cX11_war 141 = .ok (.iaload, 1) := by decide +kernel
theorem dX11_war_142 : decode cX11_war 142 = .ok (.goto 15, 3) := by decide +kernel
theorem dX11_war_145 : decode cX11_war 145 = .ok (.aload_n 0, 1) := by decide +kernel
theorem dX11_war_146 : decode cX11_war 146 = .ok (.getfield 12, 3) := by decide +kernel
theorem dX11_war_149 : decode cX11_war 149 = .ok (.getfield 74, 3) := by decide +kernel
theorem dX11_war_152 : decode cX11_war 152 = .ok (.iload_n 2, 1) := by decide +kernel
theorem dX11_war_153 : decode cX11_war 153 = .ok (.aaload, 1) := by decide +kernel
theorem dX11_war_154 : decode cX11_war 154 = .ok (.iload_n 3, 1) := by decide +kernel
theorem dX11_war_155 : decode cX11_war 155 = .ok (.iaload, 1) := by decide +kernel
theorem dX11_war_156 : decode cX11_war 156 = .ok (.ineg, 1) := by decide +kernel
theorem dX11_war_157 : decode cX11_war 157 = .ok (.aload_n 0, 1) := by decide +kernel
theorem dX11_war_158 : decode cX11_war 158 = .ok (.getfield 12, 3) := by decide +kernel
theorem dX11_war_161 : decode cX11_war 161 = .ok (.getfield 98, 3) := by decide +kernel
theorem dX11_war_164 : decode cX11_war 164 = .ok (.aload_n 0, 1) := by decide +kernel
theorem dX11_war_165 : decode cX11_war 165 = .ok (.getfield 12, 3) := by decide +kernel
theorem dX11_war_168 : decode cX11_war 168 = .ok (.iload_n 2, 1) := by decide +kernel
theorem dX11_war_169 : decode cX11_war 169 = .ok (.iload_n 3, 1) := by decide +kernel
theorem dX11_war_170 : decode cX11_war 170 = .ok (.invokevirtual 108, 3) := by decide +kernel
theorem dX11_war_173 : decode cX11_war 173 = .ok (.isub, 1) := by decide +kernel
theorem dX11_war_174 : decode cX11_war 174 = .ok (.i2l, 1) := by decide +kernel
theorem dX11_war_175 : decode cX11_war 175 = .ok (.lreturn, 1) := by decide +kernel
theorem dX11_war_176 : decode cX11_war 176 = .ok (.ldc2_w 148, 3) := by decide +kernel
theorem dX11_war_179 : decode cX11_war 179 = .ok (.lreturn, 1) := by decide +kernel
theorem dX11_dares_0 : decode cX11_dares 0 = .ok (.aload_n 0, 1) := by decide +kernel
theorem dX11_dares_1 : decode cX11_dares 1 = .ok (.getfield 12, 3) := by decide +kernel
theorem dX11_dares_4 : decode cX11_dares 4 = .ok (.iload_n 1, 1) := by decide +kernel
theorem dX11_dares_5 : decode cX11_dares 5 = .ok (.invokevirtual 126, 3) := by decide +kernel
theorem dX11_dares_8 : decode cX11_dares 8 = .ok (.astore 4, 2) := by decide +kernel
theorem dX11_dares_10 : decode cX11_dares 10 = .ok (.aload 4, 2) := by decide +kernel
theorem dX11_dares_12 : decode cX11_dares 12 = .ok (.ifnull 22, 3) := by decide +kernel
theorem dX11_dares_15 : decode cX11_dares 15 = .ok (.aload_n 0, 1) := by decide +kernel
theorem dX11_dares_16 : decode cX11_dares 16 = .ok (.getfield 12, 3) := by decide +kernel
theorem dX11_dares_19 : decode cX11_dares 19 = .ok (.iload_n 2, 1) := by decide +kernel
theorem dX11_dares_20 : decode cX11_dares 20 = .ok (.invokevirtual 58, 3) := by decide +kernel
theorem dX11_dares_23 : decode cX11_dares 23 = .ok (.ifCond .eq 11, 3) := by decide +kernel
theorem dX11_dares_26 : decode cX11_dares 26 = .ok (.iload_n 3, 1) := by decide +kernel
theorem dX11_dares_27 : decode cX11_dares 27 = .ok (.iconst 1, 1) := by decide +kernel
theorem dX11_dares_28 : decode cX11_dares 28 = .ok (.invokestatic 46, 3) := by decide +kernel
theorem dX11_dares_31 : decode cX11_dares 31 = .ok (.ifCond .eq 5, 3) := by decide +kernel
theorem dX11_dares_34 : decode cX11_dares 34 = .ok (.iconst (-1), 1) := by decide +kernel
theorem dX11_dares_35 : decode cX11_dares 35 = .ok (.ireturn, 1) := by decide +kernel
theorem dX11_dares_36 : decode cX11_dares 36 = .ok (.iload_n 3, 1) := by decide +kernel
theorem dX11_dares_37 : decode cX11_dares 37 = .ok (.ifCond .ne 16, 3) := by decide +kernel
theorem dX11_dares_40 : decode cX11_dares 40 = .ok (.aload 4, 2) := by decide +kernel
theorem dX11_dares_42 : decode cX11_dares 42 = .ok (.aload_n 0, 1) := by decide +kernel
theorem dX11_dares_43 : decode cX11_dares 43 = .ok (.getfield 12, 3) := by decide +kernel
theorem dX11_dares_46 : decode cX11_dares 46 = .ok (.iload_n 2, 1) := by decide +kernel
theorem dX11_dares_47 : decode cX11_dares 47 = .ok (.invokevirtual 153, 3) := by decide +kernel
theorem dX11_dares_50 : decode cX11_dares 50 = .ok (.goto 13, 3) := by decide +kernel
theorem dX11_dares_53 : decode cX11_dares 53 = .ok (.aload 4, 2) := by decide +kernel
theorem dX11_dares_55 : decode cX11_dares 55 = .ok (.aload_n 0, 1) := by decide +kernel
theorem dX11_dares_56 : decode cX11_dares 56 = .ok (.getfield 12, 3) := by decide +kernel
theorem dX11_dares_59 : decode cX11_dares 59 = .ok (.iload_n 2, 1) := by decide +kernel
theorem dX11_dares_60 : decode cX11_dares 60 = .ok (.invokevirtual 157, 3) := by decide +kernel
theorem dX11_dares_63 : decode cX11_dares 63 = .ok (.ireturn, 1) := by decide +kernel
theorem dX11_first_0 : decode cX11_first 0 = .ok (.aload_n 0, 1) := by decide +kernel
theorem dX11_first_1 : decode cX11_first 1 = .ok (.getfield 12, 3) := by decide +kernel
theorem dX11_first_4 : decode cX11_first 4 = .ok (.iload_n 1, 1) := by decide +kernel
theorem dX11_first_5 : decode cX11_first 5 = .ok (.invokevirtual 126, 3) := by decide +kernel
theorem dX11_first_8 : decode cX11_first 8 = .ok (.astore_n 2, 1) := by decide +kernel
theorem dX11_first_9 : decode cX11_first 9 = .ok (.aload_n 2, 1) := by decide +kernel
theorem dX11_first_10 : decode cX11_first 10 = .ok (.ifnonnull 7, 3) := by decide +kernel
theorem dX11_first_13 : decode cX11_first 13 = .ok (.iconst (-1), 1) := by decide +kernel
theorem dX11_first_14 : decode cX11_first 14 = .ok (.goto 11, 3) := by decide +kernel
theorem dX11_first_17 : decode cX11_first 17 = .ok (.aload_n 2, 1) := by decide +kernel
theorem dX11_first_18 : decode cX11_first 18 = .ok (.aload_n 0, 1) := by decide +kernel
theorem dX11_first_19 : decode cX11_first 19 = .ok (.getfield 12, 3) := by decide +kernel
theorem dX11_first_22 : decode cX11_first 22 = .ok (.invokevirtual 160, 3) := by decide +kernel
theorem dX11_first_25 : decode cX11_first 25 = .ok (.ireturn, 1) := by decide +kernel
theorem dX11_keeps_0 : decode cX11_keeps 0 = .ok (.aload_n 0, 1) := by decide +kernel
theorem dX11_keeps_1 : decode cX11_keeps 1 = .ok (.getfield 12, 3) := by decide +kernel
theorem dX11_keeps_4 : decode cX11_keeps 4 = .ok (.iload_n 1, 1) := by decide +kernel
theorem dX11_keeps_5 : decode cX11_keeps 5 = .ok (.invokevirtual 58, 3) := by decide +kernel
theorem dX11_keeps_8 : decode cX11_keeps 8 = .ok (.ifCond .eq 25, 3) := by decide +kernel
theorem dX11_keeps_11 : decode cX11_keeps 11 = .ok (.aload_n 0, 1) := by decide +kernel
theorem dX11_keeps_12 : decode cX11_keeps 12 = .ok (.getfield 12, 3) := by decide +kernel
theorem dX11_keeps_15 : decode cX11_keeps 15 = .ok (.iload_n 2, 1) := by decide +kernel
theorem dX11_keeps_16 : decode cX11_keeps 16 = .ok (.invokevirtual 58, 3) := by decide +kernel
theorem dX11_keeps_19 : decode cX11_keeps 19 = .ok (.ifCond .eq 14, 3) := by decide +kernel
theorem dX11_keeps_22 : decode cX11_keeps 22 = .ok (.aload_n 0, 1) := by decide +kernel
theorem dX11_keeps_23 : decode cX11_keeps 23 = .ok (.getfield 12, 3) := by decide +kernel
theorem dX11_keeps_26 : decode cX11_keeps 26 = .ok (.iload_n 3, 1) := by decide +kernel
theorem dX11_keeps_27 : decode cX11_keeps 27 = .ok (.invokevirtual 58, 3) := by decide +kernel
theorem dX11_keeps_30 : decode cX11_keeps 30 = .ok (.ifCond .ne 5, 3) := by decide +kernel
theorem dX11_keeps_33 : decode cX11_keeps 33 = .ok (.iconst (-1), 1) := by decide +kernel
theorem dX11_keeps_34 : decode cX11_keeps 34 = .ok (.ireturn, 1) := by decide +kernel
theorem dX11_keeps_35 : decode cX11_keeps 35 = .ok (.iload_n 1, 1) := by decide +kernel
theorem dX11_keeps_36 : decode cX11_keeps 36 = .ok (.iload_n 2, 1) := by decide +kernel
theorem dX11_keeps_37 : decode cX11_keeps 37 = .ok (.if_icmp .eq 13, 3) := by decide +kernel
theorem dX11_keeps_40 : decode cX11_keeps 40 = .ok (.iload_n 1, 1) := by decide +kernel
theorem dX11_keeps_41 : decode cX11_keeps 41 = .ok (.iload_n 3, 1) := by decide +kernel
theorem dX11_keeps_42 : decode cX11_keeps 42 = .ok (.if_icmp .eq 8, 3) := by decide +kernel
theorem dX11_keeps_45 : decode cX11_keeps 45 = .ok (.iload_n 2, 1) := by decide +kernel
theorem dX11_keeps_46 : decode cX11_keeps 46 = .ok (.iload_n 3, 1) := by decide +kernel
theorem dX11_keeps_47 : decode cX11_keeps 47 = .ok (.if_icmp .ne 6, 3) := by decide +kernel
theorem dX11_keeps_50 : decode cX11_keeps 50 = .ok (.bipush (-2), 2) := by decide +kernel
theorem dX11_keeps_52 : decode cX11_keeps 52 = .ok (.ireturn, 1) := by decide +kernel
theorem dX11_keeps_53 : decode cX11_keeps 53 = .ok (.aload_n 0, 1) := by decide +kernel
theorem dX11_keeps_54 : decode cX11_keeps 54 = .ok (.getfield 12, 3) := by decide +kernel
theorem dX11_keeps_57 : decode cX11_keeps 57 = .ok (.iload_n 1, 1) := by decide +kernel
theorem dX11_keeps_58 : decode cX11_keeps 58 = .ok (.invokevirtual 68, 3) := by decide +kernel
theorem dX11_keeps_61 : decode cX11_keeps 61 = .ok (.ifCond .eq 25, 3) := by decide +kernel
theorem dX11_keeps_64 : decode cX11_keeps 64 = .ok (.aload_n 0, 1) := by decide +kernel
theorem dX11_keeps_65 : decode cX11_keeps 65 = .ok (.getfield 12, 3) := by decide +kernel
theorem dX11_keeps_68 : decode cX11_keeps 68 = .ok (.iload_n 2, 1) := by decide +kernel
theorem dX11_keeps_69 : decode cX11_keeps 69 = .ok (.invokevirtual 68, 3) := by decide +kernel
theorem dX11_keeps_72 : decode cX11_keeps 72 = .ok (.ifCond .eq 14, 3) := by decide +kernel
theorem dX11_keeps_75 : decode cX11_keeps 75 = .ok (.aload_n 0, 1) := by decide +kernel
theorem dX11_keeps_76 : decode cX11_keeps 76 = .ok (.getfield 12, 3) := by decide +kernel
theorem dX11_keeps_79 : decode cX11_keeps 79 = .ok (.iload_n 3, 1) := by decide +kernel
theorem dX11_keeps_80 : decode cX11_keeps 80 = .ok (.invokevirtual 68, 3) := by decide +kernel
theorem dX11_keeps_83 : decode cX11_keeps 83 = .ok (.ifCond .ne 6, 3) := by decide +kernel
theorem dX11_keeps_86 : decode cX11_keeps 86 = .ok (.bipush (-3), 2) := by decide +kernel
theorem dX11_keeps_88 : decode cX11_keeps 88 = .ok (.ireturn, 1) := by decide +kernel
theorem dX11_keeps_89 : decode cX11_keeps 89 = .ok (.aload_n 0, 1) := by decide +kernel
theorem dX11_keeps_90 : decode cX11_keeps 90 = .ok (.getfield 12, 3) := by decide +kernel
theorem dX11_keeps_93 : decode cX11_keeps 93 = .ok (.iload_n 1, 1) := by decide +kernel
theorem dX11_keeps_94 : decode cX11_keeps 94 = .ok (.iload_n 2, 1) := by decide +kernel
theorem dX11_keeps_95 : decode cX11_keeps 95 = .ok (.invokevirtual 164, 3) := by decide +kernel
theorem dX11_keeps_98 : decode cX11_keeps 98 = .ok (.ifCond .eq 19, 3) := by decide +kernel
theorem dX11_keeps_101 : decode cX11_keeps 101 = .ok (.aload_n 0, 1) := by decide +kernel
theorem dX11_keeps_102 : decode cX11_keeps 102 = .ok (.getfield 12, 3) := by decide +kernel
theorem dX11_keeps_105 : decode cX11_keeps 105 = .ok (.iload_n 1, 1) := by decide +kernel
theorem dX11_keeps_106 : decode cX11_keeps 106 = .ok (.iload_n 3, 1) := by decide +kernel
theorem dX11_keeps_107 : decode cX11_keeps 107 = .ok (.invokevirtual 167, 3) := by decide +kernel
theorem dX11_keeps_110 : decode cX11_keeps 110 = .ok (.ifCond .eq 7, 3) := by decide +kernel
theorem dX11_keeps_113 : decode cX11_keeps 113 = .ok (.iconst 1, 1) := by decide +kernel
theorem dX11_keeps_114 : decode cX11_keeps 114 = .ok (.goto 4, 3) := by decide +kernel
theorem dX11_keeps_117 : decode cX11_keeps 117 = .ok (.iconst 0, 1) := by decide +kernel
theorem dX11_keeps_118 : decode cX11_keeps 118 = .ok (.ireturn, 1) := by decide +kernel
theorem dX11_empty_0 : decode cX11_empty 0 = .ok (.aload_n 0, 1) := by decide +kernel
theorem dX11_empty_1 : decode cX11_empty 1 = .ok (.getfield 12, 3) := by decide +kernel
theorem dX11_empty_4 : decode cX11_empty 4 = .ok (.iload_n 1, 1) := by decide +kernel
theorem dX11_empty_5 : decode cX11_empty 5 = .ok (.invokevirtual 58, 3) := by decide +kernel
theorem dX11_empty_8 : decode cX11_empty 8 = .ok (.ifCond .ne 5, 3) := by decide +kernel
theorem dX11_empty_11 : decode cX11_empty 11 = .ok (.iconst (-1), 1) := by decide +kernel
theorem dX11_empty_12 : decode cX11_empty 12 = .ok (.ireturn, 1) := by decide +kernel
theorem dX11_empty_13 : decode cX11_empty 13 = .ok (.aload_n 0, 1) := by decide +kernel
theorem dX11_empty_14 : decode cX11_empty 14 = .ok (.getfield 12, 3) := by decide +kernel
theorem dX11_empty_17 : decode cX11_empty 17 = .ok (.iload_n 1, 1) := by decide +kernel
theorem dX11_empty_18 : decode cX11_empty 18 = .ok (.invokevirtual 68, 3) := by decide +kernel
theorem dX11_empty_21 : decode cX11_empty 21 = .ok (.ifCond .ne 5, 3) := by decide +kernel
theorem dX11_empty_24 : decode cX11_empty 24 = .ok (.iconst 0, 1) := by decide +kernel
theorem dX11_empty_25 : decode cX11_empty 25 = .ok (.ireturn, 1) := by decide +kernel
theorem dX11_empty_26 : decode cX11_empty 26 = .ok (.iconst 0, 1) := by decide +kernel
theorem dX11_empty_27 : decode cX11_empty 27 = .ok (.istore_n 2, 1) := by decide +kernel
theorem dX11_empty_28 : decode cX11_empty 28 = .ok (.iconst 0, 1) := by decide +kernel
theorem dX11_empty_29 : decode cX11_empty 29 = .ok (.istore_n 3, 1) := by decide +kernel
theorem dX11_empty_30 : decode cX11_empty 30 = .ok (.iload_n 3, 1) := by decide +kernel
theorem dX11_empty_31 : decode cX11_empty 31 = .ok (.aload_n 0, 1) := by decide +kernel
theorem dX11_empty_32 : decode cX11_empty 32 = .ok (.getfield 12, 3) := by decide +kernel
theorem dX11_empty_35 : decode cX11_empty 35 = .ok (.getfield 50, 3) := by decide +kernel
theorem dX11_empty_38 : decode cX11_empty 38 = .ok (.if_icmp .ge 55, 3) := by decide +kernel
theorem dX11_empty_41 : decode cX11_empty 41 = .ok (.iload_n 3, 1) := by decide +kernel
theorem dX11_empty_42 : decode cX11_empty 42 = .ok (.iload_n 1, 1) := by decide +kernel
theorem dX11_empty_43 : decode cX11_empty 43 = .ok (.if_icmp .eq 44, 3) := by decide +kernel
theorem dX11_empty_46 : decode cX11_empty 46 = .ok (.aload_n 0, 1) := by decide +kernel
theorem dX11_empty_47 : decode cX11_empty 47 = .ok (.getfield 12, 3) := by decide +kernel
theorem dX11_empty_50 : decode cX11_empty 50 = .ok (.iload_n 3, 1) := by decide +kernel
theorem dX11_empty_51 : decode cX11_empty 51 = .ok (.invokevirtual 68, 3) := by decide +kernel
theorem dX11_empty_54 : decode cX11_empty 54 = .ok (.ifCond .eq 33, 3) := by decide +kernel
theorem dX11_empty_57 : decode cX11_empty 57 = .ok (.aload_n 0, 1) := by decide +kernel
theorem dX11_empty_58 : decode cX11_empty 58 = .ok (.getfield 12, 3) := by decide +kernel
theorem dX11_empty_61 : decode cX11_empty 61 = .ok (.iload_n 1, 1) := by decide +kernel
theorem dX11_empty_62 : decode cX11_empty 62 = .ok (.iload_n 3, 1) := by decide +kernel
theorem dX11_empty_63 : decode cX11_empty 63 = .ok (.invokevirtual 164, 3) := by decide +kernel
theorem dX11_empty_66 : decode cX11_empty 66 = .ok (.ifCond .eq 21, 3) := by decide +kernel
theorem dX11_empty_69 : decode cX11_empty 69 = .ok (.aload_n 0, 1) := by decide +kernel
theorem dX11_empty_70 : decode cX11_empty 70 = .ok (.getfield 12, 3) := by decide +kernel
theorem dX11_empty_73 : decode cX11_empty 73 = .ok (.iload_n 1, 1) := by decide +kernel
theorem dX11_empty_74 : decode cX11_empty 74 = .ok (.iload_n 3, 1) := by decide +kernel
theorem dX11_empty_75 : decode cX11_empty 75 = .ok (.invokevirtual 170, 3) := by decide +kernel
theorem dX11_empty_78 : decode cX11_empty 78 = .ok (.ifCond .ne 9, 3) := by decide +kernel
theorem dX11_empty_81 : decode cX11_empty 81 = .ok (.iload_n 2, 1) := by decide +kernel
theorem dX11_empty_82 : decode cX11_empty 82 = .ok (.iconst 1, 1) := by decide +kernel
theorem dX11_empty_83 : decode cX11_empty 83 = .ok (.iload_n 3, 1) := by decide +kernel
theorem dX11_empty_84 : decode cX11_empty 84 = .ok (.ishl, 1) := by decide +kernel
theorem dX11_empty_85 : decode cX11_empty 85 = .ok (.ior, 1) := by decide +kernel
theorem dX11_empty_86 : decode cX11_empty 86 = .ok (.istore_n 2, 1) := by decide +kernel
theorem dX11_empty_87 : decode cX11_empty 87 = .ok (.iinc 3 1, 3) := by decide +kernel
theorem dX11_empty_90 : decode cX11_empty 90 = .ok (.goto (-60), 3) := by decide +kernel
theorem dX11_empty_93 : decode cX11_empty 93 = .ok (.iload_n 2, 1) := by decide +kernel
theorem dX11_empty_94 : decode cX11_empty 94 = .ok (.ireturn, 1) := by decide +kernel
theorem dX11_all_0 : decode cX11_all 0 = .ok (.iload_n 1, 1) := by decide +kernel
theorem dX11_all_1 : decode cX11_all 1 = .ok (.iconst 2, 1) := by decide +kernel
theorem dX11_all_2 : decode cX11_all 2 = .ok (.invokestatic 46, 3) := by decide +kernel
theorem dX11_all_5 : decode cX11_all 5 = .ok (.ifCond .eq 5, 3) := by decide +kernel
theorem dX11_all_8 : decode cX11_all 8 = .ok (.iconst (-1), 1) := by decide +kernel
theorem dX11_all_9 : decode cX11_all 9 = .ok (.ireturn, 1) := by decide +kernel
theorem dX11_all_10 : decode cX11_all 10 = .ok (.aload_n 0, 1) := by decide +kernel
theorem dX11_all_11 : decode cX11_all 11 = .ok (.getfield 35, 3) := by decide +kernel
theorem dX11_all_14 : decode cX11_all 14 = .ok (.aload_n 0, 1) := by decide +kernel
theorem dX11_all_15 : decode cX11_all 15 = .ok (.getfield 12, 3) := by decide +kernel
theorem dX11_all_18 : decode cX11_all 18 = .ok (.invokevirtual 173, 3) := by decide +kernel
theorem dX11_all_21 : decode cX11_all 21 = .ok (.ifCond .ne 6, 3) := by decide +kernel
theorem dX11_all_24 : decode cX11_all 24 = .ok (.bipush (-9), 2) := by decide +kernel
theorem dX11_all_26 : decode cX11_all 26 = .ok (.ireturn, 1) := by decide +kernel
theorem dX11_all_27 : decode cX11_all 27 = .ok (.aload_n 0, 1) := by decide +kernel
theorem dX11_all_28 : decode cX11_all 28 = .ok (.getfield 35, 3) := by decide +kernel
theorem dX11_all_31 : decode cX11_all 31 = .ok (.aload_n 0, 1) := by decide +kernel
theorem dX11_all_32 : decode cX11_all 32 = .ok (.getfield 12, 3) := by decide +kernel
theorem dX11_all_35 : decode cX11_all 35 = .ok (.iload_n 1, 1) := by decide +kernel
theorem dX11_all_36 : decode cX11_all 36 = .ok (.iconst 1, 1) := by decide +kernel
theorem dX11_all_37 : decode cX11_all 37 = .ok (.if_icmp .lt 7, 3) := by decide +kernel
theorem dX11_all_40 : decode cX11_all 40 = .ok (.iconst 1, 1) := by decide +kernel
theorem dX11_all_41 : decode cX11_all 41 = .ok (.goto 4, 3) := by decide +kernel
theorem dX11_all_44 : decode cX11_all 44 = .ok (.iconst 0, 1) := by decide +kernel
theorem dX11_all_45 : decode cX11_all 45 = .ok (.iload_n 1, 1) := by decide +kernel
theorem dX11_all_46 : decode cX11_all 46 = .ok (.iconst 2, 1) := by decide +kernel
theorem dX11_all_47 : decode cX11_all 47 = .ok (.if_icmp .ne 7, 3) := by decide +kernel
theorem dX11_all_50 : decode cX11_all 50 = .ok (.iconst 1, 1) := by decide +kernel
theorem dX11_all_51 : decode cX11_all 51 = .ok (.goto 4, 3) := by decide +kernel
theorem dX11_all_54 : decode cX11_all 54 = .ok (.iconst 0, 1) := by decide +kernel
theorem dX11_all_55 : decode cX11_all 55 = .ok (.invokevirtual 177, 3) := by decide +kernel
theorem dX11_all_58 : decode cX11_all 58 = .ok (.ireturn, 1) := by decide +kernel
theorem dX11_quiet_0 : decode cX11_quiet 0 = .ok (.aload_n 0, 1) := by decide +kernel
theorem dX11_quiet_1 : decode cX11_quiet 1 = .ok (.getfield 12, 3) := by decide +kernel
theorem dX11_quiet_4 : decode cX11_quiet 4 = .ok (.iload_n 2, 1) := by decide +kernel
theorem dX11_quiet_5 : decode cX11_quiet 5 = .ok (.invokevirtual 58, 3) := by decide +kernel
theorem dX11_quiet_8 : decode cX11_quiet 8 = .ok (.ifCond .eq 14, 3) := by decide +kernel
theorem dX11_quiet_11 : decode cX11_quiet 11 = .ok (.aload_n 0, 1) := by decide +kernel
theorem dX11_quiet_12 : decode cX11_quiet 12 = .ok (.getfield 12, 3) := by decide +kernel
theorem dX11_quiet_15 : decode cX11_quiet 15 = .ok (.iload_n 2, 1) := by decide +kernel
theorem dX11_quiet_16 : decode cX11_quiet 16 = .ok (.invokevirtual 68, 3) := by decide +kernel
theorem dX11_quiet_19 : decode cX11_quiet 19 = .ok (.ifCond .ne 5, 3) := by decide +kernel
theorem dX11_quiet_22 : decode cX11_quiet 22 = .ok (.iconst (-1), 1) := by decide +kernel
theorem dX11_quiet_23 : decode cX11_quiet 23 = .ok (.ireturn, 1) := by decide +kernel
theorem dX11_quiet_24 : decode cX11_quiet 24 = .ok (.aload_n 0, 1) := by decide +kernel
theorem dX11_quiet_25 : decode cX11_quiet 25 = .ok (.getfield 35, 3) := by decide +kernel
theorem dX11_quiet_28 : decode cX11_quiet 28 = .ok (.aload_n 0, 1) := by decide +kernel
theorem dX11_quiet_29 : decode cX11_quiet 29 = .ok (.getfield 12, 3) := by decide +kernel
theorem dX11_quiet_32 : decode cX11_quiet 32 = .ok (.invokevirtual 173, 3) := by decide +kernel
theorem dX11_quiet_35 : decode cX11_quiet 35 = .ok (.ifCond .ne 6, 3) := by decide +kernel
theorem dX11_quiet_38 : decode cX11_quiet 38 = .ok (.bipush (-9), 2) := by decide +kernel
theorem dX11_quiet_40 : decode cX11_quiet 40 = .ok (.ireturn, 1) := by decide +kernel
theorem dX11_quiet_41 : decode cX11_quiet 41 = .ok (.aload_n 0, 1) := by decide +kernel
theorem dX11_quiet_42 : decode cX11_quiet 42 = .ok (.getfield 35, 3) := by decide +kernel
theorem dX11_quiet_45 : decode cX11_quiet 45 = .ok (.aload_n 0, 1) := by decide +kernel
theorem dX11_quiet_46 : decode cX11_quiet 46 = .ok (.getfield 12, 3) := by decide +kernel
theorem dX11_quiet_49 : decode cX11_quiet 49 = .ok (.iload_n 1, 1) := by decide +kernel
theorem dX11_quiet_50 : decode cX11_quiet 50 = .ok (.iload_n 3, 1) := by decide +kernel
theorem dX11_quiet_51 : decode cX11_quiet 51 = .ok (.invokevirtual 181, 3) := by decide +kernel
theorem dX11_quiet_54 : decode cX11_quiet 54 = .ok (.ifCond .eq 18, 3) := by decide +kernel
theorem dX11_quiet_57 : decode cX11_quiet 57 = .ok (.aload_n 0, 1) := by decide +kernel
theorem dX11_quiet_58 : decode cX11_quiet 58 = .ok (.getfield 35, 3) := by decide +kernel
theorem dX11_quiet_61 : decode cX11_quiet 61 = .ok (.aload_n 0, 1) := by decide +kernel
theorem dX11_quiet_62 : decode cX11_quiet 62 = .ok (.getfield 12, 3) := by decide +kernel
theorem dX11_quiet_65 : decode cX11_quiet 65 = .ok (.iload_n 2, 1) := by decide +kernel
theorem dX11_quiet_66 : decode cX11_quiet 66 = .ok (.invokevirtual 185, 3) := by decide +kernel
theorem dX11_quiet_69 : decode cX11_quiet 69 = .ok (.goto 4, 3) := by decide +kernel
theorem dX11_quiet_72 : decode cX11_quiet 72 = .ok (.iconst (-1), 1) := by decide +kernel
theorem dX11_quiet_73 : decode cX11_quiet 73 = .ok (.ireturn, 1) := by decide +kernel
theorem dX11_lead_0 : decode cX11_lead 0 = .ok (.aload_n 0, 1) := by decide +kernel
theorem dX11_lead_1 : decode cX11_lead 1 = .ok (.getfield 12, 3) := by decide +kernel
theorem dX11_lead_4 : decode cX11_lead 4 = .ok (.iload_n 1, 1) := by decide +kernel
theorem dX11_lead_5 : decode cX11_lead 5 = .ok (.invokevirtual 126, 3) := by decide +kernel
theorem dX11_lead_8 : decode cX11_lead 8 = .ok (.astore 4, 2) := by decide +kernel
theorem dX11_lead_10 : decode cX11_lead 10 = .ok (.aload 4, 2) := by decide +kernel
theorem dX11_lead_12 : decode cX11_lead 12 = .ok (.ifnonnull 5, 3) := by decide +kernel
theorem dX11_lead_15 : decode cX11_lead 15 = .ok (.iconst (-1), 1) := by decide +kernel
theorem dX11_lead_16 : decode cX11_lead 16 = .ok (.ireturn, 1) := by decide +kernel
theorem dX11_lead_17 : decode cX11_lead 17 = .ok (.aload_n 0, 1) := by decide +kernel
theorem dX11_lead_18 : decode cX11_lead 18 = .ok (.iload_n 2, 1) := by decide +kernel
theorem dX11_lead_19 : decode cX11_lead 19 = .ok (.iload_n 3, 1) := by decide +kernel
theorem dX11_lead_20 : decode cX11_lead 20 = .ok (.invokevirtual 133, 3) := by decide +kernel
theorem dX11_lead_23 : decode cX11_lead 23 = .ok (.istore 5, 2) := by decide +kernel
theorem dX11_lead_25 : decode cX11_lead 25 = .ok (.iload 5, 2) := by decide +kernel
theorem dX11_lead_27 : decode cX11_lead 27 = .ok (.ifCond .eq 6, 3) := by decide +kernel
theorem dX11_lead_30 : decode cX11_lead 30 = .ok (.iload 5, 2) := by decide +kernel
theorem dX11_lead_32 : decode cX11_lead 32 = .ok (.ireturn, 1) := by decide +kernel
theorem dX11_lead_33 : decode cX11_lead 33 = .ok (.aload 4, 2) := by decide +kernel
theorem dX11_lead_35 : decode cX11_lead 35 = .ok (.aload_n 0, 1) := by decide +kernel
theorem dX11_lead_36 : decode cX11_lead 36 = .ok (.getfield 12, 3) := by decide +kernel
theorem dX11_lead_39 : decode cX11_lead 39 = .ok (.iload_n 2, 1) := by decide +kernel
theorem dX11_lead_40 : decode cX11_lead 40 = .ok (.iload_n 3, 1) := by decide +kernel
theorem dX11_lead_41 : decode cX11_lead 41 = .ok (.invokevirtual 188, 3) := by decide +kernel
theorem dX11_lead_44 : decode cX11_lead 44 = .ok (.ifCond .eq 7, 3) := by decide +kernel
theorem dX11_lead_47 : decode cX11_lead 47 = .ok (.iconst 1, 1) := by decide +kernel
theorem dX11_lead_48 : decode cX11_lead 48 = .ok (.goto 4, 3) := by decide +kernel
theorem dX11_lead_51 : decode cX11_lead 51 = .ok (.iconst 0, 1) := by decide +kernel
theorem dX11_lead_52 : decode cX11_lead 52 = .ok (.ireturn, 1) := by decide +kernel
theorem dX11_next_0 : decode cX11_next 0 = .ok (.aload_n 0, 1) := by decide +kernel
theorem dX11_next_1 : decode cX11_next 1 = .ok (.getfield 12, 3) := by decide +kernel
theorem dX11_next_4 : decode cX11_next 4 = .ok (.iload_n 1, 1) := by decide +kernel
theorem dX11_next_5 : decode cX11_next 5 = .ok (.invokevirtual 126, 3) := by decide +kernel
theorem dX11_next_8 : decode cX11_next 8 = .ok (.astore_n 2, 1) := by decide +kernel
theorem dX11_next_9 : decode cX11_next 9 = .ok (.aload_n 2, 1) := by decide +kernel
theorem dX11_next_10 : decode cX11_next 10 = .ok (.ifnonnull 5, 3) := by decide +kernel
theorem dX11_next_13 : decode cX11_next 13 = .ok (.iconst (-1), 1) := by decide +kernel
theorem dX11_next_14 : decode cX11_next 14 = .ok (.ireturn, 1) := by decide +kernel
theorem dX11_next_15 : decode cX11_next 15 = .ok (.iconst 0, 1) := by decide +kernel
theorem dX11_next_16 : decode cX11_next 16 = .ok (.istore_n 3, 1) := by decide +kernel
theorem dX11_next_17 : decode cX11_next 17 = .ok (.iload_n 3, 1) := by decide +kernel
theorem dX11_next_18 : decode cX11_next 18 = .ok (.bipush 20, 2) := by decide +kernel
theorem dX11_next_20 : decode cX11_next 20 = .ok (.if_icmp .ge 45, 3) := by decide +kernel
theorem dX11_next_23 : decode cX11_next 23 = .ok (.aload_n 2, 1) := by decide +kernel
theorem dX11_next_24 : decode cX11_next 24 = .ok (.aload_n 0, 1) := by decide +kernel
theorem dX11_next_25 : decode cX11_next 25 = .ok (.getfield 12, 3) := by decide +kernel
theorem dX11_next_28 : decode cX11_next 28 = .ok (.invokevirtual 160, 3) := by decide +kernel
theorem dX11_next_31 : decode cX11_next 31 = .ok (.istore 4, 2) := by decide +kernel
theorem dX11_next_33 : decode cX11_next 33 = .ok (.iload 4, 2) := by decide +kernel
theorem dX11_next_35 : decode cX11_next 35 = .ok (.ifCond .ge 5, 3) := by decide +kernel
theorem dX11_next_38 : decode cX11_next 38 = .ok (.iload_n 3, 1) := by decide +kernel
theorem dX11_next_39 : decode cX11_next 39 = .ok (.ireturn, 1) := by decide +kernel
theorem dX11_next_40 : decode cX11_next 40 = .ok (.aload_n 2, 1) := by decide +kernel
theorem dX11_next_41 : decode cX11_next 41 = .ok (.aload_n 0, 1) := by decide +kernel
theorem dX11_next_42 : decode cX11_next 42 = .ok (.getfield 12, 3) := by decide +kernel
theorem dX11_next_45 : decode cX11_next 45 = .ok (.iload 4, 2) := by decide +kernel
theorem dX11_next_47 : decode cX11_next 47 = .ok (.bipush 10, 2) := by decide +kernel
theorem dX11_next_49 : decode cX11_next 49 = .ok (.idiv, 1) := by decide +kernel
theorem dX11_next_50 : decode cX11_next 50 = .ok (.iload 4, 2) := by decide +kernel
theorem dX11_next_52 : decode cX11_next 52 = .ok (.bipush 10, 2) := by decide +kernel
theorem dX11_next_54 : decode cX11_next 54 = .ok (.irem, 1) := by decide +kernel
theorem dX11_next_55 : decode cX11_next 55 = .ok (.invokevirtual 188, 3) := by decide +kernel
theorem dX11_next_58 : decode cX11_next 58 = .ok (.pop, 1) := by decide +kernel
theorem dX11_next_59 : decode cX11_next 59 = .ok (.iinc 3 1, 3) := by decide +kernel
theorem dX11_next_62 : decode cX11_next 62 = .ok (.goto (-45), 3) := by decide +kernel
theorem dX11_next_65 : decode cX11_next 65 = .ok (.bipush 20, 2) := by decide +kernel
theorem dX11_next_67 : decode cX11_next 67 = .ok (.ireturn, 1) := by decide +kernel
theorem dX11_edge_0 : decode cX11_edge 0 = .ok (.aload_n 0, 1) := by decide +kernel
theorem dX11_edge_1 : decode cX11_edge 1 = .ok (.getfield 12, 3) := by decide +kernel
theorem dX11_edge_4 : decode cX11_edge 4 = .ok (.iload_n 1, 1) := by decide +kernel
theorem dX11_edge_5 : decode cX11_edge 5 = .ok (.invokevirtual 58, 3) := by decide +kernel
theorem dX11_edge_8 : decode cX11_edge 8 = .ok (.ifCond .ne 5, 3) := by decide +kernel
theorem dX11_edge_11 : decode cX11_edge 11 = .ok (.iconst (-1), 1) := by decide +kernel
theorem dX11_edge_12 : decode cX11_edge 12 = .ok (.ireturn, 1) := by decide +kernel
theorem dX11_edge_13 : decode cX11_edge 13 = .ok (.aload_n 0, 1) := by decide +kernel
theorem dX11_edge_14 : decode cX11_edge 14 = .ok (.getfield 12, 3) := by decide +kernel
theorem dX11_edge_17 : decode cX11_edge 17 = .ok (.iload_n 1, 1) := by decide +kernel
theorem dX11_edge_18 : decode cX11_edge 18 = .ok (.invokevirtual 68, 3) := by decide +kernel
theorem dX11_edge_21 : decode cX11_edge 21 = .ok (.ifCond .ne 6, 3) := by decide +kernel
theorem dX11_edge_24 : decode cX11_edge 24 = .ok (.bipush (-3), 2) := by decide +kernel
theorem dX11_edge_26 : decode cX11_edge 26 = .ok (.ireturn, 1) := by decide +kernel
theorem dX11_edge_27 : decode cX11_edge 27 = .ok (.aload_n 0, 1) := by decide +kernel
theorem dX11_edge_28 : decode cX11_edge 28 = .ok (.getfield 12, 3) := by decide +kernel
theorem dX11_edge_31 : decode cX11_edge 31 = .ok (.iload_n 1, 1) := by decide +kernel
theorem dX11_edge_32 : decode cX11_edge 32 = .ok (.invokevirtual 192, 3) := by decide +kernel
theorem dX11_edge_35 : decode cX11_edge 35 = .ok (.ireturn, 1) := by decide +kernel
theorem dX11_courted_0 : decode cX11_courted 0 = .ok (.bipush (-5), 2) := by decide +kernel
theorem dX11_courted_2 : decode cX11_courted 2 = .ok (.istore_n 1, 1) := by decide +kernel
theorem dX11_courted_3 : decode cX11_courted 3 = .ok (.iconst (-1), 1) := by decide +kernel
theorem dX11_courted_4 : decode cX11_courted 4 = .ok (.istore_n 2, 1) := by decide +kernel
theorem dX11_courted_5 : decode cX11_courted 5 = .ok (.iconst 0, 1) := by decide +kernel
theorem dX11_courted_6 : decode cX11_courted 6 = .ok (.istore_n 3, 1) := by decide +kernel
theorem dX11_courted_7 : decode cX11_courted 7 = .ok (.iload_n 3, 1) := by decide +kernel
theorem dX11_courted_8 : decode cX11_courted 8 = .ok (.aload_n 0, 1) := by decide +kernel
theorem dX11_courted_9 : decode cX11_courted 9 = .ok (.getfield 12, 3) := by decide +kernel
theorem dX11_courted_12 : decode cX11_courted 12 = .ok (.getfield 50, 3) := by decide +kernel
theorem dX11_courted_15 : decode cX11_courted 15 = .ok (.if_icmp .ge 70, 3) := by decide +kernel
theorem dX11_courted_18 : decode cX11_courted 18 = .ok (.aload_n 0, 1) := by decide +kernel
theorem dX11_courted_19 : decode cX11_courted 19 = .ok (.getfield 12, 3) := by decide +kernel
theorem dX11_courted_22 : decode cX11_courted 22 = .ok (.iload_n 3, 1) := by decide +kernel
theorem dX11_courted_23 : decode cX11_courted 23 = .ok (.invokevirtual 68, 3) := by decide +kernel
theorem dX11_courted_26 : decode cX11_courted 26 = .ok (.ifCond .ne 6, 3) := by decide +kernel
theorem dX11_courted_29 : decode cX11_courted 29 = .ok (.goto 50, 3) := by decide +kernel
theorem dX11_courted_32 : decode cX11_courted 32 = .ok (.aload_n 0, 1) := by decide +kernel
theorem dX11_courted_33 : decode cX11_courted 33 = .ok (.getfield 12, 3) := by decide +kernel
theorem dX11_courted_36 : decode cX11_courted 36 = .ok (.getfield 62, 3) := by decide +kernel
theorem dX11_courted_39 : decode cX11_courted 39 = .ok (.iload_n 3, 1) := by decide +kernel
theorem dX11_courted_40 : decode cX11_courted 40 = .ok (.iaload, 1) := by decide +kernel
theorem dX11_courted_41 : decode cX11_courted 41 = .ok (.istore 4, 2) := by decide +kernel
theorem dX11_courted_43 : decode cX11_courted 43 = .ok (.iload 4, 2) := by decide +kernel
theorem dX11_courted_45 : decode cX11_courted 45 = .ok (.ifCond .le 20, 3) := by decide +kernel
theorem dX11_courted_48 : decode cX11_courted 48 = .ok (.aload_n 0, 1) := by decide +kernel
theorem dX11_courted_49 : decode cX11_courted 49 = .ok (.getfield 12, 3) := by decide +kernel
theorem dX11_courted_52 : decode cX11_courted 52 = .ok (.iload_n 3, 1) := by decide +kernel
theorem dX11_courted_53 : decode cX11_courted 53 = .ok (.invokevirtual 192, 3) := by decide +kernel
theorem dX11_courted_56 : decode cX11_courted 56 = .ok (.bipush 100, 2) := by decide +kernel
theorem dX11_courted_58 : decode cX11_courted 58 = .ok (.imul, 1) := by decide +kernel
theorem dX11_courted_59 : decode cX11_courted 59 = .ok (.iload 4, 2) := by decide +kernel
theorem dX11_courted_61 : decode cX11_courted 61 = .ok (.idiv, 1) := by decide +kernel
theorem dX11_courted_62 : decode cX11_courted 62 = .ok (.goto 4, 3) := by decide +kernel
theorem dX11_courted_65 : decode cX11_courted 65 = .ok (.iconst 0, 1) := by decide +kernel
theorem dX11_courted_66 : decode cX11_courted 66 = .ok (.istore 5, 2) := by decide +kernel
theorem dX11_courted_68 : decode cX11_courted 68 = .ok (.iload 5, 2) := by decide +kernel
theorem dX11_courted_70 : decode cX11_courted 70 = .ok (.iload_n 2, 1) := by decide +kernel
theorem dX11_courted_71 : decode cX11_courted 71 = .ok (.if_icmp .le 8, 3) := by decide +kernel
theorem dX11_courted_74 : decode cX11_courted 74 = .ok (.iload 5, 2) := by decide +kernel
theorem dX11_courted_76 : decode cX11_courted 76 = .ok (.istore_n 2, 1) := by decide +kernel
theorem dX11_courted_77 : decode cX11_courted 77 = .ok (.iload_n 3, 1) := by decide +kernel
theorem dX11_courted_78 : decode cX11_courted 78 = .ok (.istore_n 1, 1) := by decide +kernel
theorem dX11_courted_79 : decode cX11_courted 79 = .ok (.iinc 3 1, 3) := by decide +kernel
theorem dX11_courted_82 : decode cX11_courted 82 = .ok (.goto (-75), 3) := by decide +kernel
theorem dX11_courted_85 : decode cX11_courted 85 = .ok (.iload_n 1, 1) := by decide +kernel
theorem dX11_courted_86 : decode cX11_courted 86 = .ok (.ireturn, 1) := by decide +kernel
theorem dX11_race_0 : decode cX11_race 0 = .ok (.aload_n 0, 1) := by decide +kernel
theorem dX11_race_1 : decode cX11_race 1 = .ok (.getfield 12, 3) := by decide +kernel
theorem dX11_race_4 : decode cX11_race 4 = .ok (.iload_n 1, 1) := by decide +kernel
theorem dX11_race_5 : decode cX11_race 5 = .ok (.invokevirtual 126, 3) := by decide +kernel
theorem dX11_race_8 : decode cX11_race 8 = .ok (.astore_n 2, 1) := by decide +kernel
theorem dX11_race_9 : decode cX11_race 9 = .ok (.aload_n 2, 1) := by decide +kernel
theorem dX11_race_10 : decode cX11_race 10 = .ok (.ifnonnull 5, 3) := by decide +kernel
theorem dX11_race_13 : decode cX11_race 13 = .ok (.iconst (-1), 1) := by decide +kernel
theorem dX11_race_14 : decode cX11_race 14 = .ok (.ireturn, 1) := by decide +kernel
theorem dX11_race_15 : decode cX11_race 15 = .ok (.iconst 0, 1) := by decide +kernel
theorem dX11_race_16 : decode cX11_race 16 = .ok (.istore_n 3, 1) := by decide +kernel
theorem dX11_race_17 : decode cX11_race 17 = .ok (.iload_n 3, 1) := by decide +kernel
theorem dX11_race_18 : decode cX11_race 18 = .ok (.bipush 30, 2) := by decide +kernel
theorem dX11_race_20 : decode cX11_race 20 = .ok (.if_icmp .ge 19, 3) := by decide +kernel
theorem dX11_race_23 : decode cX11_race 23 = .ok (.aload_n 0, 1) := by decide +kernel
theorem dX11_race_24 : decode cX11_race 24 = .ok (.aload_n 2, 1) := by decide +kernel
theorem dX11_race_25 : decode cX11_race 25 = .ok (.invokevirtual 195, 3) := by decide +kernel
theorem dX11_race_28 : decode cX11_race 28 = .ok (.ifCond .ne 5, 3) := by decide +kernel
theorem dX11_race_31 : decode cX11_race 31 = .ok (.iload_n 3, 1) := by decide +kernel
theorem dX11_race_32 : decode cX11_race 32 = .ok (.ireturn, 1) := by decide +kernel
theorem dX11_race_33 : decode cX11_race 33 = .ok (.iinc 3 1, 3) := by decide +kernel
theorem dX11_race_36 : decode cX11_race 36 = .ok (.goto (-19), 3) := by decide +kernel
theorem dX11_race_39 : decode cX11_race 39 = .ok (.bipush 30, 2) := by decide +kernel
theorem dX11_race_41 : decode cX11_race 41 = .ok (.ireturn, 1) := by decide +kernel
theorem dX11_few_0 : decode cX11_few 0 = .ok (.aload_n 0, 1) := by decide +kernel
theorem dX11_few_1 : decode cX11_few 1 = .ok (.getfield 12, 3) := by decide +kernel
theorem dX11_few_4 : decode cX11_few 4 = .ok (.iload_n 1, 1) := by decide +kernel
theorem dX11_few_5 : decode cX11_few 5 = .ok (.invokevirtual 126, 3) := by decide +kernel
theorem dX11_few_8 : decode cX11_few 8 = .ok (.astore_n 3, 1) := by decide +kernel
theorem dX11_few_9 : decode cX11_few 9 = .ok (.aload_n 3, 1) := by decide +kernel
theorem dX11_few_10 : decode cX11_few 10 = .ok (.ifnull 11, 3) := by decide +kernel
theorem dX11_few_13 : decode cX11_few 13 = .ok (.iload_n 2, 1) := by decide +kernel
theorem dX11_few_14 : decode cX11_few 14 = .ok (.iconst 1, 1) := by decide +kernel
theorem dX11_few_15 : decode cX11_few 15 = .ok (.invokestatic 46, 3) := by decide +kernel
theorem dX11_few_18 : decode cX11_few 18 = .ok (.ifCond .eq 5, 3) := by decide +kernel
theorem dX11_few_21 : decode cX11_few 21 = .ok (.iconst (-1), 1) := by decide +kernel
theorem dX11_few_22 : decode cX11_few 22 = .ok (.ireturn, 1) := by decide +kernel
theorem dX11_few_23 : decode cX11_few 23 = .ok (.aload_n 3, 1) := by decide +kernel
theorem dX11_few_24 : decode cX11_few 24 = .ok (.aload_n 0, 1) := by decide +kernel
theorem dX11_few_25 : decode cX11_few 25 = .ok (.getfield 12, 3) := by decide +kernel
theorem dX11_few_28 : decode cX11_few 28 = .ok (.invokevirtual 160, 3) := by decide +kernel
theorem dX11_few_31 : decode cX11_few 31 = .ok (.ifCond .lt 6, 3) := by decide +kernel
theorem dX11_few_34 : decode cX11_few 34 = .ok (.bipush (-3), 2) := by decide +kernel
theorem dX11_few_36 : decode cX11_few 36 = .ok (.ireturn, 1) := by decide +kernel
theorem dX11_few_37 : decode cX11_few 37 = .ok (.iconst 1, 1) := by decide +kernel
theorem dX11_few_38 : decode cX11_few 38 = .ok (.istore 4, 2) := by decide +kernel
theorem dX11_few_40 : decode cX11_few 40 = .ok (.iload 4, 2) := by decide +kernel
theorem dX11_few_42 : decode cX11_few 42 = .ok (.bipush 30, 2) := by decide +kernel
theorem dX11_few_44 : decode cX11_few 44 = .ok (.if_icmp .gt 63, 3) := by decide +kernel
theorem dX11_few_47 : decode cX11_few 47 = .ok (.aload_n 0, 1) := by decide +kernel
theorem dX11_few_48 : decode cX11_few 48 = .ok (.aload_n 3, 1) := by decide +kernel
theorem dX11_few_49 : decode cX11_few 49 = .ok (.iload 4, 2) := by decide +kernel
theorem dX11_few_51 : decode cX11_few 51 = .ok (.ineg, 1) := by decide +kernel
theorem dX11_few_52 : decode cX11_few 52 = .ok (.invokevirtual 199, 3) := by decide +kernel
theorem dX11_few_55 : decode cX11_few 55 = .ok (.istore 5, 2) := by decide +kernel
theorem dX11_few_57 : decode cX11_few 57 = .ok (.iload 5, 2) := by decide +kernel
theorem dX11_few_59 : decode cX11_few 59 = .ok (.ifCond .lt 16, 3) := by decide +kernel
theorem dX11_few_62 : decode cX11_few 62 = .ok (.iload_n 2, 1) := by decide +kernel
theorem dX11_few_63 : decode cX11_few 63 = .ok (.ifCond .ne 9, 3) := by decide +kernel
theorem dX11_few_66 : decode cX11_few 66 = .ok (.iload 4, 2) := by decide +kernel
theorem dX11_few_68 : decode cX11_few 68 = .ok (.ineg, 1) := by decide +kernel
theorem dX11_few_69 : decode cX11_few 69 = .ok (.goto 5, 3) := by decide +kernel
theorem dX11_few_72 : decode cX11_few 72 = .ok (.iload 5, 2) := by decide +kernel
theorem dX11_few_74 : decode cX11_few 74 = .ok (.ireturn, 1) := by decide +kernel
theorem dX11_few_75 : decode cX11_few 75 = .ok (.aload_n 0, 1) := by decide +kernel
theorem dX11_few_76 : decode cX11_few 76 = .ok (.aload_n 3, 1) := by decide +kernel
theorem dX11_few_77 : decode cX11_few 77 = .ok (.iload 4, 2) := by decide +kernel
theorem dX11_few_79 : decode cX11_few 79 = .ok (.invokevirtual 199, 3) := by decide +kernel
theorem dX11_few_82 : decode cX11_few 82 = .ok (.istore 5, 2) := by decide +kernel
theorem dX11_few_84 : decode cX11_few 84 = .ok (.iload 5, 2) := by decide +kernel
theorem dX11_few_86 : decode cX11_few 86 = .ok (.ifCond .lt 15, 3) := by decide +kernel
theorem dX11_few_89 : decode cX11_few 89 = .ok (.iload_n 2, 1) := by decide +kernel
theorem dX11_few_90 : decode cX11_few 90 = .ok (.ifCond .ne 8, 3) := by decide +kernel
theorem dX11_few_93 : decode cX11_few 93 = .ok (.iload 4, 2) := by decide +kernel
theorem dX11_few_95 : decode cX11_few 95 = .ok (.goto 5, 3) := by decide +kernel
theorem dX11_few_98 : decode cX11_few 98 = .ok (.iload 5, 2) := by decide +kernel
theorem dX11_few_100 : decode cX11_few 100 = .ok (.ireturn, 1) := by decide +kernel
theorem dX11_few_101 : decode cX11_few 101 = .ok (.iinc 4 1, 3) := by decide +kernel
theorem dX11_few_104 : decode cX11_few 104 = .ok (.goto (-64), 3) := by decide +kernel
theorem dX11_few_107 : decode cX11_few 107 = .ok (.iload_n 2, 1) := by decide +kernel
theorem dX11_few_108 : decode cX11_few 108 = .ok (.ifCond .ne 7, 3) := by decide +kernel
theorem dX11_few_111 : decode cX11_few 111 = .ok (.iconst 0, 1) := by decide +kernel
theorem dX11_few_112 : decode cX11_few 112 = .ok (.goto 5, 3) := by decide +kernel
theorem dX11_few_115 : decode cX11_few 115 = .ok (.bipush (-5), 2) := by decide +kernel
theorem dX11_few_117 : decode cX11_few 117 = .ok (.ireturn, 1) := by decide +kernel
theorem dX11_guarded_0 : decode cX11_guarded 0 = .ok (.aload_n 0, 1) := by decide +kernel
theorem dX11_guarded_1 : decode cX11_guarded 1 = .ok (.getfield 12, 3) := by decide +kernel
theorem dX11_guarded_4 : decode cX11_guarded 4 = .ok (.iload_n 1, 1) := by decide +kernel
theorem dX11_guarded_5 : decode cX11_guarded 5 = .ok (.invokevirtual 126, 3) := by decide +kernel
theorem dX11_guarded_8 : decode cX11_guarded 8 = .ok (.astore_n 2, 1) := by decide +kernel
theorem dX11_guarded_9 : decode cX11_guarded 9 = .ok (.aload_n 2, 1) := by decide +kernel
theorem dX11_guarded_10 : decode cX11_guarded 10 = .ok (.ifnonnull 5, 3) := by decide +kernel
theorem dX11_guarded_13 : decode cX11_guarded 13 = .ok (.iconst (-1), 1) := by decide +kernel
theorem dX11_guarded_14 : decode cX11_guarded 14 = .ok (.ireturn, 1) := by decide +kernel
theorem dX11_guarded_15 : decode cX11_guarded 15 = .ok (.iconst 0, 1) := by decide +kernel
theorem dX11_guarded_16 : decode cX11_guarded 16 = .ok (.istore_n 3, 1) := by decide +kernel
theorem dX11_guarded_17 : decode cX11_guarded 17 = .ok (.iconst 0, 1) := by decide +kernel
theorem dX11_guarded_18 : decode cX11_guarded 18 = .ok (.istore 4, 2) := by decide +kernel
theorem dX11_guarded_20 : decode cX11_guarded 20 = .ok (.iload 4, 2) := by decide +kernel
theorem dX11_guarded_22 : decode cX11_guarded 22 = .ok (.aload_n 0, 1) := by decide +kernel
theorem dX11_guarded_23 : decode cX11_guarded 23 = .ok (.getfield 12, 3) := by decide +kernel
theorem dX11_guarded_26 : decode cX11_guarded 26 = .ok (.getfield 50, 3) := by decide +kernel
theorem dX11_guarded_29 : decode cX11_guarded 29 = .ok (.if_icmp .ge 41, 3) := by decide +kernel
theorem dX11_guarded_32 : decode cX11_guarded 32 = .ok (.aload_n 0, 1) := by decide +kernel
theorem dX11_guarded_33 : decode cX11_guarded 33 = .ok (.getfield 12, 3) := by decide +kernel
theorem dX11_guarded_36 : decode cX11_guarded 36 = .ok (.iload 4, 2) := by decide +kernel
theorem dX11_guarded_38 : decode cX11_guarded 38 = .ok (.invokevirtual 68, 3) := by decide +kernel
theorem dX11_guarded_41 : decode cX11_guarded 41 = .ok (.ifCond .eq 23, 3) := by decide +kernel
theorem dX11_guarded_44 : decode cX11_guarded 44 = .ok (.aload_n 2, 1) := by decide +kernel
theorem dX11_guarded_45 : decode cX11_guarded 45 = .ok (.aload_n 0, 1) := by decide +kernel
theorem dX11_guarded_46 : decode cX11_guarded 46 = .ok (.getfield 12, 3) := by decide +kernel
theorem dX11_guarded_49 : decode cX11_guarded 49 = .ok (.iload 4, 2) := by decide +kernel
theorem dX11_guarded_51 : decode cX11_guarded 51 = .ok (.invokevirtual 157, 3) := by decide +kernel
theorem dX11_guarded_54 : decode cX11_guarded 54 = .ok (.ifCond .ne 10, 3) := by decide +kernel
theorem dX11_guarded_57 : decode cX11_guarded 57 = .ok (.iload_n 3, 1) := by decide +kernel
theorem dX11_guarded_58 : decode cX11_guarded 58 = .ok (.iconst 1, 1) := by decide +kernel
theorem dX11_guarded_59 : decode cX11_guarded 59 = .ok (.iload 4, 2) := by decide +kernel
theorem dX11_guarded_61 : decode cX11_guarded 61 = .ok (.ishl, 1) := by decide +kernel
theorem dX11_guarded_62 : decode cX11_guarded 62 = .ok (.ior, 1) := by decide +kernel
theorem dX11_guarded_63 : decode cX11_guarded 63 = .ok (.istore_n 3, 1) := by decide +kernel
theorem dX11_guarded_64 : decode cX11_guarded 64 = .ok (.iinc 4 1, 3) := by decide +kernel
theorem dX11_guarded_67 : decode cX11_guarded 67 = .ok (.goto (-47), 3) := by decide +kernel
theorem dX11_guarded_70 : decode cX11_guarded 70 = .ok (.iload_n 3, 1) := by decide +kernel
theorem dX11_guarded_71 : decode cX11_guarded 71 = .ok (.ireturn, 1) := by decide +kernel
theorem dX11_marry_0 : decode cX11_marry 0 = .ok (.aload_n 0, 1) := by decide +kernel
theorem dX11_marry_1 : decode cX11_marry 1 = .ok (.getfield 12, 3) := by decide +kernel
theorem dX11_marry_4 : decode cX11_marry 4 = .ok (.iload_n 1, 1) := by decide +kernel
theorem dX11_marry_5 : decode cX11_marry 5 = .ok (.invokevirtual 126, 3) := by decide +kernel
theorem dX11_marry_8 : decode cX11_marry 8 = .ok (.astore 5, 2) := by decide +kernel
theorem dX11_marry_10 : decode cX11_marry 10 = .ok (.aload 5, 2) := by decide +kernel
theorem dX11_marry_12 : decode cX11_marry 12 = .ok (.ifnull 12, 3) := by decide +kernel
theorem dX11_marry_15 : decode cX11_marry 15 = .ok (.iload 4, 2) := by decide +kernel
theorem dX11_marry_17 : decode cX11_marry 17 = .ok (.iconst 1, 1) := by decide +kernel
theorem dX11_marry_18 : decode cX11_marry 18 = .ok (.invokestatic 46, 3) := by decide +kernel
theorem dX11_marry_21 : decode cX11_marry 21 = .ok (.ifCond .eq 7, 3) := by decide +kernel
theorem dX11_marry_24 : decode cX11_marry 24 = .ok (.sipush (-1000), 3) := by decide +kernel
theorem dX11_marry_27 : decode cX11_marry 27 = .ok (.ireturn, 1) := by decide +kernel
theorem dX11_marry_28 : decode cX11_marry 28 = .ok (.aload_n 0, 1) := by decide +kernel
theorem dX11_marry_29 : decode cX11_marry 29 = .ok (.iload_n 2, 1) := by decide +kernel
theorem dX11_marry_30 : decode cX11_marry 30 = .ok (.iload_n 3, 1) := by decide +kernel
theorem dX11_marry_31 : decode cX11_marry 31 = .ok (.invokevirtual 133, 3) := by decide +kernel
theorem dX11_marry_34 : decode cX11_marry 34 = .ok (.tableswitch 38 (-3) (-1) #[34, 30, 26], 26) := by decide +kernel
theorem dX11_marry_60 : decode cX11_marry 60 = .ok (.sipush (-1000), 3) := by decide +kernel
theorem dX11_marry_63 : decode cX11_marry 63 = .ok (.ireturn, 1) := by decide +kernel
theorem dX11_marry_64 : decode cX11_marry 64 = .ok (.sipush (-1001), 3) := by decide +kernel
theorem dX11_marry_67 : decode cX11_marry 67 = .ok (.ireturn, 1) := by decide +kernel
theorem dX11_marry_68 : decode cX11_marry 68 = .ok (.sipush (-1002), 3) := by decide +kernel
theorem dX11_marry_71 : decode cX11_marry 71 = .ok (.ireturn, 1) := by decide +kernel
theorem dX11_marry_72 : decode cX11_marry 72 = .ok (.aload_n 0, 1) := by decide +kernel
theorem dX11_marry_73 : decode cX11_marry 73 = .ok (.aload 5, 2) := by decide +kernel
theorem dX11_marry_75 : decode cX11_marry 75 = .ok (.iload_n 2, 1) := by decide +kernel
theorem dX11_marry_76 : decode cX11_marry 76 = .ok (.iload_n 3, 1) := by decide +kernel
theorem dX11_marry_77 : decode cX11_marry 77 = .ok (.iload 4, 2) := by decide +kernel
theorem dX11_marry_79 : decode cX11_marry 79 = .ok (.ifCond .ne 7, 3) := by decide +kernel
theorem dX11_marry_82 : decode cX11_marry 82 = .ok (.iconst 1, 1) := by decide +kernel
theorem dX11_marry_83 : decode cX11_marry 83 = .ok (.goto 4, 3) := by decide +kernel
theorem dX11_marry_86 : decode cX11_marry 86 = .ok (.iconst 0, 1) := by decide +kernel
theorem dX11_marry_87 : decode cX11_marry 87 = .ok (.invokevirtual 203, 3) := by decide +kernel
theorem dX11_marry_90 : decode cX11_marry 90 = .ok (.ireturn, 1) := by decide +kernel
theorem dX11_act_0 : decode cX11_act 0 = .ok (.aload_n 0, 1) := by decide +kernel
theorem dX11_act_1 : decode cX11_act 1 = .ok (.getfield 39, 3) := by decide +kernel
theorem dX11_act_4 : decode cX11_act 4 = .ok (.iconst 0, 1) := by decide +kernel
theorem dX11_act_5 : decode cX11_act 5 = .ok (.iconst 0, 1) := by decide +kernel
theorem dX11_act_6 : decode cX11_act 6 = .ok (.iastore, 1) := by decide +kernel
theorem dX11_act_7 : decode cX11_act 7 = .ok (.aload_n 0, 1) := by decide +kernel
theorem dX11_act_8 : decode cX11_act 8 = .ok (.getfield 12, 3) := by decide +kernel
theorem dX11_act_11 : decode cX11_act 11 = .ok (.iload_n 1, 1) := by decide +kernel
theorem dX11_act_12 : decode cX11_act 12 = .ok (.invokevirtual 126, 3) := by decide +kernel
theorem dX11_act_15 : decode cX11_act 15 = .ok (.astore 4, 2) := by decide +kernel
theorem dX11_act_17 : decode cX11_act 17 = .ok (.aload 4, 2) := by decide +kernel
theorem dX11_act_19 : decode cX11_act 19 = .ok (.ifnonnull 5, 3) := by decide +kernel
theorem dX11_act_22 : decode cX11_act 22 = .ok (.iconst 0, 1) := by decide +kernel
theorem dX11_act_23 : decode cX11_act 23 = .ok (.ireturn, 1) := by decide +kernel
theorem dX11_act_24 : decode cX11_act 24 = .ok (.iload_n 2, 1) := by decide +kernel
theorem dX11_act_25 : decode cX11_act 25 = .ok (.tableswitch 60 0 2 #[27, 38, 49], 27) := by decide +kernel
theorem dX11_act_52 : decode cX11_act 52 = .ok (.aload 4, 2) := by decide +kernel
theorem dX11_act_54 : decode cX11_act 54 = .ok (.aload_n 0, 1) := by decide +kernel
theorem dX11_act_55 : decode cX11_act 55 = .ok (.getfield 39, 3) := by decide +kernel
theorem dX11_act_58 : decode cX11_act 58 = .ok (.iload_n 3, 1) := by decide +kernel
theorem dX11_act_59 : decode cX11_act 59 = .ok (.invokevirtual 207, 3) := by decide +kernel
theorem dX11_act_62 : decode cX11_act 62 = .ok (.ireturn, 1) := by decide +kernel
theorem dX11_act_63 : decode cX11_act 63 = .ok (.aload 4, 2) := by decide +kernel
theorem dX11_act_65 : decode cX11_act 65 = .ok (.aload_n 0, 1) := by decide +kernel
theorem dX11_act_66 : decode cX11_act 66 = .ok (.getfield 39, 3) := by decide +kernel
theorem dX11_act_69 : decode cX11_act 69 = .ok (.iload_n 3, 1) := by decide +kernel
theorem dX11_act_70 : decode cX11_act 70 = .ok (.invokevirtual 211, 3) := by decide +kernel
theorem dX11_act_73 : decode cX11_act 73 = .ok (.ireturn, 1) := by decide +kernel
theorem dX11_act_74 : decode cX11_act 74 = .ok (.aload 4, 2) := by decide +kernel
theorem dX11_act_76 : decode cX11_act 76 = .ok (.aload_n 0, 1) := by decide +kernel
theorem dX11_act_77 : decode cX11_act 77 = .ok (.getfield 39, 3) := by decide +kernel
theorem dX11_act_80 : decode cX11_act 80 = .ok (.iload_n 3, 1) := by decide +kernel
theorem dX11_act_81 : decode cX11_act 81 = .ok (.invokevirtual 214, 3) := by decide +kernel
theorem dX11_act_84 : decode cX11_act 84 = .ok (.ireturn, 1) := by decide +kernel
theorem dX11_act_85 : decode cX11_act 85 = .ok (.iconst 0, 1) := by decide +kernel
theorem dX11_act_86 : decode cX11_act 86 = .ok (.ireturn, 1) := by decide +kernel
theorem dX11_trace_0 : decode cX11_trace 0 = .ok (.iload_n 1, 1) := by decide +kernel
theorem dX11_trace_1 : decode cX11_trace 1 = .ok (.ifCond .lt 19, 3) := by decide +kernel
theorem dX11_trace_4 : decode cX11_trace 4 = .ok (.iload_n 1, 1) := by decide +kernel
theorem dX11_trace_5 : decode cX11_trace 5 = .ok (.aload_n 0, 1) := by decide +kernel
theorem dX11_trace_6 : decode cX11_trace 6 = .ok (.getfield 39, 3) := by decide +kernel
theorem dX11_trace_9 : decode cX11_trace 9 = .ok (.iconst 0, 1) := by decide +kernel
theorem dX11_trace_10 : decode cX11_trace 10 = .ok (.iaload, 1) := by decide +kernel
theorem dX11_trace_11 : decode cX11_trace 11 = .ok (.if_icmp .ge 9, 3) := by decide +kernel
theorem dX11_trace_14 : decode cX11_trace 14 = .ok (.iload_n 1, 1) := by decide +kernel
theorem dX11_trace_15 : decode cX11_trace 15 = .ok (.bipush 20, 2) := by decide +kernel
theorem dX11_trace_17 : decode cX11_trace 17 = .ok (.if_icmp .lt 5, 3) := by decide +kernel
theorem dX11_trace_20 : decode cX11_trace 20 = .ok (.iconst (-1), 1) := by decide +kernel
theorem dX11_trace_21 : decode cX11_trace 21 = .ok (.ireturn, 1) := by decide +kernel
theorem dX11_trace_22 : decode cX11_trace 22 = .ok (.aload_n 0, 1) := by decide +kernel
theorem dX11_trace_23 : decode cX11_trace 23 = .ok (.getfield 39, 3) := by decide +kernel
theorem dX11_trace_26 : decode cX11_trace 26 = .ok (.iload_n 1, 1) := by decide +kernel
theorem dX11_trace_27 : decode cX11_trace 27 = .ok (.iconst 1, 1) := by decide +kernel
theorem dX11_trace_28 : decode cX11_trace 28 = .ok (.iadd, 1) := by decide +kernel
theorem dX11_trace_29 : decode cX11_trace 29 = .ok (.iaload, 1) := by decide +kernel
theorem dX11_trace_30 : decode cX11_trace 30 = .ok (.ireturn, 1) := by decide +kernel
theorem dX11_as_0 : decode cX11_as 0 = .ok (.aload_n 0, 1) := by decide +kernel
theorem dX11_as_1 : decode cX11_as 1 = .ok (.getfield 12, 3) := by decide +kernel
theorem dX11_as_4 : decode cX11_as 4 = .ok (.iload_n 1, 1) := by decide +kernel
theorem dX11_as_5 : decode cX11_as 5 = .ok (.invokevirtual 126, 3) := by decide +kernel
theorem dX11_as_8 : decode cX11_as 8 = .ok (.astore_n 3, 1) := by decide +kernel
theorem dX11_as_9 : decode cX11_as 9 = .ok (.aload_n 3, 1) := by decide +kernel
theorem dX11_as_10 : decode cX11_as 10 = .ok (.ifnull 12, 3) := by decide +kernel
theorem dX11_as_13 : decode cX11_as 13 = .ok (.iload_n 2, 1) := by decide +kernel
theorem dX11_as_14 : decode cX11_as 14 = .ok (.bipush 6, 2) := by decide +kernel
theorem dX11_as_16 : decode cX11_as 16 = .ok (.invokestatic 46, 3) := by decide +kernel
theorem dX11_as_19 : decode cX11_as 19 = .ok (.ifCond .eq 5, 3) := by decide +kernel
theorem dX11_as_22 : decode cX11_as 22 = .ok (.iconst (-1), 1) := by decide +kernel
theorem dX11_as_23 : decode cX11_as 23 = .ok (.ireturn, 1) := by decide +kernel
theorem dX11_as_24 : decode cX11_as 24 = .ok (.aload_n 3, 1) := by decide +kernel
theorem dX11_as_25 : decode cX11_as 25 = .ok (.iload_n 2, 1) := by decide +kernel
theorem dX11_as_26 : decode cX11_as 26 = .ok (.invokestatic 217, 3) := by decide +kernel
theorem dX11_as_29 : decode cX11_as 29 = .ok (.ifCond .eq 10, 3) := by decide +kernel
theorem dX11_as_32 : decode cX11_as 32 = .ok (.aload_n 3, 1) := by decide +kernel
theorem dX11_as_33 : decode cX11_as 33 = .ok (.getfield 221, 3) := by decide +kernel
theorem dX11_as_36 : decode cX11_as 36 = .ok (.goto 5, 3) := by decide +kernel
theorem dX11_as_39 : decode cX11_as 39 = .ok (.bipush (-6), 2) := by decide +kernel
theorem dX11_as_41 : decode cX11_as 41 = .ok (.ireturn, 1) := by decide +kernel
theorem dX11_image_0 : decode cX11_image 0 = .ok (.aload_n 0, 1) := by decide +kernel
theorem dX11_image_1 : decode cX11_image 1 = .ok (.getfield 18, 3) := by decide +kernel
theorem dX11_image_4 : decode cX11_image 4 = .ok (.aload_n 0, 1) := by decide +kernel
theorem dX11_image_5 : decode cX11_image 5 = .ok (.getfield 12, 3) := by decide +kernel
theorem dX11_image_8 : decode cX11_image 8 = .ok (.invokevirtual 224, 3) := by decide +kernel
theorem dX11_image_11 : decode cX11_image 11 = .ok (.aload_n 0, 1) := by decide +kernel
theorem dX11_image_12 : decode cX11_image 12 = .ok (.iconst 1, 1) := by decide +kernel
theorem dX11_image_13 : decode cX11_image 13 = .ok (.putfield 21, 3) := by decide +kernel
theorem dX11_image_16 : decode cX11_image 16 = .ok (.aload_n 0, 1) := by decide +kernel
theorem dX11_image_17 : decode cX11_image 17 = .ok (.getfield 12, 3) := by decide +kernel
theorem dX11_image_20 : decode cX11_image 20 = .ok (.getfield 50, 3) := by decide +kernel
theorem dX11_image_23 : decode cX11_image 23 = .ok (.ireturn, 1) := by decide +kernel
theorem dX11_undo_0 : decode cX11_undo 0 = .ok (.aload_n 0, 1) := by decide +kernel
theorem dX11_undo_1 : decode cX11_undo 1 = .ok (.getfield 21, 3) := by decide +kernel
theorem dX11_undo_4 : decode cX11_undo 4 = .ok (.ifCond .ne 6, 3) := by decide +kernel
theorem dX11_undo_7 : decode cX11_undo 7 = .ok (.bipush (-3), 2) := by decide +kernel
theorem dX11_undo_9 : decode cX11_undo 9 = .ok (.ireturn, 1) := by decide +kernel
theorem dX11_undo_10 : decode cX11_undo 10 = .ok (.aload_n 0, 1) := by decide +kernel
theorem dX11_undo_11 : decode cX11_undo 11 = .ok (.getfield 12, 3) := by decide +kernel
theorem dX11_undo_14 : decode cX11_undo 14 = .ok (.aload_n 0, 1) := by decide +kernel
theorem dX11_undo_15 : decode cX11_undo 15 = .ok (.getfield 18, 3) := by decide +kernel
theorem dX11_undo_18 : decode cX11_undo 18 = .ok (.invokevirtual 224, 3) := by decide +kernel
theorem dX11_undo_21 : decode cX11_undo 21 = .ok (.aload_n 0, 1) := by decide +kernel
theorem dX11_undo_22 : decode cX11_undo 22 = .ok (.getfield 12, 3) := by decide +kernel
theorem dX11_undo_25 : decode cX11_undo 25 = .ok (.getfield 50, 3) := by decide +kernel
theorem dX11_undo_28 : decode cX11_undo 28 = .ok (.ireturn, 1) := by decide +kernel
theorem dX11_count_0 : decode cX11_count 0 = .ok (.iload_n 1, 1) := by decide +kernel
theorem dX11_count_1 : decode cX11_count 1 = .ok (.tableswitch 104 0 6 #[43, 51, 62, 70, 78, 89, 96], 43) := by decide +kernel
theorem dX11_count_44 : decode cX11_count 44 = .ok (.aload_n 0, 1) := by decide +kernel
theorem dX11_count_45 : decode cX11_count 45 = .ok (.getfield 12, 3) := by decide +kernel
theorem dX11_count_48 : decode cX11_count 48 = .ok (.getfield 50, 3) := by decide +kernel
theorem dX11_count_51 : decode cX11_count 51 = .ok (.ireturn, 1) := by decide +kernel
theorem dX11_count_52 : decode cX11_count 52 = .ok (.aload_n 0, 1) := by decide +kernel
theorem dX11_count_53 : decode cX11_count 53 = .ok (.getfield 12, 3) := by decide +kernel
theorem dX11_count_56 : decode cX11_count 56 = .ok (.getfield 227, 3) := by decide +kernel
theorem dX11_count_59 : decode cX11_count 59 = .ok (.invokestatic 230, 3) := by decide +kernel
theorem dX11_count_62 : decode cX11_count 62 = .ok (.ireturn, 1) := by decide +kernel
theorem dX11_count_63 : decode cX11_count 63 = .ok (.aload_n 0, 1) := by decide +kernel
theorem dX11_count_64 : decode cX11_count 64 = .ok (.getfield 12, 3) := by decide +kernel
theorem dX11_count_67 : decode cX11_count 67 = .ok (.getfield 105, 3) := by decide +kernel
theorem dX11_count_70 : decode cX11_count 70 = .ok (.ireturn, 1) := by decide +kernel
theorem dX11_count_71 : decode cX11_count 71 = .ok (.aload_n 0, 1) := by decide +kernel
theorem dX11_count_72 : decode cX11_count 72 = .ok (.getfield 12, 3) := by decide +kernel
theorem dX11_count_75 : decode cX11_count 75 = .ok (.getfield 115, 3) := by decide +kernel
theorem dX11_count_78 : decode cX11_count 78 = .ok (.ireturn, 1) := by decide +kernel
theorem dX11_count_79 : decode cX11_count 79 = .ok (.aload_n 0, 1) := by decide +kernel
theorem dX11_count_80 : decode cX11_count 80 = .ok (.getfield 12, 3) := by decide +kernel
theorem dX11_count_83 : decode cX11_count 83 = .ok (.getfield 81, 3) := by decide +kernel
theorem dX11_count_86 : decode cX11_count 86 = .ok (.getfield 85, 3) := by decide +kernel
theorem dX11_count_89 : decode cX11_count 89 = .ok (.ireturn, 1) := by decide +kernel
theorem dX11_count_90 : decode cX11_count 90 = .ok (.aload_n 0, 1) := by decide +kernel
theorem dX11_count_91 : decode cX11_count 91 = .ok (.getfield 39, 3) := by decide +kernel
theorem dX11_count_94 : decode cX11_count 94 = .ok (.iconst 0, 1) := by decide +kernel
theorem dX11_count_95 : decode cX11_count 95 = .ok (.iaload, 1) := by decide +kernel
theorem dX11_count_96 : decode cX11_count 96 = .ok (.ireturn, 1) := by decide +kernel
theorem dX11_count_97 : decode cX11_count 97 = .ok (.aload_n 0, 1) := by decide +kernel
theorem dX11_count_98 : decode cX11_count 98 = .ok (.getfield 12, 3) := by decide +kernel
theorem dX11_count_101 : decode cX11_count 101 = .ok (.getfield 235, 3) := by decide +kernel
theorem dX11_count_104 : decode cX11_count 104 = .ok (.ireturn, 1) := by decide +kernel
theorem dX11_count_105 : decode cX11_count 105 = .ok (.iconst (-1), 1) := by decide +kernel
theorem dX11_count_106 : decode cX11_count 106 = .ok (.ireturn, 1) := by decide +kernel
theorem dX11_outside_0 : decode cX11_outside 0 = .ok (.iload_n 0, 1) := by decide +kernel
theorem dX11_outside_1 : decode cX11_outside 1 = .ok (.ifCond .lt 8, 3) := by decide +kernel
theorem dX11_outside_4 : decode cX11_outside 4 = .ok (.iload_n 0, 1) := by decide +kernel
theorem dX11_outside_5 : decode cX11_outside 5 = .ok (.iload_n 1, 1) := by decide +kernel
theorem dX11_outside_6 : decode cX11_outside 6 = .ok (.if_icmp .le 7, 3) := by decide +kernel
theorem dX11_outside_9 : decode cX11_outside 9 = .ok (.iconst 1, 1) := by decide +kernel
theorem dX11_outside_10 : decode cX11_outside 10 = .ok (.goto 4, 3) := by decide +kernel
theorem dX11_outside_13 : decode cX11_outside 13 = .ok (.iconst 0, 1) := by decide +kernel
theorem dX11_outside_14 : decode cX11_outside 14 = .ok (.ireturn, 1) := by decide +kernel
theorem dX11_pairRefusal_0 : decode cX11_pairRefusal 0 = .ok (.aload_n 0, 1) := by decide +kernel
theorem dX11_pairRefusal_1 : decode cX11_pairRefusal 1 = .ok (.getfield 12, 3) := by decide +kernel
theorem dX11_pairRefusal_4 : decode cX11_pairRefusal 4 = .ok (.iload_n 1, 1) := by decide +kernel
theorem dX11_pairRefusal_5 : decode cX11_pairRefusal 5 = .ok (.invokevirtual 58, 3) := by decide +kernel
theorem dX11_pairRefusal_8 : decode cX11_pairRefusal 8 = .ok (.ifCond .eq 14, 3) := by decide +kernel
theorem dX11_pairRefusal_11 : decode cX11_pairRefusal 11 = .ok (.aload_n 0, 1) := by decide +kernel
theorem dX11_pairRefusal_12 : decode cX11_pairRefusal 12 = .ok (.getfield 12, 3) := by decide +kernel
theorem dX11_pairRefusal_15 : decode cX11_pairRefusal 15 = .ok (.iload_n 2, 1) := by decide +kernel
theorem dX11_pairRefusal_16 : decode cX11_pairRefusal 16 = .ok (.invokevirtual 58, 3) := by decide +kernel
theorem dX11_pairRefusal_19 : decode cX11_pairRefusal 19 = .ok (.ifCond .ne 5, 3) := by decide +kernel
theorem dX11_pairRefusal_22 : decode cX11_pairRefusal 22 = .ok (.iconst (-1), 1) := by decide +kernel
theorem dX11_pairRefusal_23 : decode cX11_pairRefusal 23 = .ok (.ireturn, 1) := by decide +kernel
theorem dX11_pairRefusal_24 : decode cX11_pairRefusal 24 = .ok (.iload_n 1, 1) := by decide +kernel
theorem dX11_pairRefusal_25 : decode cX11_pairRefusal 25 = .ok (.iload_n 2, 1) := by decide +kernel
theorem dX11_pairRefusal_26 : decode cX11_pairRefusal 26 = .ok (.if_icmp .ne 6, 3) := by decide +kernel
theorem dX11_pairRefusal_29 : decode cX11_pairRefusal 29 = .ok (.bipush (-2), 2) := by decide +kernel
theorem dX11_pairRefusal_31 : decode cX11_pairRefusal 31 = .ok (.ireturn, 1) := by decide +kernel
theorem dX11_pairRefusal_32 : decode cX11_pairRefusal 32 = .ok (.aload_n 0, 1) := by decide +kernel
theorem dX11_pairRefusal_33 : decode cX11_pairRefusal 33 = .ok (.getfield 12, 3) := by decide +kernel
theorem dX11_pairRefusal_36 : decode cX11_pairRefusal 36 = .ok (.iload_n 1, 1) := by decide +kernel
theorem dX11_pairRefusal_37 : decode cX11_pairRefusal 37 = .ok (.invokevirtual 68, 3) := by decide +kernel
theorem dX11_pairRefusal_40 : decode cX11_pairRefusal 40 = .ok (.ifCond .eq 18, 3) := by decide +kernel
theorem dX11_pairRefusal_43 : decode cX11_pairRefusal 43 = .ok (.aload_n 0, 1) := by decide +kernel
theorem dX11_pairRefusal_44 : decode cX11_pairRefusal 44 = .ok (.getfield 12, 3) := by decide +kernel
theorem dX11_pairRefusal_47 : decode cX11_pairRefusal 47 = .ok (.iload_n 2, 1) := by decide +kernel
theorem dX11_pairRefusal_48 : decode cX11_pairRefusal 48 = .ok (.invokevirtual 68, 3) := by decide +kernel
theorem dX11_pairRefusal_51 : decode cX11_pairRefusal 51 = .ok (.ifCond .eq 7, 3) := by decide +kernel
theorem dX11_pairRefusal_54 : decode cX11_pairRefusal 54 = .ok (.iconst 0, 1) := by decide +kernel
theorem dX11_pairRefusal_55 : decode cX11_pairRefusal 55 = .ok (.goto 5, 3) := by decide +kernel
theorem dX11_pairRefusal_58 : decode cX11_pairRefusal 58 = .ok (.bipush (-3), 2) := by decide +kernel
theorem dX11_pairRefusal_60 : decode cX11_pairRefusal 60 = .ok (.ireturn, 1) := by decide +kernel
theorem dX11_made_0 : decode cX11_made 0 = .ok (.iload_n 0, 1) := by decide +kernel
theorem dX11_made_1 : decode cX11_made 1 = .ok (.tableswitch 99 1 6 #[39, 49, 59, 69, 79, 89], 39) := by decide +kernel
theorem dX11_made_40 : decode cX11_made 40 = .ok (.new 238, 3) := by decide +kernel
theorem dX11_made_43 : decode cX11_made 43 = .ok (.dup, 1) := by decide +kernel
theorem dX11_made_44 : decode cX11_made 44 = .ok (.iload_n 1, 1) := by decide +kernel
theorem dX11_made_45 : decode cX11_made 45 = .ok (.iload_n 2, 1) := by decide +kernel
theorem dX11_made_46 : decode cX11_made 46 = .ok (.invokespecial 240, 3) := by decide +kernel
theorem dX11_made_49 : decode cX11_made 49 = .ok (.areturn, 1) := by decide +kernel
theorem dX11_made_50 : decode cX11_made 50 = .ok (.new 243, 3) := by decide +kernel
theorem dX11_made_53 : decode cX11_made 53 = .ok (.dup, 1) := by decide +kernel
theorem dX11_made_54 : decode cX11_made 54 = .ok (.iload_n 1, 1) := by decide +kernel
theorem dX11_made_55 : decode cX11_made 55 = .ok (.iload_n 2, 1) := by decide +kernel
theorem dX11_made_56 : decode cX11_made 56 = .ok (.invokespecial 245, 3) := by decide +kernel
theorem dX11_made_59 : decode cX11_made 59 = .ok (.areturn, 1) := by decide +kernel
theorem dX11_made_60 : decode cX11_made 60 = .ok (.new 246, 3) := by decide +kernel
theorem dX11_made_63 : decode cX11_made 63 = .ok (.dup, 1) := by decide +kernel
theorem dX11_made_64 : decode cX11_made 64 = .ok (.iload_n 1, 1) := by decide +kernel
theorem dX11_made_65 : decode cX11_made 65 = .ok (.iload_n 2, 1) := by decide +kernel
theorem dX11_made_66 : decode cX11_made 66 = .ok (.invokespecial 248, 3) := by decide +kernel
theorem dX11_made_69 : decode cX11_made 69 = .ok (.areturn, 1) := by decide +kernel
theorem dX11_made_70 : decode cX11_made 70 = .ok (.new 249, 3) := by decide +kernel
theorem dX11_made_73 : decode cX11_made 73 = .ok (.dup, 1) := by decide +kernel
theorem dX11_made_74 : decode cX11_made 74 = .ok (.iload_n 1, 1) := by decide +kernel
theorem dX11_made_75 : decode cX11_made 75 = .ok (.iload_n 2, 1) := by decide +kernel
theorem dX11_made_76 : decode cX11_made 76 = .ok (.invokespecial 251, 3) := by decide +kernel
theorem dX11_made_79 : decode cX11_made 79 = .ok (.areturn, 1) := by decide +kernel
theorem dX11_made_80 : decode cX11_made 80 = .ok (.new 252, 3) := by decide +kernel
theorem dX11_made_83 : decode cX11_made 83 = .ok (.dup, 1) := by decide +kernel
theorem dX11_made_84 : decode cX11_made 84 = .ok (.iload_n 1, 1) := by decide +kernel
theorem dX11_made_85 : decode cX11_made 85 = .ok (.iload_n 2, 1) := by decide +kernel
theorem dX11_made_86 : decode cX11_made 86 = .ok (.invokespecial 254, 3) := by decide +kernel
theorem dX11_made_89 : decode cX11_made 89 = .ok (.areturn, 1) := by decide +kernel
theorem dX11_made_90 : decode cX11_made 90 = .ok (.new 255, 3) := by decide +kernel
theorem dX11_made_93 : decode cX11_made 93 = .ok (.dup, 1) := by decide +kernel
theorem dX11_made_94 : decode cX11_made 94 = .ok (.iload_n 1, 1) := by decide +kernel
theorem dX11_made_95 : decode cX11_made 95 = .ok (.iload_n 2, 1) := by decide +kernel
theorem dX11_made_96 : decode cX11_made 96 = .ok (.invokespecial 257, 3) := by decide +kernel
theorem dX11_made_99 : decode cX11_made 99 = .ok (.areturn, 1) := by decide +kernel
theorem dX11_made_100 : decode cX11_made 100 = .ok (.new 137, 3) := by decide +kernel
theorem dX11_made_103 : decode cX11_made 103 = .ok (.dup, 1) := by decide +kernel
theorem dX11_made_104 : decode cX11_made 104 = .ok (.iload_n 1, 1) := by decide +kernel
theorem dX11_made_105 : decode cX11_made 105 = .ok (.iload_n 2, 1) := by decide +kernel
theorem dX11_made_106 : decode cX11_made 106 = .ok (.invokespecial 258, 3) := by decide +kernel
theorem dX11_made_109 : decode cX11_made 109 = .ok (.areturn, 1) := by decide +kernel
theorem dX11_isOf_0 : decode cX11_isOf 0 = .ok (.iload_n 1, 1) := by decide +kernel
theorem dX11_isOf_1 : decode cX11_isOf 1 = .ok (.tableswitch 69 1 6 #[39, 44, 49, 54, 59, 64], 39) := by decide +kernel
theorem dX11_isOf_40 : decode cX11_isOf 40 = .ok (.aload_n 0, 1) := by decide +kernel
theorem dX11_isOf_41 : decode cX11_isOf 41 = .ok (.instanceof 238, 3) := by decide +kernel
theorem dX11_isOf_44 : decode cX11_isOf 44 = .ok (.ireturn, 1) := by decide +kernel
theorem dX11_isOf_45 : decode cX11_isOf 45 = .ok (.aload_n 0, 1) := by decide +kernel
theorem dX11_isOf_46 : decode cX11_isOf 46 = .ok (.instanceof 243, 3) := by decide +kernel
theorem dX11_isOf_49 : decode cX11_isOf 49 = .ok (.ireturn, 1) := by decide +kernel
theorem dX11_isOf_50 : decode cX11_isOf 50 = .ok (.aload_n 0, 1) := by decide +kernel
theorem dX11_isOf_51 : decode cX11_isOf 51 = .ok (.instanceof 246, 3) := by decide +kernel
theorem dX11_isOf_54 : decode cX11_isOf 54 = .ok (.ireturn, 1) := by decide +kernel
theorem dX11_isOf_55 : decode cX11_isOf 55 = .ok (.aload_n 0, 1) := by decide +kernel
theorem dX11_isOf_56 : decode cX11_isOf 56 = .ok (.instanceof 249, 3) := by decide +kernel
theorem dX11_isOf_59 : decode cX11_isOf 59 = .ok (.ireturn, 1) := by decide +kernel
theorem dX11_isOf_60 : decode cX11_isOf 60 = .ok (.aload_n 0, 1) := by decide +kernel
theorem dX11_isOf_61 : decode cX11_isOf 61 = .ok (.instanceof 252, 3) := by decide +kernel
theorem dX11_isOf_64 : decode cX11_isOf 64 = .ok (.ireturn, 1) := by decide +kernel
theorem dX11_isOf_65 : decode cX11_isOf 65 = .ok (.aload_n 0, 1) := by decide +kernel
theorem dX11_isOf_66 : decode cX11_isOf 66 = .ok (.instanceof 255, 3) := by decide +kernel
theorem dX11_isOf_69 : decode cX11_isOf 69 = .ok (.ireturn, 1) := by decide +kernel
theorem dX11_isOf_70 : decode cX11_isOf 70 = .ok (.iconst 1, 1) := by decide +kernel
theorem dX11_isOf_71 : decode cX11_isOf 71 = .ok (.ireturn, 1) := by decide +kernel
theorem dX11_armedInRound_0 : decode cX11_armedInRound 0 = .ok (.iconst 0, 1) := by decide +kernel
theorem dX11_armedInRound_1 : decode cX11_armedInRound 1 = .ok (.istore_n 2, 1) := by decide +kernel
theorem dX11_armedInRound_2 : decode cX11_armedInRound 2 = .ok (.iconst 0, 1) := by decide +kernel
theorem dX11_armedInRound_3 : decode cX11_armedInRound 3 = .ok (.istore_n 3, 1) := by decide +kernel
theorem dX11_armedInRound_4 : decode cX11_armedInRound 4 = .ok (.iload_n 3, 1) := by decide +kernel
theorem dX11_armedInRound_5 : decode cX11_armedInRound 5 = .ok (.aload_n 0, 1) := by decide +kernel
theorem dX11_armedInRound_6 : decode cX11_armedInRound 6 = .ok (.getfield 12, 3) := by decide +kernel
theorem dX11_armedInRound_9 : decode cX11_armedInRound 9 = .ok (.getfield 50, 3) := by decide +kernel
theorem dX11_armedInRound_12 : decode cX11_armedInRound 12 = .ok (.if_icmp .ge 50, 3) := by decide +kernel
theorem dX11_armedInRound_15 : decode cX11_armedInRound 15 = .ok (.aload_n 0, 1) := by decide +kernel
theorem dX11_armedInRound_16 : decode cX11_armedInRound 16 = .ok (.getfield 12, 3) := by decide +kernel
theorem dX11_armedInRound_19 : decode cX11_armedInRound 19 = .ok (.getfield 62, 3) := by decide +kernel
theorem dX11_armedInRound_22 : decode cX11_armedInRound 22 = .ok (.iload_n 3, 1) := by decide +kernel
theorem dX11_armedInRound_23 : decode cX11_armedInRound 23 = .ok (.iaload, 1) := by decide +kernel
theorem dX11_armedInRound_24 : decode cX11_armedInRound 24 = .ok (.bipush 99, 2) := by decide +kernel
theorem dX11_armedInRound_26 : decode cX11_armedInRound 26 = .ok (.if_icmp .ge 30, 3) := by decide +kernel
theorem dX11_armedInRound_29 : decode cX11_armedInRound 29 = .ok (.aload_n 1, 1) := by decide +kernel
theorem dX11_armedInRound_30 : decode cX11_armedInRound 30 = .ok (.aload_n 0, 1) := by decide +kernel
theorem dX11_armedInRound_31 : decode cX11_armedInRound 31 = .ok (.getfield 12, 3) := by decide +kernel
theorem dX11_armedInRound_34 : decode cX11_armedInRound 34 = .ok (.iload_n 3, 1) := by decide +kernel
theorem dX11_armedInRound_35 : decode cX11_armedInRound 35 = .ok (.invokevirtual 157, 3) := by decide +kernel
theorem dX11_armedInRound_38 : decode cX11_armedInRound 38 = .ok (.ifCond .eq 18, 3) := by decide +kernel
theorem dX11_armedInRound_41 : decode cX11_armedInRound 41 = .ok (.aload_n 0, 1) := by decide +kernel
theorem dX11_armedInRound_42 : decode cX11_armedInRound 42 = .ok (.getfield 12, 3) := by decide +kernel
theorem dX11_armedInRound_45 : decode cX11_armedInRound 45 = .ok (.getfield 62, 3) := by decide +kernel
theorem dX11_armedInRound_48 : decode cX11_armedInRound 48 = .ok (.iload_n 3, 1) := by decide +kernel
theorem dX11_armedInRound_49 : decode cX11_armedInRound 49 = .ok (.dup2, 1) := by decide +kernel
theorem dX11_armedInRound_50 : decode cX11_armedInRound 50 = .ok (.iaload, 1) := by decide +kernel
theorem dX11_armedInRound_51 : decode cX11_armedInRound 51 = .ok (.iconst 1, 1) := by decide +kernel
theorem dX11_armedInRound_52 : decode cX11_armedInRound 52 = .ok (.iadd, 1) := by decide +kernel
theorem dX11_armedInRound_53 : decode cX11_armedInRound 53 = .ok (.iastore, 1) := by decide +kernel
theorem dX11_armedInRound_54 : decode cX11_armedInRound 54 = .ok (.iconst 1, 1) := by decide +kernel
theorem dX11_armedInRound_55 : decode cX11_armedInRound 55 = .ok (.istore_n 2, 1) := by decide +kernel
theorem dX11_armedInRound_56 : decode cX11_armedInRound 56 = .ok (.iinc 3 1, 3) := by decide +kernel
theorem dX11_armedInRound_59 : decode cX11_armedInRound 59 = .ok (.goto (-55), 3) := by decide +kernel
theorem dX11_armedInRound_62 : decode cX11_armedInRound 62 = .ok (.iload_n 2, 1) := by decide +kernel
theorem dX11_armedInRound_63 : decode cX11_armedInRound 63 = .ok (.ireturn, 1) := by decide +kernel
theorem dX11_upsetBy_0 : decode cX11_upsetBy 0 = .ok (.iconst 0, 1) := by decide +kernel
theorem dX11_upsetBy_1 : decode cX11_upsetBy 1 = .ok (.istore_n 3, 1) := by decide +kernel
theorem dX11_upsetBy_2 : decode cX11_upsetBy 2 = .ok (.iload_n 3, 1) := by decide +kernel
theorem dX11_upsetBy_3 : decode cX11_upsetBy 3 = .ok (.aload_n 0, 1) := by decide +kernel
theorem dX11_upsetBy_4 : decode cX11_upsetBy 4 = .ok (.getfield 12, 3) := by decide +kernel
theorem dX11_upsetBy_7 : decode cX11_upsetBy 7 = .ok (.getfield 50, 3) := by decide +kernel
theorem dX11_upsetBy_10 : decode cX11_upsetBy 10 = .ok (.if_icmp .ge 95, 3) := by decide +kernel
theorem dX11_upsetBy_13 : decode cX11_upsetBy 13 = .ok (.aload_n 0, 1) := by decide +kernel
theorem dX11_upsetBy_14 : decode cX11_upsetBy 14 = .ok (.getfield 12, 3) := by decide +kernel
theorem dX11_upsetBy_17 : decode cX11_upsetBy 17 = .ok (.getfield 62, 3) := by decide +kernel
theorem dX11_upsetBy_20 : decode cX11_upsetBy 20 = .ok (.iload_n 3, 1) := by decide +kernel
theorem dX11_upsetBy_21 : decode cX11_upsetBy 21 = .ok (.iaload, 1) := by decide +kernel
theorem dX11_upsetBy_22 : decode cX11_upsetBy 22 = .ok (.istore 4, 2) := by decide +kernel
theorem dX11_upsetBy_24 : decode cX11_upsetBy 24 = .ok (.aload_n 0, 1) := by decide +kernel
theorem dX11_upsetBy_25 : decode cX11_upsetBy 25 = .ok (.getfield 12, 3) := by decide +kernel
theorem dX11_upsetBy_28 : decode cX11_upsetBy 28 = .ok (.iload_n 3, 1) := by decide +kernel
theorem dX11_upsetBy_29 : decode cX11_upsetBy 29 = .ok (.invokevirtual 68, 3) := by decide +kernel
theorem dX11_upsetBy_32 : decode cX11_upsetBy 32 = .ok (.ifCond .eq 67, 3) := by decide +kernel
theorem dX11_upsetBy_35 : decode cX11_upsetBy 35 = .ok (.iload 4, 2) := by decide +kernel
theorem dX11_upsetBy_37 : decode cX11_upsetBy 37 = .ok (.iload_n 2, 1) := by decide +kernel
theorem dX11_upsetBy_38 : decode cX11_upsetBy 38 = .ok (.iadd, 1) := by decide +kernel
theorem dX11_upsetBy_39 : decode cX11_upsetBy 39 = .ok (.bipush 99, 2) := by decide +kernel
theorem dX11_upsetBy_41 : decode cX11_upsetBy 41 = .ok (.invokestatic 46, 3) := by decide +kernel
theorem dX11_upsetBy_44 : decode cX11_upsetBy 44 = .ok (.ifCond .eq 6, 3) := by decide +kernel
theorem dX11_upsetBy_47 : decode cX11_upsetBy 47 = .ok (.goto 52, 3) := by decide +kernel
theorem dX11_upsetBy_50 : decode cX11_upsetBy 50 = .ok (.aload_n 0, 1) := by decide +kernel
theorem dX11_upsetBy_51 : decode cX11_upsetBy 51 = .ok (.getfield 12, 3) := by decide +kernel
theorem dX11_upsetBy_54 : decode cX11_upsetBy 54 = .ok (.getfield 62, 3) := by decide +kernel
theorem dX11_upsetBy_57 : decode cX11_upsetBy 57 = .ok (.iload_n 3, 1) := by decide +kernel
theorem dX11_upsetBy_58 : decode cX11_upsetBy 58 = .ok (.iload 4, 2) := by decide +kernel
theorem dX11_upsetBy_60 : decode cX11_upsetBy 60 = .ok (.iload_n 2, 1) := by decide +kernel
theorem dX11_upsetBy_61 : decode cX11_upsetBy 61 = .ok (.iadd, 1) := by decide +kernel
theorem dX11_upsetBy_62 : decode cX11_upsetBy 62 = .ok (.iastore, 1) := by decide +kernel
theorem dX11_upsetBy_63 : decode cX11_upsetBy 63 = .ok (.aload_n 1, 1) := by decide +kernel
theorem dX11_upsetBy_64 : decode cX11_upsetBy 64 = .ok (.aload_n 0, 1) := by decide +kernel
theorem dX11_upsetBy_65 : decode cX11_upsetBy 65 = .ok (.getfield 12, 3) := by decide +kernel
theorem dX11_upsetBy_68 : decode cX11_upsetBy 68 = .ok (.invokevirtual 160, 3) := by decide +kernel
theorem dX11_upsetBy_71 : decode cX11_upsetBy 71 = .ok (.ifCond .lt 7, 3) := by decide +kernel
theorem dX11_upsetBy_74 : decode cX11_upsetBy 74 = .ok (.iconst 1, 1) := by decide +kernel
theorem dX11_upsetBy_75 : decode cX11_upsetBy 75 = .ok (.goto 4, 3) := by decide +kernel
theorem dX11_upsetBy_78 : decode cX11_upsetBy 78 = .ok (.iconst 0, 1) := by decide +kernel
theorem dX11_upsetBy_79 : decode cX11_upsetBy 79 = .ok (.istore 5, 2) := by decide +kernel
theorem dX11_upsetBy_81 : decode cX11_upsetBy 81 = .ok (.aload_n 0, 1) := by decide +kernel
theorem dX11_upsetBy_82 : decode cX11_upsetBy 82 = .ok (.getfield 12, 3) := by decide +kernel
theorem dX11_upsetBy_85 : decode cX11_upsetBy 85 = .ok (.getfield 62, 3) := by decide +kernel
theorem dX11_upsetBy_88 : decode cX11_upsetBy 88 = .ok (.iload_n 3, 1) := by decide +kernel
theorem dX11_upsetBy_89 : decode cX11_upsetBy 89 = .ok (.iload 4, 2) := by decide +kernel
theorem dX11_upsetBy_91 : decode cX11_upsetBy 91 = .ok (.iastore, 1) := by decide +kernel
theorem dX11_upsetBy_92 : decode cX11_upsetBy 92 = .ok (.iload 5, 2) := by decide +kernel
theorem dX11_upsetBy_94 : decode cX11_upsetBy 94 = .ok (.ifCond .eq 5, 3) := by decide +kernel
theorem dX11_upsetBy_97 : decode cX11_upsetBy 97 = .ok (.iload_n 3, 1) := by decide +kernel
theorem dX11_upsetBy_98 : decode cX11_upsetBy 98 = .ok (.ireturn, 1) := by decide +kernel
theorem dX11_upsetBy_99 : decode cX11_upsetBy 99 = .ok (.iinc 3 1, 3) := by decide +kernel
theorem dX11_upsetBy_102 : decode cX11_upsetBy 102 = .ok (.goto (-100), 3) := by decide +kernel
theorem dX11_upsetBy_105 : decode cX11_upsetBy 105 = .ok (.bipush (-5), 2) := by decide +kernel
theorem dX11_upsetBy_107 : decode cX11_upsetBy 107 = .ok (.ireturn, 1) := by decide +kernel
theorem dX11_married_0 : decode cX11_married 0 = .ok (.aload_n 0, 1) := by decide +kernel
theorem dX11_married_1 : decode cX11_married 1 = .ok (.getfield 12, 3) := by decide +kernel
theorem dX11_married_4 : decode cX11_married 4 = .ok (.getfield 62, 3) := by decide +kernel
theorem dX11_married_7 : decode cX11_married 7 = .ok (.iload_n 2, 1) := by decide +kernel
theorem dX11_married_8 : decode cX11_married 8 = .ok (.iaload, 1) := by decide +kernel
theorem dX11_married_9 : decode cX11_married 9 = .ok (.istore 5, 2) := by decide +kernel
theorem dX11_married_11 : decode cX11_married 11 = .ok (.aload_n 0, 1) := by decide +kernel
theorem dX11_married_12 : decode cX11_married 12 = .ok (.getfield 12, 3) := by decide +kernel
theorem dX11_married_15 : decode cX11_married 15 = .ok (.getfield 62, 3) := by decide +kernel
theorem dX11_married_18 : decode cX11_married 18 = .ok (.iload_n 3, 1) := by decide +kernel
theorem dX11_married_19 : decode cX11_married 19 = .ok (.iaload, 1) := by decide +kernel
theorem dX11_married_20 : decode cX11_married 20 = .ok (.istore 6, 2) := by decide +kernel
theorem dX11_married_22 : decode cX11_married 22 = .ok (.iconst 0, 1) := by decide +kernel
theorem dX11_married_23 : decode cX11_married 23 = .ok (.istore 7, 2) := by decide +kernel
theorem dX11_married_25 : decode cX11_married 25 = .ok (.iconst 0, 1) := by decide +kernel
theorem dX11_married_26 : decode cX11_married 26 = .ok (.istore 8, 2) := by decide +kernel
theorem dX11_married_28 : decode cX11_married 28 = .ok (.iconst 0, 1) := by decide +kernel
theorem dX11_married_29 : decode cX11_married 29 = .ok (.istore 9, 2) := by decide +kernel
theorem dX11_married_31 : decode cX11_married 31 = .ok (.iload 9, 2) := by decide +kernel
theorem dX11_married_33 : decode cX11_married 33 = .ok (.aload_n 0, 1) := by decide +kernel
theorem dX11_married_34 : decode cX11_married 34 = .ok (.getfield 12, 3) := by decide +kernel
theorem dX11_married_37 : decode cX11_married 37 = .ok (.getfield 50, 3) := by decide +kernel
theorem dX11_married_40 : decode cX11_married 40 = .ok (.if_icmp .ge 29, 3) := by decide +kernel
theorem dX11_married_43 : decode cX11_married 43 = .ok (.aload_n 0, 1) := by decide +kernel
theorem dX11_married_44 : decode cX11_married 44 = .ok (.getfield 43, 3) := by decide +kernel
theorem dX11_married_47 : decode cX11_married 47 = .ok (.iload 9, 2) := by decide +kernel
theorem dX11_married_49 : decode cX11_married 49 = .ok (.aload_n 1, 1) := by decide +kernel
theorem dX11_married_50 : decode cX11_married 50 = .ok (.aload_n 0, 1) := by decide +kernel
theorem dX11_married_51 : decode cX11_married 51 = .ok (.getfield 12, 3) := by decide +kernel
theorem dX11_married_54 : decode cX11_married 54 = .ok (.iload 9, 2) := by decide +kernel
theorem dX11_married_56 : decode cX11_married 56 = .ok (.invokevirtual 157, 3) := by decide +kernel
theorem dX11_married_59 : decode cX11_married 59 = .ok (.invokestatic 230, 3) := by decide +kernel
theorem dX11_married_62 : decode cX11_married 62 = .ok (.iastore, 1) := by decide +kernel
theorem dX11_married_63 : decode cX11_married 63 = .ok (.iinc 9 1, 3) := by decide +kernel
theorem dX11_married_66 : decode cX11_married 66 = .ok (.goto (-35), 3) := by decide +kernel
theorem dX11_married_69 : decode cX11_married 69 = .ok (.aload_n 0, 1) := by decide +kernel
theorem dX11_married_70 : decode cX11_married 70 = .ok (.getfield 12, 3) := by decide +kernel
theorem dX11_married_73 : decode cX11_married 73 = .ok (.getfield 62, 3) := by decide +kernel
theorem dX11_married_76 : decode cX11_married 76 = .ok (.iload_n 2, 1) := by decide +kernel
theorem dX11_married_77 : decode cX11_married 77 = .ok (.bipush 99, 2) := by decide +kernel
theorem dX11_married_79 : decode cX11_married 79 = .ok (.iload 5, 2) := by decide +kernel
theorem dX11_married_81 : decode cX11_married 81 = .ok (.iload 6, 2) := by decide +kernel
theorem dX11_married_83 : decode cX11_married 83 = .ok (.iadd, 1) := by decide +kernel
theorem dX11_married_84 : decode cX11_married 84 = .ok (.invokestatic 259, 3) := by decide +kernel
theorem dX11_married_87 : decode cX11_married 87 = .ok (.iastore, 1) := by decide +kernel
theorem dX11_married_88 : decode cX11_married 88 = .ok (.aload_n 0, 1) := by decide +kernel
theorem dX11_married_89 : decode cX11_married 89 = .ok (.getfield 12, 3) := by decide +kernel
theorem dX11_married_92 : decode cX11_married 92 = .ok (.getfield 62, 3) := by decide +kernel
theorem dX11_married_95 : decode cX11_married 95 = .ok (.iload_n 3, 1) := by decide +kernel
theorem dX11_married_96 : decode cX11_married 96 = .ok (.iconst 0, 1) := by decide +kernel
theorem dX11_married_97 : decode cX11_married 97 = .ok (.iastore, 1) := by decide +kernel
theorem dX11_married_98 : decode cX11_married 98 = .ok (.aload_n 0, 1) := by decide +kernel
theorem dX11_married_99 : decode cX11_married 99 = .ok (.getfield 12, 3) := by decide +kernel
theorem dX11_married_102 : decode cX11_married 102 = .ok (.dup, 1) := by decide +kernel
theorem dX11_married_103 : decode cX11_married 103 = .ok (.getfield 227, 3) := by decide +kernel
theorem dX11_married_106 : decode cX11_married 106 = .ok (.iconst 1, 1) := by decide +kernel
theorem dX11_married_107 : decode cX11_married 107 = .ok (.iload_n 3, 1) := by decide +kernel
theorem dX11_married_108 : decode cX11_married 108 = .ok (.ishl, 1) := by decide +kernel
theorem dX11_married_109 : decode cX11_married 109 = .ok (.ixor, 1) := by decide +kernel
theorem dX11_married_110 : decode cX11_married 110 = .ok (.putfield 227, 3) := by decide +kernel
theorem dX11_married_113 : decode cX11_married 113 = .ok (.iconst 0, 1) := by decide +kernel
theorem dX11_married_114 : decode cX11_married 114 = .ok (.istore 9, 2) := by decide +kernel
theorem dX11_married_116 : decode cX11_married 116 = .ok (.iload 9, 2) := by decide +kernel
theorem dX11_married_118 : decode cX11_married 118 = .ok (.aload_n 0, 1) := by decide +kernel
theorem dX11_married_119 : decode cX11_married 119 = .ok (.getfield 12, 3) := by decide +kernel
theorem dX11_married_122 : decode cX11_married 122 = .ok (.getfield 50, 3) := by decide +kernel
theorem dX11_married_125 : decode cX11_married 125 = .ok (.if_icmp .ge 65, 3) := by decide +kernel
theorem dX11_married_128 : decode cX11_married 128 = .ok (.aload_n 1, 1) := by decide +kernel
theorem dX11_married_129 : decode cX11_married 129 = .ok (.aload_n 0, 1) := by decide +kernel
theorem dX11_married_130 : decode cX11_married 130 = .ok (.getfield 12, 3) := by decide +kernel
theorem dX11_married_133 : decode cX11_married 133 = .ok (.iload 9, 2) := by decide +kernel
theorem dX11_married_135 : decode cX11_married 135 = .ok (.invokevirtual 157, 3) := by decide +kernel
theorem dX11_married_138 : decode cX11_married 138 = .ok (.invokestatic 230, 3) := by decide +kernel
theorem dX11_married_141 : decode cX11_married 141 = .ok (.aload_n 0, 1) := by decide +kernel
theorem dX11_married_142 : decode cX11_married 142 = .ok (.getfield 43, 3) := by decide +kernel
theorem dX11_married_145 : decode cX11_married 145 = .ok (.iload 9, 2) := by decide +kernel
theorem dX11_married_147 : decode cX11_married 147 = .ok (.iaload, 1) := by decide +kernel
theorem dX11_married_148 : decode cX11_married 148 = .ok (.isub, 1) := by decide +kernel
theorem dX11_married_149 : decode cX11_married 149 = .ok (.istore 10, 2) := by decide +kernel
theorem dX11_married_151 : decode cX11_married 151 = .ok (.iload 7, 2) := by decide +kernel
theorem dX11_married_153 : decode cX11_married 153 = .ok (.iload 10, 2) := by decide +kernel
theorem dX11_married_155 : decode cX11_married 155 = .ok (.iadd, 1) := by decide +kernel
theorem dX11_married_156 : decode cX11_married 156 = .ok (.istore 7, 2) := by decide +kernel
theorem dX11_married_158 : decode cX11_married 158 = .ok (.iload 10, 2) := by decide +kernel
theorem dX11_married_160 : decode cX11_married 160 = .ok (.ifCond .le 24, 3) := by decide +kernel
theorem dX11_married_163 : decode cX11_married 163 = .ok (.iload 9, 2) := by decide +kernel
theorem dX11_married_165 : decode cX11_married 165 = .ok (.iload_n 2, 1) := by decide +kernel
theorem dX11_married_166 : decode cX11_married 166 = .ok (.if_icmp .eq 18, 3) := by decide +kernel
theorem dX11_married_169 : decode cX11_married 169 = .ok (.iload 9, 2) := by decide +kernel
theorem dX11_married_171 : decode cX11_married 171 = .ok (.iload_n 3, 1) := by decide +kernel
theorem dX11_married_172 : decode cX11_married 172 = .ok (.if_icmp .eq 12, 3) := by decide +kernel
theorem dX11_married_175 : decode cX11_married 175 = .ok (.iload 8, 2) := by decide +kernel
theorem dX11_married_177 : decode cX11_married 177 = .ok (.iconst 1, 1) := by decide +kernel
theorem dX11_married_178 : decode cX11_married 178 = .ok (.iload 9, 2) := by decide +kernel
theorem dX11_married_180 : decode cX11_married 180 = .ok (.ishl, 1) := by decide +kernel
theorem dX11_married_181 : decode cX11_married 181 = .ok (.ior, 1) := by decide +kernel
theorem dX11_married_182 : decode cX11_married 182 = .ok (.istore 8, 2) := by decide +kernel
theorem dX11_married_184 : decode cX11_married 184 = .ok (.iinc 9 1, 3) := by decide +kernel
theorem dX11_married_187 : decode cX11_married 187 = .ok (.goto (-71), 3) := by decide +kernel
theorem dX11_married_190 : decode cX11_married 190 = .ok (.aload_n 0, 1) := by decide +kernel
theorem dX11_married_191 : decode cX11_married 191 = .ok (.getfield 12, 3) := by decide +kernel
theorem dX11_married_194 : decode cX11_married 194 = .ok (.dup, 1) := by decide +kernel
theorem dX11_married_195 : decode cX11_married 195 = .ok (.getfield 227, 3) := by decide +kernel
theorem dX11_married_198 : decode cX11_married 198 = .ok (.iconst 1, 1) := by decide +kernel
theorem dX11_married_199 : decode cX11_married 199 = .ok (.iload_n 3, 1) := by decide +kernel
theorem dX11_married_200 : decode cX11_married 200 = .ok (.ishl, 1) := by decide +kernel
theorem dX11_married_201 : decode cX11_married 201 = .ok (.ixor, 1) := by decide +kernel
theorem dX11_married_202 : decode cX11_married 202 = .ok (.putfield 227, 3) := by decide +kernel
theorem dX11_married_205 : decode cX11_married 205 = .ok (.aload_n 0, 1) := by decide +kernel
theorem dX11_married_206 : decode cX11_married 206 = .ok (.getfield 12, 3) := by decide +kernel
theorem dX11_married_209 : decode cX11_married 209 = .ok (.getfield 62, 3) := by decide +kernel
theorem dX11_married_212 : decode cX11_married 212 = .ok (.iload_n 3, 1) := by decide +kernel
theorem dX11_married_213 : decode cX11_married 213 = .ok (.iload 6, 2) := by decide +kernel
theorem dX11_married_215 : decode cX11_married 215 = .ok (.iastore, 1) := by decide +kernel
theorem dX11_married_216 : decode cX11_married 216 = .ok (.aload_n 0, 1) := by decide +kernel
theorem dX11_married_217 : decode cX11_married 217 = .ok (.getfield 12, 3) := by decide +kernel
theorem dX11_married_220 : decode cX11_married 220 = .ok (.getfield 62, 3) := by decide +kernel
theorem dX11_married_223 : decode cX11_married 223 = .ok (.iload_n 2, 1) := by decide +kernel
theorem dX11_married_224 : decode cX11_married 224 = .ok (.iload 5, 2) := by decide +kernel
theorem dX11_married_226 : decode cX11_married 226 = .ok (.iastore, 1) := by decide +kernel
theorem dX11_married_227 : decode cX11_married 227 = .ok (.iload 4, 2) := by decide +kernel
theorem dX11_married_229 : decode cX11_married 229 = .ok (.ifCond .eq 8, 3) := by decide +kernel
theorem dX11_married_232 : decode cX11_married 232 = .ok (.iload 7, 2) := by decide +kernel
theorem dX11_married_234 : decode cX11_married 234 = .ok (.goto 5, 3) := by decide +kernel
theorem dX11_married_237 : decode cX11_married 237 = .ok (.iload 8, 2) := by decide +kernel
theorem dX11_married_239 : decode cX11_married 239 = .ok (.ireturn, 1) := by decide +kernel
theorem dX12_init_0 : decode cX12_init 0 = .ok (.aload_n 0, 1) := by decide +kernel
theorem dX12_init_1 : decode cX12_init 1 = .ok (.invokespecial 3, 3) := by decide +kernel
theorem dX12_init_4 : decode cX12_init 4 = .ok (.aload_n 0, 1) := by decide +kernel
theorem dX12_init_5 : decode cX12_init 5 = .ok (.sipush 490, 3) := by decide +kernel
theorem dX12_init_8 : decode cX12_init 8 = .ok (.newarray .int, 2) := by decide +kernel
theorem dX12_init_10 : decode cX12_init 10 = .ok (.putfield 9, 3) := by decide +kernel
theorem dX12_init_13 : decode cX12_init 13 = .ok (.aload_n 0, 1) := by decide +kernel
theorem dX12_init_14 : decode cX12_init 14 = .ok (.sipush 490, 3) := by decide +kernel
theorem dX12_init_17 : decode cX12_init 17 = .ok (.newarray .int, 2) := by decide +kernel
theorem dX12_init_19 : decode cX12_init 19 = .ok (.putfield 15, 3) := by decide +kernel
theorem dX12_init_22 : decode cX12_init 22 = .ok (.aload_n 0, 1) := by decide +kernel
theorem dX12_init_23 : decode cX12_init 23 = .ok (.sipush 140, 3) := by decide +kernel
theorem dX12_init_26 : decode cX12_init 26 = .ok (.newarray .int, 2) := by decide +kernel
theorem dX12_init_28 : decode cX12_init 28 = .ok (.putfield 18, 3) := by decide +kernel
theorem dX12_init_31 : decode cX12_init 31 = .ok (.aload_n 0, 1) := by decide +kernel
theorem dX12_init_32 : decode cX12_init 32 = .ok (.iconst 3, 1) := by decide +kernel
theorem dX12_init_33 : decode cX12_init 33 = .ok (.newarray .int, 2) := by decide +kernel
theorem dX12_init_35 : decode cX12_init 35 = .ok (.putfield 21, 3) := by decide +kernel
theorem dX12_init_38 : decode cX12_init 38 = .ok (.aload_n 0, 1) := by decide +kernel
theorem dX12_init_39 : decode cX12_init 39 = .ok (.bipush 64, 2) := by decide +kernel
theorem dX12_init_41 : decode cX12_init 41 = .ok (.newarray .boolean, 2) := by decide +kernel
theorem dX12_init_43 : decode cX12_init 43 = .ok (.putfield 24, 3) := by decide +kernel
theorem dX12_init_46 : decode cX12_init 46 = .ok (.aload_n 0, 1) := by decide +kernel
theorem dX12_init_47 : decode cX12_init 47 = .ok (.bipush 7, 2) := by decide +kernel
theorem dX12_init_49 : decode cX12_init 49 = .ok (.newarray .int, 2) := by decide +kernel
theorem dX12_init_51 : decode cX12_init 51 = .ok (.putfield 28, 3) := by decide +kernel
theorem dX12_init_54 : decode cX12_init 54 = .ok (.aload_n 0, 1) := by decide +kernel
theorem dX12_init_55 : decode cX12_init 55 = .ok (.bipush 7, 2) := by decide +kernel
theorem dX12_init_57 : decode cX12_init 57 = .ok (.newarray .int, 2) := by decide +kernel
theorem dX12_init_59 : decode cX12_init 59 = .ok (.putfield 31, 3) := by decide +kernel
theorem dX12_init_62 : decode cX12_init 62 = .ok (.aload_n 0, 1) := by decide +kernel
theorem dX12_init_63 : decode cX12_init 63 = .ok (.bipush 20, 2) := by decide +kernel
theorem dX12_init_65 : decode cX12_init 65 = .ok (.newarray .int, 2) := by decide +kernel
theorem dX12_init_67 : decode cX12_init 67 = .ok (.putfield 34, 3) := by decide +kernel
theorem dX12_init_70 : decode cX12_init 70 = .ok (.return_, 1) := by decide +kernel
theorem dX12_in_0 : decode cX12_in 0 = .ok (.iload_n 0, 1) := by decide +kernel
theorem dX12_in_1 : decode cX12_in 1 = .ok (.iload_n 1, 1) := by decide +kernel
theorem dX12_in_2 : decode cX12_in 2 = .ok (.if_icmp .lt 12, 3) := by decide +kernel
theorem dX12_in_5 : decode cX12_in 5 = .ok (.iload_n 0, 1) := by decide +kernel
theorem dX12_in_6 : decode cX12_in 6 = .ok (.iload_n 2, 1) := by decide +kernel
theorem dX12_in_7 : decode cX12_in 7 = .ok (.if_icmp .gt 7, 3) := by decide +kernel
theorem dX12_in_10 : decode cX12_in 10 = .ok (.iconst 1, 1) := by decide +kernel
theorem dX12_in_11 : decode cX12_in 11 = .ok (.goto 4, 3) := by decide +kernel
theorem dX12_in_14 : decode cX12_in 14 = .ok (.iconst 0, 1) := by decide +kernel
theorem dX12_in_15 : decode cX12_in 15 = .ok (.ireturn, 1) := by decide +kernel
theorem dX12_isKing_0 : decode cX12_isKing 0 = .ok (.iload_n 1, 1) := by decide +kernel
theorem dX12_isKing_1 : decode cX12_isKing 1 = .ok (.iconst 0, 1) := by decide +kernel
theorem dX12_isKing_2 : decode cX12_isKing 2 = .ok (.aload_n 0, 1) := by decide +kernel
theorem dX12_isKing_3 : decode cX12_isKing 3 = .ok (.getfield 9, 3) := by decide +kernel
theorem dX12_isKing_6 : decode cX12_isKing 6 = .ok (.iconst 0, 1) := by decide +kernel
theorem dX12_isKing_7 : decode cX12_isKing 7 = .ok (.iaload, 1) := by decide +kernel
theorem dX12_isKing_8 : decode cX12_isKing 8 = .ok (.iconst 1, 1) := by decide +kernel
theorem dX12_isKing_9 : decode cX12_isKing 9 = .ok (.isub, 1) := by decide +kernel
theorem dX12_isKing_10 : decode cX12_isKing 10 = .ok (.invokestatic 41, 3) := by decide +kernel
theorem dX12_isKing_13 : decode cX12_isKing 13 = .ok (.ireturn, 1) := by decide +kernel
theorem dX12_isAlive_0 : decode cX12_isAlive 0 = .ok (.aload_n 0, 1) := by decide +kernel
theorem dX12_isAlive_1 : decode cX12_isAlive 1 = .ok (.iload_n 1, 1) := by decide +kernel
theorem dX12_isAlive_2 : decode cX12_isAlive 2 = .ok (.invokevirtual 45, 3) := by decide +kernel
theorem dX12_isAlive_5 : decode cX12_isAlive 5 = .ok (.ifCond .eq 20, 3) := by decide +kernel
theorem dX12_isAlive_8 : decode cX12_isAlive 8 = .ok (.aload_n 0, 1) := by decide +kernel
theorem dX12_isAlive_9 : decode cX12_isAlive 9 = .ok (.getfield 9, 3) := by decide +kernel
theorem dX12_isAlive_12 : decode cX12_isAlive 12 = .ok (.sipush 290, 3) := by decide +kernel
theorem dX12_isAlive_15 : decode cX12_isAlive 15 = .ok (.iload_n 1, 1) := by decide +kernel
theorem dX12_isAlive_16 : decode cX12_isAlive 16 = .ok (.iadd, 1) := by decide +kernel
theorem dX12_isAlive_17 : decode cX12_isAlive 17 = .ok (.iaload, 1) := by decide +kernel
theorem dX12_isAlive_18 : decode cX12_isAlive 18 = .ok (.ifCond .ne 7, 3) := by decide +kernel
theorem dX12_isAlive_21 : decode cX12_isAlive 21 = .ok (.iconst 1, 1) := by decide +kernel
theorem dX12_isAlive_22 : decode cX12_isAlive 22 = .ok (.goto 4, 3) := by decide +kernel
theorem dX12_isAlive_25 : decode cX12_isAlive 25 = .ok (.iconst 0, 1) := by decide +kernel
theorem dX12_isAlive_26 : decode cX12_isAlive 26 = .ok (.ireturn, 1) := by decide +kernel
theorem dX12_isStanding_0 : decode cX12_isStanding 0 = .ok (.iload_n 1, 1) := by decide +kernel
theorem dX12_isStanding_1 : decode cX12_isStanding 1 = .ok (.iconst 0, 1) := by decide +kernel
theorem dX12_isStanding_2 : decode cX12_isStanding 2 = .ok (.aload_n 0, 1) := by decide +kernel
theorem dX12_isStanding_3 : decode cX12_isStanding 3 = .ok (.getfield 9, 3) := by decide +kernel
theorem dX12_isStanding_6 : decode cX12_isStanding 6 = .ok (.iconst 2, 1) := by decide +kernel
theorem dX12_isStanding_7 : decode cX12_isStanding 7 = .ok (.iaload, 1) := by decide +kernel
theorem dX12_isStanding_8 : decode cX12_isStanding 8 = .ok (.iconst 1, 1) := by decide +kernel
theorem dX12_isStanding_9 : decode cX12_isStanding 9 = .ok (.isub, 1) := by decide +kernel
theorem dX12_isStanding_10 : decode cX12_isStanding 10 = .ok (.invokestatic 41, 3) := by decide +kernel
theorem dX12_isStanding_13 : decode cX12_isStanding 13 = .ok (.ireturn, 1) := by decide +kernel
theorem dX12_size_0 : decode cX12_size 0 = .ok (.iload_n 0, 1) := by decide +kernel
theorem dX12_size_1 : decode cX12_size 1 = .ok (.ifCond .ge 8, 3) := by decide +kernel
theorem dX12_size_4 : decode cX12_size 4 = .ok (.iload_n 0, 1) := by decide +kernel
theorem dX12_size_5 : decode cX12_size 5 = .ok (.ineg, 1) := by decide +kernel
theorem dX12_size_6 : decode cX12_size 6 = .ok (.goto 4, 3) := by decide +kernel
theorem dX12_size_9 : decode cX12_size 9 = .ok (.iload_n 0, 1) := by decide +kernel
theorem dX12_size_10 : decode cX12_size 10 = .ok (.ireturn, 1) := by decide +kernel
theorem dX12_count1_0 : decode cX12_count1 0 = .ok (.iconst 0, 1) := by decide +kernel
theorem dX12_count1_1 : decode cX12_count1 1 = .ok (.istore_n 1, 1) := by decide +kernel
theorem dX12_count1_2 : decode cX12_count1 2 = .ok (.iconst 0, 1) := by decide +kernel
theorem dX12_count1_3 : decode cX12_count1 3 = .ok (.istore_n 2, 1) := by decide +kernel
theorem dX12_count1_4 : decode cX12_count1 4 = .ok (.iload_n 2, 1) := by decide +kernel
theorem dX12_count1_5 : decode cX12_count1 5 = .ok (.bipush 7, 2) := by decide +kernel
theorem dX12_count1_7 : decode cX12_count1 7 = .ok (.if_icmp .ge 17, 3) := by decide +kernel
theorem dX12_count1_10 : decode cX12_count1 10 = .ok (.iload_n 1, 1) := by decide +kernel
theorem dX12_count1_11 : decode cX12_count1 11 = .ok (.iload_n 0, 1) := by decide +kernel
theorem dX12_count1_12 : decode cX12_count1 12 = .ok (.iload_n 2, 1) := by decide +kernel
theorem dX12_count1_13 : decode cX12_count1 13 = .ok (.ishr, 1) := by decide +kernel
theorem dX12_count1_14 : decode cX12_count1 14 = .ok (.iconst 1, 1) := by decide +kernel
theorem dX12_count1_15 : decode cX12_count1 15 = .ok (.iand, 1) := by decide +kernel
theorem dX12_count1_16 : decode cX12_count1 16 = .ok (.iadd, 1) := by decide +kernel
theorem dX12_count1_17 : decode cX12_count1 17 = .ok (.istore_n 1, 1) := by decide +kernel
theorem dX12_count1_18 : decode cX12_count1 18 = .ok (.iinc 2 1, 3) := by decide +kernel
theorem dX12_count1_21 : decode cX12_count1 21 = .ok (.goto (-17), 3) := by decide +kernel
theorem dX12_count1_24 : decode cX12_count1 24 = .ok (.iload_n 1, 1) := by decide +kernel
theorem dX12_count1_25 : decode cX12_count1 25 = .ok (.ireturn, 1) := by decide +kernel
theorem dX12_king_0 : decode cX12_king 0 = .ok (.iload_n 1, 1) := by decide +kernel
theorem dX12_king_1 : decode cX12_king 1 = .ok (.iconst 0, 1) := by decide +kernel
theorem dX12_king_2 : decode cX12_king 2 = .ok (.bipush 99, 2) := by decide +kernel
theorem dX12_king_4 : decode cX12_king 4 = .ok (.invokestatic 41, 3) := by decide +kernel
theorem dX12_king_7 : decode cX12_king 7 = .ok (.ifCond .eq 13, 3) := by decide +kernel
theorem dX12_king_10 : decode cX12_king 10 = .ok (.iload_n 2, 1) := by decide +kernel
theorem dX12_king_11 : decode cX12_king 11 = .ok (.iconst 0, 1) := by decide +kernel
theorem dX12_king_12 : decode cX12_king 12 = .ok (.bipush 40, 2) := by decide +kernel
theorem dX12_king_14 : decode cX12_king 14 = .ok (.invokestatic 41, 3) := by decide +kernel
theorem dX12_king_17 : decode cX12_king 17 = .ok (.ifCond .ne 6, 3) := by decide +kernel
theorem dX12_king_20 : decode cX12_king 20 = .ok (.bipush (-2), 2) := by decide +kernel
theorem dX12_king_22 : decode cX12_king 22 = .ok (.ireturn, 1) := by decide +kernel
theorem dX12_king_23 : decode cX12_king 23 = .ok (.aload_n 0, 1) := by decide +kernel
theorem dX12_king_24 : decode cX12_king 24 = .ok (.getfield 9, 3) := by decide +kernel
theorem dX12_king_27 : decode cX12_king 27 = .ok (.iconst 0, 1) := by decide +kernel
theorem dX12_king_28 : decode cX12_king 28 = .ok (.iaload, 1) := by decide +kernel
theorem dX12_king_29 : decode cX12_king 29 = .ok (.bipush 7, 2) := by decide +kernel
theorem dX12_king_31 : decode cX12_king 31 = .ok (.if_icmp .ne 6, 3) := by decide +kernel
theorem dX12_king_34 : decode cX12_king 34 = .ok (.bipush (-4), 2) := by decide +kernel
theorem dX12_king_36 : decode cX12_king 36 = .ok (.ireturn, 1) := by decide +kernel
theorem dX12_king_37 : decode cX12_king 37 = .ok (.aload_n 0, 1) := by decide +kernel
theorem dX12_king_38 : decode cX12_king 38 = .ok (.getfield 9, 3) := by decide +kernel
theorem dX12_king_41 : decode cX12_king 41 = .ok (.iconst 0, 1) := by decide +kernel
theorem dX12_king_42 : decode cX12_king 42 = .ok (.iaload, 1) := by decide +kernel
theorem dX12_king_43 : decode cX12_king 43 = .ok (.istore_n 3, 1) := by decide +kernel
theorem dX12_king_44 : decode cX12_king 44 = .ok (.aload_n 0, 1) := by decide +kernel
theorem dX12_king_45 : decode cX12_king 45 = .ok (.getfield 9, 3) := by decide +kernel
theorem dX12_king_48 : decode cX12_king 48 = .ok (.sipush 270, 3) := by decide +kernel
theorem dX12_king_51 : decode cX12_king 51 = .ok (.iload_n 3, 1) := by decide +kernel
theorem dX12_king_52 : decode cX12_king 52 = .ok (.iadd, 1) := by decide +kernel
theorem dX12_king_53 : decode cX12_king 53 = .ok (.iload_n 1, 1) := by decide +kernel
theorem dX12_king_54 : decode cX12_king 54 = .ok (.iastore, 1) := by decide +kernel
theorem dX12_king_55 : decode cX12_king 55 = .ok (.aload_n 0, 1) := by decide +kernel
theorem dX12_king_56 : decode cX12_king 56 = .ok (.getfield 9, 3) := by decide +kernel
theorem dX12_king_59 : decode cX12_king 59 = .ok (.sipush 280, 3) := by decide +kernel
theorem dX12_king_62 : decode cX12_king 62 = .ok (.iload_n 3, 1) := by decide +kernel
theorem dX12_king_63 : decode cX12_king 63 = .ok (.iadd, 1) := by decide +kernel
theorem dX12_king_64 : decode cX12_king 64 = .ok (.iload_n 2, 1) := by decide +kernel
theorem dX12_king_65 : decode cX12_king 65 = .ok (.iastore, 1) := by decide +kernel
theorem dX12_king_66 : decode cX12_king 66 = .ok (.aload_n 0, 1) := by decide +kernel
theorem dX12_king_67 : decode cX12_king 67 = .ok (.getfield 9, 3) := by decide +kernel
theorem dX12_king_70 : decode cX12_king 70 = .ok (.sipush 290, 3) := by decide +kernel
theorem dX12_king_73 : decode cX12_king 73 = .ok (.iload_n 3, 1) := by decide +kernel
theorem dX12_king_74 : decode cX12_king 74 = .ok (.iadd, 1) := by decide +kernel
theorem dX12_king_75 : decode cX12_king 75 = .ok (.iconst 0, 1) := by decide +kernel
theorem dX12_king_76 : decode cX12_king 76 = .ok (.iastore, 1) := by decide +kernel
theorem dX12_king_77 : decode cX12_king 77 = .ok (.aload_n 0, 1) := by decide +kernel
theorem dX12_king_78 : decode cX12_king 78 = .ok (.getfield 9, 3) := by decide +kernel
theorem dX12_king_81 : decode cX12_king 81 = .ok (.sipush 300, 3) := by decide +kernel
theorem dX12_king_84 : decode cX12_king 84 = .ok (.iload_n 3, 1) := by decide +kernel
theorem dX12_king_85 : decode cX12_king 85 = .ok (.iadd, 1) := by decide +kernel
theorem dX12_king_86 : decode cX12_king 86 = .ok (.iload_n 3, 1) := by decide +kernel
theorem dX12_king_87 : decode cX12_king 87 = .ok (.iastore, 1) := by decide +kernel
theorem dX12_king_88 : decode cX12_king 88 = .ok (.iconst 0, 1) := by decide +kernel
theorem dX12_king_89 : decode cX12_king 89 = .ok (.istore 4, 2) := by decide +kernel
theorem dX12_king_91 : decode cX12_king 91 = .ok (.iload 4, 2) := by decide +kernel
theorem dX12_king_93 : decode cX12_king 93 = .ok (.bipush 7, 2) := by decide +kernel
theorem dX12_king_95 : decode cX12_king 95 = .ok (.if_icmp .ge 44, 3) := by decide +kernel
theorem dX12_king_98 : decode cX12_king 98 = .ok (.aload_n 0, 1) := by decide +kernel
theorem dX12_king_99 : decode cX12_king 99 = .ok (.getfield 9, 3) := by decide +kernel
theorem dX12_king_102 : decode cX12_king 102 = .ok (.sipush 310, 3) := by decide +kernel
theorem dX12_king_105 : decode cX12_king 105 = .ok (.bipush 7, 2) := by decide +kernel
theorem dX12_king_107 : decode cX12_king 107 = .ok (.iload_n 3, 1) := by decide +kernel
theorem dX12_king_108 : decode cX12_king 108 = .ok (.imul, 1) := by decide +kernel
theorem dX12_king_109 : decode cX12_king 109 = .ok (.iadd, 1) := by decide +kernel
theorem dX12_king_110 : decode cX12_king 110 = .ok (.iload 4, 2) := by decide +kernel
theorem dX12_king_112 : decode cX12_king 112 = .ok (.iadd, 1) := by decide +kernel
theorem dX12_king_113 : decode cX12_king 113 = .ok (.bipush 10, 2) := by decide +kernel
theorem dX12_king_115 : decode cX12_king 115 = .ok (.iastore, 1) := by decide +kernel
theorem dX12_king_116 : decode cX12_king 116 = .ok (.aload_n 0, 1) := by decide +kernel
theorem dX12_king_117 : decode cX12_king 117 = .ok (.getfield 9, 3) := by decide +kernel
theorem dX12_king_120 : decode cX12_king 120 = .ok (.sipush 360, 3) := by decide +kernel
theorem dX12_king_123 : decode cX12_king 123 = .ok (.bipush 7, 2) := by decide +kernel
theorem dX12_king_125 : decode cX12_king 125 = .ok (.iload_n 3, 1) := by decide +kernel
theorem dX12_king_126 : decode cX12_king 126 = .ok (.imul, 1) := by decide +kernel
theorem dX12_king_127 : decode cX12_king 127 = .ok (.iadd, 1) := by decide +kernel
theorem dX12_king_128 : decode cX12_king 128 = .ok (.iload 4, 2) := by decide +kernel
theorem dX12_king_130 : decode cX12_king 130 = .ok (.iadd, 1) := by decide +kernel
theorem dX12_king_131 : decode cX12_king 131 = .ok (.iconst 0, 1) := by decide +kernel
theorem dX12_king_132 : decode cX12_king 132 = .ok (.iastore, 1) := by decide +kernel
theorem dX12_king_133 : decode cX12_king 133 = .ok (.iinc 4 1, 3) := by decide +kernel
theorem dX12_king_136 : decode cX12_king 136 = .ok (.goto (-45), 3) := by decide +kernel
theorem dX12_king_139 : decode cX12_king 139 = .ok (.aload_n 0, 1) := by decide +kernel
theorem dX12_king_140 : decode cX12_king 140 = .ok (.getfield 9, 3) := by decide +kernel
theorem dX12_king_143 : decode cX12_king 143 = .ok (.iconst 0, 1) := by decide +kernel
theorem dX12_king_144 : decode cX12_king 144 = .ok (.dup2, 1) := by decide +kernel
theorem dX12_king_145 : decode cX12_king 145 = .ok (.iaload, 1) := by decide +kernel
theorem dX12_king_146 : decode cX12_king 146 = .ok (.iconst 1, 1) := by decide +kernel
theorem dX12_king_147 : decode cX12_king 147 = .ok (.iadd, 1) := by decide +kernel
theorem dX12_king_148 : decode cX12_king 148 = .ok (.iastore, 1) := by decide +kernel
theorem dX12_king_149 : decode cX12_king 149 = .ok (.iload_n 3, 1) := by decide +kernel
theorem dX12_king_150 : decode cX12_king 150 = .ok (.ireturn, 1) := by decide +kernel
theorem dX12_of_0 : decode cX12_of 0 = .ok (.aload_n 0, 1) := by decide +kernel
theorem dX12_of_1 : decode cX12_of 1 = .ok (.iload_n 1, 1) := by decide +kernel
theorem dX12_of_2 : decode cX12_of 2 = .ok (.invokevirtual 45, 3) := by decide +kernel
theorem dX12_of_5 : decode cX12_of 5 = .ok (.ifCond .ne 5, 3) := by decide +kernel
theorem dX12_of_8 : decode cX12_of 8 = .ok (.iconst (-1), 1) := by decide +kernel
theorem dX12_of_9 : decode cX12_of 9 = .ok (.ireturn, 1) := by decide +kernel
theorem dX12_of_10 : decode cX12_of 10 = .ok (.iload_n 2, 1) := by decide +kernel
theorem dX12_of_11 : decode cX12_of 11 = .ok (.tableswitch 73 0 3 #[29, 40, 51, 62], 29) := by decide +kernel
theorem dX12_of_40 : decode cX12_of 40 = .ok (.aload_n 0, 1) := by decide +kernel
theorem dX12_of_41 : decode cX12_of 41 = .ok (.getfield 9, 3) := by decide +kernel
theorem dX12_of_44 : decode cX12_of 44 = .ok (.sipush 270, 3) := by decide +kernel
theorem dX12_of_47 : decode cX12_of 47 = .ok (.iload_n 1, 1) := by decide +kernel
theorem dX12_of_48 : decode cX12_of 48 = .ok (.iadd, 1) := by decide +kernel
theorem dX12_of_49 : decode cX12_of 49 = .ok (.iaload, 1) := by decide +kernel
theorem dX12_of_50 : decode cX12_of 50 = .ok (.ireturn, 1) := by decide +kernel
theorem dX12_of_51 : decode cX12_of 51 = .ok (.aload_n 0, 1) := by decide +kernel
theorem dX12_of_52 : decode cX12_of 52 = .ok (.getfield 9, 3) := by decide +kernel
theorem dX12_of_55 : decode cX12_of 55 = .ok (.sipush 280, 3) := by decide +kernel
theorem dX12_of_58 : decode cX12_of 58 = .ok (.iload_n 1, 1) := by decide +kernel
theorem dX12_of_59 : decode cX12_of 59 = .ok (.iadd, 1) := by decide +kernel
theorem dX12_of_60 : decode cX12_of 60 = .ok (.iaload, 1) := by decide +kernel
theorem dX12_of_61 : decode cX12_of 61 = .ok (.ireturn, 1) := by decide +kernel
theorem dX12_of_62 : decode cX12_of 62 = .ok (.aload_n 0, 1) := by decide +kernel
theorem dX12_of_63 : decode cX12_of 63 = .ok (.getfield 9, 3) := by decide +kernel
theorem dX12_of_66 : decode cX12_of 66 = .ok (.sipush 290, 3) := by decide +kernel
theorem dX12_of_69 : decode cX12_of 69 = .ok (.iload_n 1, 1) := by decide +kernel
theorem dX12_of_70 : decode cX12_of 70 = .ok (.iadd, 1) := by decide +kernel
theorem dX12_of_71 : decode cX12_of 71 = .ok (.iaload, 1) := by decide +kernel
theorem dX12_of_72 : decode cX12_of 72 = .ok (.ireturn, 1) := by decide +kernel
theorem dX12_of_73 : decode cX12_of 73 = .ok (.aload_n 0, 1) := by decide +kernel
theorem dX12_of_74 : decode cX12_of 74 = .ok (.getfield 9, 3) := by decide +kernel
theorem dX12_of_77 : decode cX12_of 77 = .ok (.sipush 300, 3) := by decide +kernel
theorem dX12_of_80 : decode cX12_of 80 = .ok (.iload_n 1, 1) := by decide +kernel
theorem dX12_of_81 : decode cX12_of 81 = .ok (.iadd, 1) := by decide +kernel
theorem dX12_of_82 : decode cX12_of 82 = .ok (.iaload, 1) := by decide +kernel
theorem dX12_of_83 : decode cX12_of 83 = .ok (.ireturn, 1) := by decide +kernel
theorem dX12_of_84 : decode cX12_of 84 = .ok (.iconst (-1), 1) := by decide +kernel
theorem dX12_of_85 : decode cX12_of 85 = .ok (.ireturn, 1) := by decide +kernel
theorem dX12_arm_0 : decode cX12_arm 0 = .ok (.aload_n 0, 1) := by decide +kernel
theorem dX12_arm_1 : decode cX12_arm 1 = .ok (.iload_n 1, 1) := by decide +kernel
theorem dX12_arm_2 : decode cX12_arm 2 = .ok (.invokevirtual 45, 3) := by decide +kernel
theorem dX12_arm_5 : decode cX12_arm 5 = .ok (.ifCond .ne 5, 3) := by decide +kernel
theorem dX12_arm_8 : decode cX12_arm 8 = .ok (.iconst (-1), 1) := by decide +kernel
theorem dX12_arm_9 : decode cX12_arm 9 = .ok (.ireturn, 1) := by decide +kernel
theorem dX12_arm_10 : decode cX12_arm 10 = .ok (.iload_n 2, 1) := by decide +kernel
theorem dX12_arm_11 : decode cX12_arm 11 = .ok (.iconst 0, 1) := by decide +kernel
theorem dX12_arm_12 : decode cX12_arm 12 = .ok (.bipush 99, 2) := by decide +kernel
theorem dX12_arm_14 : decode cX12_arm 14 = .ok (.invokestatic 41, 3) := by decide +kernel
theorem dX12_arm_17 : decode cX12_arm 17 = .ok (.ifCond .ne 6, 3) := by decide +kernel
theorem dX12_arm_20 : decode cX12_arm 20 = .ok (.bipush (-2), 2) := by decide +kernel
theorem dX12_arm_22 : decode cX12_arm 22 = .ok (.ireturn, 1) := by decide +kernel
theorem dX12_arm_23 : decode cX12_arm 23 = .ok (.aload_n 0, 1) := by decide +kernel
theorem dX12_arm_24 : decode cX12_arm 24 = .ok (.iload_n 1, 1) := by decide +kernel
theorem dX12_arm_25 : decode cX12_arm 25 = .ok (.invokevirtual 49, 3) := by decide +kernel
theorem dX12_arm_28 : decode cX12_arm 28 = .ok (.ifCond .ne 6, 3) := by decide +kernel
theorem dX12_arm_31 : decode cX12_arm 31 = .ok (.bipush (-3), 2) := by decide +kernel
theorem dX12_arm_33 : decode cX12_arm 33 = .ok (.ireturn, 1) := by decide +kernel
theorem dX12_arm_34 : decode cX12_arm 34 = .ok (.aload_n 0, 1) := by decide +kernel
theorem dX12_arm_35 : decode cX12_arm 35 = .ok (.getfield 9, 3) := by decide +kernel
theorem dX12_arm_38 : decode cX12_arm 38 = .ok (.sipush 270, 3) := by decide +kernel
theorem dX12_arm_41 : decode cX12_arm 41 = .ok (.iload_n 1, 1) := by decide +kernel
theorem dX12_arm_42 : decode cX12_arm 42 = .ok (.iadd, 1) := by decide +kernel
theorem dX12_arm_43 : decode cX12_arm 43 = .ok (.iaload, 1) := by decide +kernel
theorem dX12_arm_44 : decode cX12_arm 44 = .ok (.istore_n 3, 1) := by decide +kernel
theorem dX12_arm_45 : decode cX12_arm 45 = .ok (.aload_n 0, 1) := by decide +kernel
theorem dX12_arm_46 : decode cX12_arm 46 = .ok (.getfield 9, 3) := by decide +kernel
theorem dX12_arm_49 : decode cX12_arm 49 = .ok (.sipush 270, 3) := by decide +kernel
theorem dX12_arm_52 : decode cX12_arm 52 = .ok (.iload_n 1, 1) := by decide +kernel
theorem dX12_arm_53 : decode cX12_arm 53 = .ok (.iadd, 1) := by decide +kernel
theorem dX12_arm_54 : decode cX12_arm 54 = .ok (.iload_n 2, 1) := by decide +kernel
theorem dX12_arm_55 : decode cX12_arm 55 = .ok (.iastore, 1) := by decide +kernel
theorem dX12_arm_56 : decode cX12_arm 56 = .ok (.iload_n 3, 1) := by decide +kernel
theorem dX12_arm_57 : decode cX12_arm 57 = .ok (.ireturn, 1) := by decide +kernel
theorem dX12_worth_0 : decode cX12_worth 0 = .ok (.aload_n 0, 1) := by decide +kernel
theorem dX12_worth_1 : decode cX12_worth 1 = .ok (.iload_n 1, 1) := by decide +kernel
theorem dX12_worth_2 : decode cX12_worth 2 = .ok (.invokevirtual 45, 3) := by decide +kernel
theorem dX12_worth_5 : decode cX12_worth 5 = .ok (.ifCond .eq 11, 3) := by decide +kernel
theorem dX12_worth_8 : decode cX12_worth 8 = .ok (.aload_n 0, 1) := by decide +kernel
theorem dX12_worth_9 : decode cX12_worth 9 = .ok (.iload_n 2, 1) := by decide +kernel
theorem dX12_worth_10 : decode cX12_worth 10 = .ok (.invokevirtual 45, 3) := by decide +kernel
theorem dX12_worth_13 : decode cX12_worth 13 = .ok (.ifCond .ne 5, 3) := by decide +kernel
theorem dX12_worth_16 : decode cX12_worth 16 = .ok (.iconst (-1), 1) := by decide +kernel
theorem dX12_worth_17 : decode cX12_worth 17 = .ok (.ireturn, 1) := by decide +kernel
theorem dX12_worth_18 : decode cX12_worth 18 = .ok (.iload_n 1, 1) := by decide +kernel
theorem dX12_worth_19 : decode cX12_worth 19 = .ok (.iload_n 2, 1) := by decide +kernel
theorem dX12_worth_20 : decode cX12_worth 20 = .ok (.if_icmp .eq 13, 3) := by decide +kernel
theorem dX12_worth_23 : decode cX12_worth 23 = .ok (.iload_n 3, 1) := by decide +kernel
theorem dX12_worth_24 : decode cX12_worth 24 = .ok (.iconst 0, 1) := by decide +kernel
theorem dX12_worth_25 : decode cX12_worth 25 = .ok (.bipush 99, 2) := by decide +kernel
theorem dX12_worth_27 : decode cX12_worth 27 = .ok (.invokestatic 41, 3) := by decide +kernel
theorem dX12_worth_30 : decode cX12_worth 30 = .ok (.ifCond .ne 6, 3) := by decide +kernel
theorem dX12_worth_33 : decode cX12_worth 33 = .ok (.bipush (-2), 2) := by decide +kernel
theorem dX12_worth_35 : decode cX12_worth 35 = .ok (.ireturn, 1) := by decide +kernel
theorem dX12_worth_36 : decode cX12_worth 36 = .ok (.aload_n 0, 1) := by decide +kernel
theorem dX12_worth_37 : decode cX12_worth 37 = .ok (.getfield 9, 3) := by decide +kernel
theorem dX12_worth_40 : decode cX12_worth 40 = .ok (.sipush 310, 3) := by decide +kernel
theorem dX12_worth_43 : decode cX12_worth 43 = .ok (.bipush 7, 2) := by decide +kernel
theorem dX12_worth_45 : decode cX12_worth 45 = .ok (.iload_n 1, 1) := by decide +kernel
theorem dX12_worth_46 : decode cX12_worth 46 = .ok (.imul, 1) := by decide +kernel
theorem dX12_worth_47 : decode cX12_worth 47 = .ok (.iadd, 1) := by decide +kernel
theorem dX12_worth_48 : decode cX12_worth 48 = .ok (.iload_n 2, 1) := by decide +kernel
theorem dX12_worth_49 : decode cX12_worth 49 = .ok (.iadd, 1) := by decide +kernel
theorem dX12_worth_50 : decode cX12_worth 50 = .ok (.iaload, 1) := by decide +kernel
theorem dX12_worth_51 : decode cX12_worth 51 = .ok (.istore 4, 2) := by decide +kernel
theorem dX12_worth_53 : decode cX12_worth 53 = .ok (.aload_n 0, 1) := by decide +kernel
theorem dX12_worth_54 : decode cX12_worth 54 = .ok (.getfield 9, 3) := by decide +kernel
theorem dX12_worth_57 : decode cX12_worth 57 = .ok (.sipush 310, 3) := by decide +kernel
theorem dX12_worth_60 : decode cX12_worth 60 = .ok (.bipush 7, 2) := by decide +kernel
theorem dX12_worth_62 : decode cX12_worth 62 = .ok (.iload_n 1, 1) := by decide +kernel
theorem dX12_worth_63 : decode cX12_worth 63 = .ok (.imul, 1) := by decide +kernel
theorem dX12_worth_64 : decode cX12_worth 64 = .ok (.iadd, 1) := by decide +kernel
theorem dX12_worth_65 : decode cX12_worth 65 = .ok (.iload_n 2, 1) := by decide +kernel
theorem dX12_worth_66 : decode cX12_worth 66 = .ok (.iadd, 1) := by decide +kernel
theorem dX12_worth_67 : decode cX12_worth 67 = .ok (.iload_n 3, 1) := by decide +kernel
theorem dX12_worth_68 : decode cX12_worth 68 = .ok (.iastore, 1) := by decide +kernel
theorem dX12_worth_69 : decode cX12_worth 69 = .ok (.iload 4, 2) := by decide +kernel
theorem dX12_worth_71 : decode cX12_worth 71 = .ok (.ireturn, 1) := by decide +kernel
theorem dX12_pact_0 : decode cX12_pact 0 = .ok (.aload_n 0, 1) := by decide +kernel
theorem dX12_pact_1 : decode cX12_pact 1 = .ok (.iload_n 1, 1) := by decide +kernel
theorem dX12_pact_2 : decode cX12_pact 2 = .ok (.invokevirtual 45, 3) := by decide +kernel
theorem dX12_pact_5 : decode cX12_pact 5 = .ok (.ifCond .eq 11, 3) := by decide +kernel
theorem dX12_pact_8 : decode cX12_pact 8 = .ok (.aload_n 0, 1) := by decide +kernel
theorem dX12_pact_9 : decode cX12_pact 9 = .ok (.iload_n 2, 1) := by decide +kernel
theorem dX12_pact_10 : decode cX12_pact 10 = .ok (.invokevirtual 45, 3) := by decide +kernel
theorem dX12_pact_13 : decode cX12_pact 13 = .ok (.ifCond .ne 5, 3) := by decide +kernel
theorem dX12_pact_16 : decode cX12_pact 16 = .ok (.iconst (-1), 1) := by decide +kernel
theorem dX12_pact_17 : decode cX12_pact 17 = .ok (.ireturn, 1) := by decide +kernel
theorem dX12_pact_18 : decode cX12_pact 18 = .ok (.iload_n 1, 1) := by decide +kernel
theorem dX12_pact_19 : decode cX12_pact 19 = .ok (.iload_n 2, 1) := by decide +kernel
theorem dX12_pact_20 : decode cX12_pact 20 = .ok (.if_icmp .eq 12, 3) := by decide +kernel
theorem dX12_pact_23 : decode cX12_pact 23 = .ok (.iload_n 3, 1) := by decide +kernel
theorem dX12_pact_24 : decode cX12_pact 24 = .ok (.iconst 0, 1) := by decide +kernel
theorem dX12_pact_25 : decode cX12_pact 25 = .ok (.iconst 3, 1) := by decide +kernel
theorem dX12_pact_26 : decode cX12_pact 26 = .ok (.invokestatic 41, 3) := by decide +kernel
theorem dX12_pact_29 : decode cX12_pact 29 = .ok (.ifCond .ne 6, 3) := by decide +kernel
theorem dX12_pact_32 : decode cX12_pact 32 = .ok (.bipush (-2), 2) := by decide +kernel
theorem dX12_pact_34 : decode cX12_pact 34 = .ok (.ireturn, 1) := by decide +kernel
theorem dX12_pact_35 : decode cX12_pact 35 = .ok (.aload_n 0, 1) := by decide +kernel
theorem dX12_pact_36 : decode cX12_pact 36 = .ok (.getfield 9, 3) := by decide +kernel
theorem dX12_pact_39 : decode cX12_pact 39 = .ok (.sipush 360, 3) := by decide +kernel
theorem dX12_pact_42 : decode cX12_pact 42 = .ok (.bipush 7, 2) := by decide +kernel
theorem dX12_pact_44 : decode cX12_pact 44 = .ok (.iload_n 1, 1) := by decide +kernel
theorem dX12_pact_45 : decode cX12_pact 45 = .ok (.imul, 1) := by decide +kernel
theorem dX12_pact_46 : decode cX12_pact 46 = .ok (.iadd, 1) := by decide +kernel
theorem dX12_pact_47 : decode cX12_pact 47 = .ok (.iload_n 2, 1) := by decide +kernel
theorem dX12_pact_48 : decode cX12_pact 48 = .ok (.iadd, 1) := by decide +kernel
theorem dX12_pact_49 : decode cX12_pact 49 = .ok (.iaload, 1) := by decide +kernel
theorem dX12_pact_50 : decode cX12_pact 50 = .ok (.istore 4, 2) := by decide +kernel
theorem dX12_pact_52 : decode cX12_pact 52 = .ok (.aload_n 0, 1) := by decide +kernel
theorem dX12_pact_53 : decode cX12_pact 53 = .ok (.getfield 9, 3) := by decide +kernel
theorem dX12_pact_56 : decode cX12_pact 56 = .ok (.sipush 360, 3) := by decide +kernel
theorem dX12_pact_59 : decode cX12_pact 59 = .ok (.bipush 7, 2) := by decide +kernel
theorem dX12_pact_61 : decode cX12_pact 61 = .ok (.iload_n 1, 1) := by decide +kernel
theorem dX12_pact_62 : decode cX12_pact 62 = .ok (.imul, 1) := by decide +kernel
theorem dX12_pact_63 : decode cX12_pact 63 = .ok (.iadd, 1) := by decide +kernel
theorem dX12_pact_64 : decode cX12_pact 64 = .ok (.iload_n 2, 1) := by decide +kernel
theorem dX12_pact_65 : decode cX12_pact 65 = .ok (.iadd, 1) := by decide +kernel
theorem dX12_pact_66 : decode cX12_pact 66 = .ok (.iload_n 3, 1) := by decide +kernel
theorem dX12_pact_67 : decode cX12_pact 67 = .ok (.iastore, 1) := by decide +kernel
theorem dX12_pact_68 : decode cX12_pact 68 = .ok (.iload 4, 2) := by decide +kernel
theorem dX12_pact_70 : decode cX12_pact 70 = .ok (.ireturn, 1) := by decide +kernel
theorem dX12_feed_0 : decode cX12_feed 0 = .ok (.iload_n 3, 1) := by decide +kernel
theorem dX12_feed_1 : decode cX12_feed 1 = .ok (.iconst 1, 1) := by decide +kernel
theorem dX12_feed_2 : decode cX12_feed 2 = .ok (.bipush 8, 2) := by decide +kernel
theorem dX12_feed_4 : decode cX12_feed 4 = .ok (.invokestatic 41, 3) := by decide +kernel
theorem dX12_feed_7 : decode cX12_feed 7 = .ok (.ifCond .ne 6, 3) := by decide +kernel
theorem dX12_feed_10 : decode cX12_feed 10 = .ok (.bipush (-2), 2) := by decide +kernel
theorem dX12_feed_12 : decode cX12_feed 12 = .ok (.ireturn, 1) := by decide +kernel
theorem dX12_feed_13 : decode cX12_feed 13 = .ok (.aload_n 0, 1) := by decide +kernel
theorem dX12_feed_14 : decode cX12_feed 14 = .ok (.getfield 9, 3) := by decide +kernel
theorem dX12_feed_17 : decode cX12_feed 17 = .ok (.iconst 3, 1) := by decide +kernel
theorem dX12_feed_18 : decode cX12_feed 18 = .ok (.iaload, 1) := by decide +kernel
theorem dX12_feed_19 : decode cX12_feed 19 = .ok (.iload_n 3, 1) := by decide +kernel
theorem dX12_feed_20 : decode cX12_feed 20 = .ok (.iadd, 1) := by decide +kernel
theorem dX12_feed_21 : decode cX12_feed 21 = .ok (.bipush 120, 2) := by decide +kernel
theorem dX12_feed_23 : decode cX12_feed 23 = .ok (.if_icmp .le 6, 3) := by decide +kernel
theorem dX12_feed_26 : decode cX12_feed 26 = .ok (.bipush (-4), 2) := by decide +kernel
theorem dX12_feed_28 : decode cX12_feed 28 = .ok (.ireturn, 1) := by decide +kernel
theorem dX12_feed_29 : decode cX12_feed 29 = .ok (.iload_n 3, 1) := by decide +kernel
theorem dX12_feed_30 : decode cX12_feed 30 = .ok (.iconst 1, 1) := by decide +kernel
theorem dX12_feed_31 : decode cX12_feed 31 = .ok (.isub, 1) := by decide +kernel
theorem dX12_feed_32 : decode cX12_feed 32 = .ok (.istore 4, 2) := by decide +kernel
theorem dX12_feed_34 : decode cX12_feed 34 = .ok (.iload 4, 2) := by decide +kernel
theorem dX12_feed_36 : decode cX12_feed 36 = .ok (.ifCond .lt 45, 3) := by decide +kernel
theorem dX12_feed_39 : decode cX12_feed 39 = .ok (.aload_n 0, 1) := by decide +kernel
theorem dX12_feed_40 : decode cX12_feed 40 = .ok (.getfield 9, 3) := by decide +kernel
theorem dX12_feed_43 : decode cX12_feed 43 = .ok (.bipush 10, 2) := by decide +kernel
theorem dX12_feed_45 : decode cX12_feed 45 = .ok (.aload_n 0, 1) := by decide +kernel
theorem dX12_feed_46 : decode cX12_feed 46 = .ok (.getfield 9, 3) := by decide +kernel
theorem dX12_feed_49 : decode cX12_feed 49 = .ok (.iconst 3, 1) := by decide +kernel
theorem dX12_feed_50 : decode cX12_feed 50 = .ok (.iaload, 1) := by decide +kernel
theorem dX12_feed_51 : decode cX12_feed 51 = .ok (.iadd, 1) := by decide +kernel
theorem dX12_feed_52 : decode cX12_feed 52 = .ok (.lload_n 1, 1) := by decide +kernel
theorem dX12_feed_53 : decode cX12_feed 53 = .ok (.bipush 8, 2) := by decide +kernel
theorem dX12_feed_55 : decode cX12_feed 55 = .ok (.iload 4, 2) := by decide +kernel
theorem dX12_feed_57 : decode cX12_feed 57 = .ok (.imul, 1) := by decide +kernel
theorem dX12_feed_58 : decode cX12_feed 58 = .ok (.lshr, 1) := by decide +kernel
theorem dX12_feed_59 : decode cX12_feed 59 = .ok (.ldc2_w 52, 3) := by decide +kernel
theorem dX12_feed_62 : decode cX12_feed 62 = .ok (.land, 1) := by decide +kernel
theorem dX12_feed_63 : decode cX12_feed 63 = .ok (.l2i, 1) := by decide +kernel
theorem dX12_feed_64 : decode cX12_feed 64 = .ok (.iastore, 1) := by decide +kernel
theorem dX12_feed_65 : decode cX12_feed 65 = .ok (.aload_n 0, 1) := by decide +kernel
theorem dX12_feed_66 : decode cX12_feed 66 = .ok (.getfield 9, 3) := by decide +kernel
theorem dX12_feed_69 : decode cX12_feed 69 = .ok (.iconst 3, 1) := by decide +kernel
theorem dX12_feed_70 : decode cX12_feed 70 = .ok (.dup2, 1) := by decide +kernel
theorem dX12_feed_71 : decode cX12_feed 71 = .ok (.iaload, 1) := by decide +kernel
theorem dX12_feed_72 : decode cX12_feed 72 = .ok (.iconst 1, 1) := by decide +kernel
theorem dX12_feed_73 : decode cX12_feed 73 = .ok (.iadd, 1) := by decide +kernel
theorem dX12_feed_74 : decode cX12_feed 74 = .ok (.iastore, 1) := by decide +kernel
theorem dX12_feed_75 : decode cX12_feed 75 = .ok (.iinc 4 (-1), 3) := by decide +kernel
theorem dX12_feed_78 : decode cX12_feed 78 = .ok (.goto (-44), 3) := by decide +kernel
theorem dX12_feed_81 : decode cX12_feed 81 = .ok (.aload_n 0, 1) := by decide +kernel
theorem dX12_feed_82 : decode cX12_feed 82 = .ok (.getfield 9, 3) := by decide +kernel
theorem dX12_feed_85 : decode cX12_feed 85 = .ok (.iconst 3, 1) := by decide +kernel
theorem dX12_feed_86 : decode cX12_feed 86 = .ok (.iaload, 1) := by decide +kernel
theorem dX12_feed_87 : decode cX12_feed 87 = .ok (.ireturn, 1) := by decide +kernel
theorem dX12_here_0 : decode cX12_here 0 = .ok (.aload_n 0, 1) := by decide +kernel
theorem dX12_here_1 : decode cX12_here 1 = .ok (.getfield 54, 3) := by decide +kernel
theorem dX12_here_4 : decode cX12_here 4 = .ok (.aload_n 0, 1) := by decide +kernel
theorem dX12_here_5 : decode cX12_here 5 = .ok (.getfield 57, 3) := by decide +kernel
theorem dX12_here_8 : decode cX12_here 8 = .ok (.if_icmp .ge 18, 3) := by decide +kernel
theorem dX12_here_11 : decode cX12_here 11 = .ok (.aload_n 0, 1) := by decide +kernel
theorem dX12_here_12 : decode cX12_here 12 = .ok (.getfield 9, 3) := by decide +kernel
theorem dX12_here_15 : decode cX12_here 15 = .ok (.bipush 10, 2) := by decide +kernel
theorem dX12_here_17 : decode cX12_here 17 = .ok (.aload_n 0, 1) := by decide +kernel
theorem dX12_here_18 : decode cX12_here 18 = .ok (.getfield 54, 3) := by decide +kernel
theorem dX12_here_21 : decode cX12_here 21 = .ok (.iadd, 1) := by decide +kernel
theorem dX12_here_22 : decode cX12_here 22 = .ok (.iaload, 1) := by decide +kernel
theorem dX12_here_23 : decode cX12_here 23 = .ok (.goto 4, 3) := by decide +kernel
theorem dX12_here_26 : decode cX12_here 26 = .ok (.iconst (-1), 1) := by decide +kernel
theorem dX12_here_27 : decode cX12_here 27 = .ok (.ireturn, 1) := by decide +kernel
theorem dX12_must_0 : decode cX12_must 0 = .ok (.aload_n 0, 1) := by decide +kernel
theorem dX12_must_1 : decode cX12_must 1 = .ok (.aload_n 0, 1) := by decide +kernel
theorem dX12_must_2 : decode cX12_must 2 = .ok (.getfield 60, 3) := by decide +kernel
theorem dX12_must_5 : decode cX12_must 5 = .ok (.ifCond .ne 11, 3) := by decide +kernel
theorem dX12_must_8 : decode cX12_must 8 = .ok (.aload_n 0, 1) := by decide +kernel
theorem dX12_must_9 : decode cX12_must 9 = .ok (.invokevirtual 64, 3) := by decide +kernel
theorem dX12_must_12 : decode cX12_must 12 = .ok (.iload_n 1, 1) := by decide +kernel
theorem dX12_must_13 : decode cX12_must 13 = .ok (.if_icmp .eq 7, 3) := by decide +kernel
theorem dX12_must_16 : decode cX12_must 16 = .ok (.iconst 1, 1) := by decide +kernel
theorem dX12_must_17 : decode cX12_must 17 = .ok (.goto 4, 3) := by decide +kernel
theorem dX12_must_20 : decode cX12_must 20 = .ok (.iconst 0, 1) := by decide +kernel
theorem dX12_must_21 : decode cX12_must 21 = .ok (.putfield 60, 3) := by decide +kernel
theorem dX12_must_24 : decode cX12_must 24 = .ok (.aload_n 0, 1) := by decide +kernel
theorem dX12_must_25 : decode cX12_must 25 = .ok (.dup, 1) := by decide +kernel
theorem dX12_must_26 : decode cX12_must 26 = .ok (.getfield 54, 3) := by decide +kernel
theorem dX12_must_29 : decode cX12_must 29 = .ok (.aload_n 0, 1) := by decide +kernel
theorem dX12_must_30 : decode cX12_must 30 = .ok (.getfield 60, 3) := by decide +kernel
theorem dX12_must_33 : decode cX12_must 33 = .ok (.ifCond .eq 7, 3) := by decide +kernel
theorem dX12_must_36 : decode cX12_must 36 = .ok (.iconst 0, 1) := by decide +kernel
theorem dX12_must_37 : decode cX12_must 37 = .ok (.goto 4, 3) := by decide +kernel
theorem dX12_must_40 : decode cX12_must 40 = .ok (.iconst 1, 1) := by decide +kernel
theorem dX12_must_41 : decode cX12_must 41 = .ok (.iadd, 1) := by decide +kernel
theorem dX12_must_42 : decode cX12_must 42 = .ok (.putfield 54, 3) := by decide +kernel
theorem dX12_must_45 : decode cX12_must 45 = .ok (.return_, 1) := by decide +kernel
theorem dX12_spells_0 : decode cX12_spells 0 = .ok (.iconst 0, 1) := by decide +kernel
theorem dX12_spells_1 : decode cX12_spells 1 = .ok (.istore_n 2, 1) := by decide +kernel
theorem dX12_spells_2 : decode cX12_spells 2 = .ok (.iload_n 2, 1) := by decide +kernel
theorem dX12_spells_3 : decode cX12_spells 3 = .ok (.aload_n 1, 1) := by decide +kernel
theorem dX12_spells_4 : decode cX12_spells 4 = .ok (.invokevirtual 68, 3) := by decide +kernel
theorem dX12_spells_7 : decode cX12_spells 7 = .ok (.if_icmp .ge 18, 3) := by decide +kernel
theorem dX12_spells_10 : decode cX12_spells 10 = .ok (.aload_n 0, 1) := by decide +kernel
theorem dX12_spells_11 : decode cX12_spells 11 = .ok (.aload_n 1, 1) := by decide +kernel
theorem dX12_spells_12 : decode cX12_spells 12 = .ok (.iload_n 2, 1) := by decide +kernel
theorem dX12_spells_13 : decode cX12_spells 13 = .ok (.invokevirtual 73, 3) := by decide +kernel
theorem dX12_spells_16 : decode cX12_spells 16 = .ok (.invokevirtual 77, 3) := by decide +kernel
theorem dX12_spells_19 : decode cX12_spells 19 = .ok (.iinc 2 1, 3) := by decide +kernel
theorem dX12_spells_22 : decode cX12_spells 22 = .ok (.goto (-20), 3) := by decide +kernel
theorem dX12_spells_25 : decode cX12_spells 25 = .ok (.return_, 1) := by decide +kernel
theorem dX12_figures_0 : decode cX12_figures 0 = .ok (.aload_n 0, 1) := by decide +kernel
theorem dX12_figures_1 : decode cX12_figures 1 = .ok (.aload_n 0, 1) := by decide +kernel
theorem dX12_figures_2 : decode cX12_figures 2 = .ok (.getfield 60, 3) := by decide +kernel
theorem dX12_figures_5 : decode cX12_figures 5 = .ok (.ifCond .ne 17, 3) := by decide +kernel
theorem dX12_figures_8 : decode cX12_figures 8 = .ok (.aload_n 0, 1) := by decide +kernel
theorem dX12_figures_9 : decode cX12_figures 9 = .ok (.invokevirtual 64, 3) := by decide +kernel
theorem dX12_figures_12 : decode cX12_figures 12 = .ok (.bipush 48, 2) := by decide +kernel
theorem dX12_figures_14 : decode cX12_figures 14 = .ok (.bipush 57, 2) := by decide +kernel
theorem dX12_figures_16 : decode cX12_figures 16 = .ok (.invokestatic 41, 3) := by decide +kernel
theorem dX12_figures_19 : decode cX12_figures 19 = .ok (.ifCond .ne 7, 3) := by decide +kernel
theorem dX12_figures_22 : decode cX12_figures 22 = .ok (.iconst 1, 1) := by decide +kernel
theorem dX12_figures_23 : decode cX12_figures 23 = .ok (.goto 4, 3) := by decide +kernel
theorem dX12_figures_26 : decode cX12_figures 26 = .ok (.iconst 0, 1) := by decide +kernel
theorem dX12_figures_27 : decode cX12_figures 27 = .ok (.putfield 60, 3) := by decide +kernel
theorem dX12_figures_30 : decode cX12_figures 30 = .ok (.iconst 0, 1) := by decide +kernel
theorem dX12_figures_31 : decode cX12_figures 31 = .ok (.istore_n 1, 1) := by decide +kernel
theorem dX12_figures_32 : decode cX12_figures 32 = .ok (.iconst 0, 1) := by decide +kernel
theorem dX12_figures_33 : decode cX12_figures 33 = .ok (.istore_n 2, 1) := by decide +kernel
theorem dX12_figures_34 : decode cX12_figures 34 = .ok (.iload_n 2, 1) := by decide +kernel
theorem dX12_figures_35 : decode cX12_figures 35 = .ok (.iconst 3, 1) := by decide +kernel
theorem dX12_figures_36 : decode cX12_figures 36 = .ok (.if_icmp .ge 61, 3) := by decide +kernel
theorem dX12_figures_39 : decode cX12_figures 39 = .ok (.aload_n 0, 1) := by decide +kernel
theorem dX12_figures_40 : decode cX12_figures 40 = .ok (.getfield 60, 3) := by decide +kernel
theorem dX12_figures_43 : decode cX12_figures 43 = .ok (.ifCond .ne 54, 3) := by decide +kernel
theorem dX12_figures_46 : decode cX12_figures 46 = .ok (.aload_n 0, 1) := by decide +kernel
theorem dX12_figures_47 : decode cX12_figures 47 = .ok (.invokevirtual 64, 3) := by decide +kernel
theorem dX12_figures_50 : decode cX12_figures 50 = .ok (.bipush 48, 2) := by decide +kernel
theorem dX12_figures_52 : decode cX12_figures 52 = .ok (.bipush 57, 2) := by decide +kernel
theorem dX12_figures_54 : decode cX12_figures 54 = .ok (.invokestatic 41, 3) := by decide +kernel
theorem dX12_figures_57 : decode cX12_figures 57 = .ok (.ifCond .eq 40, 3) := by decide +kernel
theorem dX12_figures_60 : decode cX12_figures 60 = .ok (.iload_n 2, 1) := by decide +kernel
theorem dX12_figures_61 : decode cX12_figures 61 = .ok (.ifCond .eq 7, 3) := by decide +kernel
theorem dX12_figures_64 : decode cX12_figures 64 = .ok (.iload_n 1, 1) := by decide +kernel
theorem dX12_figures_65 : decode cX12_figures 65 = .ok (.ifCond .le 32, 3) := by decide +kernel
theorem dX12_figures_68 : decode cX12_figures 68 = .ok (.bipush 10, 2) := by decide +kernel
theorem dX12_figures_70 : decode cX12_figures 70 = .ok (.iload_n 1, 1) := by decide +kernel
theorem dX12_figures_71 : decode cX12_figures 71 = .ok (.imul, 1) := by decide +kernel
theorem dX12_figures_72 : decode cX12_figures 72 = .ok (.aload_n 0, 1) := by decide +kernel
theorem dX12_figures_73 : decode cX12_figures 73 = .ok (.invokevirtual 64, 3) := by decide +kernel
theorem dX12_figures_76 : decode cX12_figures 76 = .ok (.iadd, 1) := by decide +kernel
theorem dX12_figures_77 : decode cX12_figures 77 = .ok (.bipush 48, 2) := by decide +kernel
theorem dX12_figures_79 : decode cX12_figures 79 = .ok (.isub, 1) := by decide +kernel
theorem dX12_figures_80 : decode cX12_figures 80 = .ok (.istore_n 1, 1) := by decide +kernel
theorem dX12_figures_81 : decode cX12_figures 81 = .ok (.aload_n 0, 1) := by decide +kernel
theorem dX12_figures_82 : decode cX12_figures 82 = .ok (.dup, 1) := by decide +kernel
theorem dX12_figures_83 : decode cX12_figures 83 = .ok (.getfield 54, 3) := by decide +kernel
theorem dX12_figures_86 : decode cX12_figures 86 = .ok (.iconst 1, 1) := by decide +kernel
theorem dX12_figures_87 : decode cX12_figures 87 = .ok (.iadd, 1) := by decide +kernel
theorem dX12_figures_88 : decode cX12_figures 88 = .ok (.putfield 54, 3) := by decide +kernel
theorem dX12_figures_91 : decode cX12_figures 91 = .ok (.iinc 2 1, 3) := by decide +kernel
theorem dX12_figures_94 : decode cX12_figures 94 = .ok (.goto (-60), 3) := by decide +kernel
theorem dX12_figures_97 : decode cX12_figures 97 = .ok (.iload_n 1, 1) := by decide +kernel
theorem dX12_figures_98 : decode cX12_figures 98 = .ok (.ireturn, 1) := by decide +kernel
theorem dX12_emits_0 : decode cX12_emits 0 = .ok (.aload_n 0, 1) := by decide +kernel
theorem dX12_emits_1 : decode cX12_emits 1 = .ok (.getfield 60, 3) := by decide +kernel
theorem dX12_emits_4 : decode cX12_emits 4 = .ok (.ifCond .ne 23, 3) := by decide +kernel
theorem dX12_emits_7 : decode cX12_emits 7 = .ok (.aload_n 0, 1) := by decide +kernel
theorem dX12_emits_8 : decode cX12_emits 8 = .ok (.getfield 18, 3) := by decide +kernel
theorem dX12_emits_11 : decode cX12_emits 11 = .ok (.aload_n 0, 1) := by decide +kernel
theorem dX12_emits_12 : decode cX12_emits 12 = .ok (.getfield 81, 3) := by decide +kernel
theorem dX12_emits_15 : decode cX12_emits 15 = .ok (.iload_n 1, 1) := by decide +kernel
theorem dX12_emits_16 : decode cX12_emits 16 = .ok (.iastore, 1) := by decide +kernel
theorem dX12_emits_17 : decode cX12_emits 17 = .ok (.aload_n 0, 1) := by decide +kernel
theorem dX12_emits_18 : decode cX12_emits 18 = .ok (.dup, 1) := by decide +kernel
theorem dX12_emits_19 : decode cX12_emits 19 = .ok (.getfield 81, 3) := by decide +kernel
theorem dX12_emits_22 : decode cX12_emits 22 = .ok (.iconst 1, 1) := by decide +kernel
theorem dX12_emits_23 : decode cX12_emits 23 = .ok (.iadd, 1) := by decide +kernel
theorem dX12_emits_24 : decode cX12_emits 24 = .ok (.putfield 81, 3) := by decide +kernel
theorem dX12_emits_27 : decode cX12_emits 27 = .ok (.return_, 1) := by decide +kernel
theorem dX12_factor_0 : decode cX12_factor 0 = .ok (.aload_n 0, 1) := by decide +kernel
theorem dX12_factor_1 : decode cX12_factor 1 = .ok (.getfield 60, 3) := by decide +kernel
theorem dX12_factor_4 : decode cX12_factor 4 = .ok (.ifCond .eq 4, 3) := by decide +kernel
theorem dX12_factor_7 : decode cX12_factor 7 = .ok (.return_, 1) := by decide +kernel
theorem dX12_factor_8 : decode cX12_factor 8 = .ok (.aload_n 0, 1) := by decide +kernel
theorem dX12_factor_9 : decode cX12_factor 9 = .ok (.invokevirtual 64, 3) := by decide +kernel
theorem dX12_factor_12 : decode cX12_factor 12 = .ok (.istore_n 1, 1) := by decide +kernel
theorem dX12_factor_13 : decode cX12_factor 13 = .ok (.iload_n 1, 1) := by decide +kernel
theorem dX12_factor_14 : decode cX12_factor 14 = .ok (.bipush 33, 2) := by decide +kernel
theorem dX12_factor_16 : decode cX12_factor 16 = .ok (.if_icmp .eq 9, 3) := by decide +kernel
theorem dX12_factor_19 : decode cX12_factor 19 = .ok (.iload_n 1, 1) := by decide +kernel
theorem dX12_factor_20 : decode cX12_factor 20 = .ok (.bipush 40, 2) := by decide +kernel
theorem dX12_factor_22 : decode cX12_factor 22 = .ok (.if_icmp .ne 90, 3) := by decide +kernel
theorem dX12_factor_25 : decode cX12_factor 25 = .ok (.aload_n 0, 1) := by decide +kernel
theorem dX12_factor_26 : decode cX12_factor 26 = .ok (.aload_n 0, 1) := by decide +kernel
theorem dX12_factor_27 : decode cX12_factor 27 = .ok (.getfield 84, 3) := by decide +kernel
theorem dX12_factor_30 : decode cX12_factor 30 = .ok (.iconst 5, 1) := by decide +kernel
theorem dX12_factor_31 : decode cX12_factor 31 = .ok (.if_icmp .ne 7, 3) := by decide +kernel
theorem dX12_factor_34 : decode cX12_factor 34 = .ok (.iconst 1, 1) := by decide +kernel
theorem dX12_factor_35 : decode cX12_factor 35 = .ok (.goto 4, 3) := by decide +kernel
theorem dX12_factor_38 : decode cX12_factor 38 = .ok (.iconst 0, 1) := by decide +kernel
theorem dX12_factor_39 : decode cX12_factor 39 = .ok (.putfield 60, 3) := by decide +kernel
theorem dX12_factor_42 : decode cX12_factor 42 = .ok (.aload_n 0, 1) := by decide +kernel
theorem dX12_factor_43 : decode cX12_factor 43 = .ok (.dup, 1) := by decide +kernel
theorem dX12_factor_44 : decode cX12_factor 44 = .ok (.getfield 84, 3) := by decide +kernel
theorem dX12_factor_47 : decode cX12_factor 47 = .ok (.iconst 1, 1) := by decide +kernel
theorem dX12_factor_48 : decode cX12_factor 48 = .ok (.iadd, 1) := by decide +kernel
theorem dX12_factor_49 : decode cX12_factor 49 = .ok (.putfield 84, 3) := by decide +kernel
theorem dX12_factor_52 : decode cX12_factor 52 = .ok (.aload_n 0, 1) := by decide +kernel
theorem dX12_factor_53 : decode cX12_factor 53 = .ok (.dup, 1) := by decide +kernel
theorem dX12_factor_54 : decode cX12_factor 54 = .ok (.getfield 54, 3) := by decide +kernel
theorem dX12_factor_57 : decode cX12_factor 57 = .ok (.aload_n 0, 1) := by decide +kernel
theorem dX12_factor_58 : decode cX12_factor 58 = .ok (.getfield 60, 3) := by decide +kernel
theorem dX12_factor_61 : decode cX12_factor 61 = .ok (.ifCond .eq 7, 3) := by decide +kernel
theorem dX12_factor_64 : decode cX12_factor 64 = .ok (.iconst 0, 1) := by decide +kernel
theorem dX12_factor_65 : decode cX12_factor 65 = .ok (.goto 4, 3) := by decide +kernel
theorem dX12_factor_68 : decode cX12_factor 68 = .ok (.iconst 1, 1) := by decide +kernel
theorem dX12_factor_69 : decode cX12_factor 69 = .ok (.iadd, 1) := by decide +kernel
theorem dX12_factor_70 : decode cX12_factor 70 = .ok (.putfield 54, 3) := by decide +kernel
theorem dX12_factor_73 : decode cX12_factor 73 = .ok (.iload_n 1, 1) := by decide +kernel
theorem dX12_factor_74 : decode cX12_factor 74 = .ok (.bipush 33, 2) := by decide +kernel
theorem dX12_factor_76 : decode cX12_factor 76 = .ok (.if_icmp .ne 15, 3) := by decide +kernel
theorem dX12_factor_79 : decode cX12_factor 79 = .ok (.aload_n 0, 1) := by decide +kernel
theorem dX12_factor_80 : decode cX12_factor 80 = .ok (.invokevirtual 87, 3) := by decide +kernel
theorem dX12_factor_83 : decode cX12_factor 83 = .ok (.aload_n 0, 1) := by decide +kernel
theorem dX12_factor_84 : decode cX12_factor 84 = .ok (.iconst (-1), 1) := by decide +kernel
theorem dX12_factor_85 : decode cX12_factor 85 = .ok (.invokevirtual 90, 3) := by decide +kernel
theorem dX12_factor_88 : decode cX12_factor 88 = .ok (.goto 13, 3) := by decide +kernel
theorem dX12_factor_91 : decode cX12_factor 91 = .ok (.aload_n 0, 1) := by decide +kernel
theorem dX12_factor_92 : decode cX12_factor 92 = .ok (.invokevirtual 93, 3) := by decide +kernel
theorem dX12_factor_95 : decode cX12_factor 95 = .ok (.aload_n 0, 1) := by decide +kernel
theorem dX12_factor_96 : decode cX12_factor 96 = .ok (.bipush 41, 2) := by decide +kernel
theorem dX12_factor_98 : decode cX12_factor 98 = .ok (.invokevirtual 77, 3) := by decide +kernel
theorem dX12_factor_101 : decode cX12_factor 101 = .ok (.aload_n 0, 1) := by decide +kernel
theorem dX12_factor_102 : decode cX12_factor 102 = .ok (.dup, 1) := by decide +kernel
theorem dX12_factor_103 : decode cX12_factor 103 = .ok (.getfield 84, 3) := by decide +kernel
theorem dX12_factor_106 : decode cX12_factor 106 = .ok (.iconst 1, 1) := by decide +kernel
theorem dX12_factor_107 : decode cX12_factor 107 = .ok (.isub, 1) := by decide +kernel
theorem dX12_factor_108 : decode cX12_factor 108 = .ok (.putfield 84, 3) := by decide +kernel
theorem dX12_factor_111 : decode cX12_factor 111 = .ok (.return_, 1) := by decide +kernel
theorem dX12_factor_112 : decode cX12_factor 112 = .ok (.aload_n 0, 1) := by decide +kernel
theorem dX12_factor_113 : decode cX12_factor 113 = .ok (.iload_n 1, 1) := by decide +kernel
theorem dX12_factor_114 : decode cX12_factor 114 = .ok (.bipush 109, 2) := by decide +kernel
theorem dX12_factor_116 : decode cX12_factor 116 = .ok (.if_icmp .eq 25, 3) := by decide +kernel
theorem dX12_factor_119 : decode cX12_factor 119 = .ok (.iload_n 1, 1) := by decide +kernel
theorem dX12_factor_120 : decode cX12_factor 120 = .ok (.bipush 115, 2) := by decide +kernel
theorem dX12_factor_122 : decode cX12_factor 122 = .ok (.if_icmp .eq 19, 3) := by decide +kernel
theorem dX12_factor_125 : decode cX12_factor 125 = .ok (.iload_n 1, 1) := by decide +kernel
theorem dX12_factor_126 : decode cX12_factor 126 = .ok (.bipush 111, 2) := by decide +kernel
theorem dX12_factor_128 : decode cX12_factor 128 = .ok (.if_icmp .eq 13, 3) := by decide +kernel
theorem dX12_factor_131 : decode cX12_factor 131 = .ok (.iload_n 1, 1) := by decide +kernel
theorem dX12_factor_132 : decode cX12_factor 132 = .ok (.bipush 107, 2) := by decide +kernel
theorem dX12_factor_134 : decode cX12_factor 134 = .ok (.if_icmp .eq 7, 3) := by decide +kernel
theorem dX12_factor_137 : decode cX12_factor 137 = .ok (.iconst 1, 1) := by decide +kernel
theorem dX12_factor_138 : decode cX12_factor 138 = .ok (.goto 4, 3) := by decide +kernel
theorem dX12_factor_141 : decode cX12_factor 141 = .ok (.iconst 0, 1) := by decide +kernel
theorem dX12_factor_142 : decode cX12_factor 142 = .ok (.putfield 60, 3) := by decide +kernel
theorem dX12_factor_145 : decode cX12_factor 145 = .ok (.aload_n 0, 1) := by decide +kernel
theorem dX12_factor_146 : decode cX12_factor 146 = .ok (.dup, 1) := by decide +kernel
theorem dX12_factor_147 : decode cX12_factor 147 = .ok (.getfield 54, 3) := by decide +kernel
theorem dX12_factor_150 : decode cX12_factor 150 = .ok (.aload_n 0, 1) := by decide +kernel
theorem dX12_factor_151 : decode cX12_factor 151 = .ok (.getfield 60, 3) := by decide +kernel
theorem dX12_factor_154 : decode cX12_factor 154 = .ok (.ifCond .eq 7, 3) := by decide +kernel
theorem dX12_factor_157 : decode cX12_factor 157 = .ok (.iconst 0, 1) := by decide +kernel
theorem dX12_factor_158 : decode cX12_factor 158 = .ok (.goto 4, 3) := by decide +kernel
theorem dX12_factor_161 : decode cX12_factor 161 = .ok (.iconst 1, 1) := by decide +kernel
theorem dX12_factor_162 : decode cX12_factor 162 = .ok (.iadd, 1) := by decide +kernel
theorem dX12_factor_163 : decode cX12_factor 163 = .ok (.putfield 54, 3) := by decide +kernel
theorem dX12_factor_166 : decode cX12_factor 166 = .ok (.aload_n 0, 1) := by decide +kernel
theorem dX12_factor_167 : decode cX12_factor 167 = .ok (.invokevirtual 64, 3) := by decide +kernel
theorem dX12_factor_170 : decode cX12_factor 170 = .ok (.istore_n 2, 1) := by decide +kernel
theorem dX12_factor_171 : decode cX12_factor 171 = .ok (.aload_n 0, 1) := by decide +kernel
theorem dX12_factor_172 : decode cX12_factor 172 = .ok (.aload_n 0, 1) := by decide +kernel
theorem dX12_factor_173 : decode cX12_factor 173 = .ok (.getfield 60, 3) := by decide +kernel
theorem dX12_factor_176 : decode cX12_factor 176 = .ok (.ifCond .ne 21, 3) := by decide +kernel
theorem dX12_factor_179 : decode cX12_factor 179 = .ok (.iload_n 2, 1) := by decide +kernel
theorem dX12_factor_180 : decode cX12_factor 180 = .ok (.bipush 60, 2) := by decide +kernel
theorem dX12_factor_182 : decode cX12_factor 182 = .ok (.if_icmp .eq 19, 3) := by decide +kernel
theorem dX12_factor_185 : decode cX12_factor 185 = .ok (.iload_n 2, 1) := by decide +kernel
theorem dX12_factor_186 : decode cX12_factor 186 = .ok (.bipush 61, 2) := by decide +kernel
theorem dX12_factor_188 : decode cX12_factor 188 = .ok (.if_icmp .eq 13, 3) := by decide +kernel
theorem dX12_factor_191 : decode cX12_factor 191 = .ok (.iload_n 2, 1) := by decide +kernel
theorem dX12_factor_192 : decode cX12_factor 192 = .ok (.bipush 62, 2) := by decide +kernel
theorem dX12_factor_194 : decode cX12_factor 194 = .ok (.if_icmp .eq 7, 3) := by decide +kernel
theorem dX12_factor_197 : decode cX12_factor 197 = .ok (.iconst 1, 1) := by decide +kernel
theorem dX12_factor_198 : decode cX12_factor 198 = .ok (.goto 4, 3) := by decide +kernel
theorem dX12_factor_201 : decode cX12_factor 201 = .ok (.iconst 0, 1) := by decide +kernel
theorem dX12_factor_202 : decode cX12_factor 202 = .ok (.putfield 60, 3) := by decide +kernel
theorem dX12_factor_205 : decode cX12_factor 205 = .ok (.aload_n 0, 1) := by decide +kernel
theorem dX12_factor_206 : decode cX12_factor 206 = .ok (.dup, 1) := by decide +kernel
theorem dX12_factor_207 : decode cX12_factor 207 = .ok (.getfield 54, 3) := by decide +kernel
theorem dX12_factor_210 : decode cX12_factor 210 = .ok (.aload_n 0, 1) := by decide +kernel
theorem dX12_factor_211 : decode cX12_factor 211 = .ok (.getfield 60, 3) := by decide +kernel
theorem dX12_factor_214 : decode cX12_factor 214 = .ok (.ifCond .eq 7, 3) := by decide +kernel
theorem dX12_factor_217 : decode cX12_factor 217 = .ok (.iconst 0, 1) := by decide +kernel
theorem dX12_factor_218 : decode cX12_factor 218 = .ok (.goto 4, 3) := by decide +kernel
theorem dX12_factor_221 : decode cX12_factor 221 = .ok (.iconst 1, 1) := by decide +kernel
theorem dX12_factor_222 : decode cX12_factor 222 = .ok (.iadd, 1) := by decide +kernel
theorem dX12_factor_223 : decode cX12_factor 223 = .ok (.putfield 54, 3) := by decide +kernel
theorem dX12_factor_226 : decode cX12_factor 226 = .ok (.aload_n 0, 1) := by decide +kernel
theorem dX12_factor_227 : decode cX12_factor 227 = .ok (.invokevirtual 96, 3) := by decide +kernel
theorem dX12_factor_230 : decode cX12_factor 230 = .ok (.istore_n 3, 1) := by decide +kernel
theorem dX12_factor_231 : decode cX12_factor 231 = .ok (.aload_n 0, 1) := by decide +kernel
theorem dX12_factor_232 : decode cX12_factor 232 = .ok (.iload_n 1, 1) := by decide +kernel
theorem dX12_factor_233 : decode cX12_factor 233 = .ok (.bipush 109, 2) := by decide +kernel
theorem dX12_factor_235 : decode cX12_factor 235 = .ok (.if_icmp .ne 7, 3) := by decide +kernel
theorem dX12_factor_238 : decode cX12_factor 238 = .ok (.iconst 0, 1) := by decide +kernel
theorem dX12_factor_239 : decode cX12_factor 239 = .ok (.goto 24, 3) := by decide +kernel
theorem dX12_factor_242 : decode cX12_factor 242 = .ok (.iload_n 1, 1) := by decide +kernel
theorem dX12_factor_243 : decode cX12_factor 243 = .ok (.bipush 115, 2) := by decide +kernel
theorem dX12_factor_245 : decode cX12_factor 245 = .ok (.if_icmp .ne 7, 3) := by decide +kernel
theorem dX12_factor_248 : decode cX12_factor 248 = .ok (.iconst 1, 1) := by decide +kernel
theorem dX12_factor_249 : decode cX12_factor 249 = .ok (.goto 14, 3) := by decide +kernel
theorem dX12_factor_252 : decode cX12_factor 252 = .ok (.iload_n 1, 1) := by decide +kernel
theorem dX12_factor_253 : decode cX12_factor 253 = .ok (.bipush 111, 2) := by decide +kernel
theorem dX12_factor_255 : decode cX12_factor 255 = .ok (.if_icmp .ne 7, 3) := by decide +kernel
theorem dX12_factor_258 : decode cX12_factor 258 = .ok (.iconst 2, 1) := by decide +kernel
theorem dX12_factor_259 : decode cX12_factor 259 = .ok (.goto 4, 3) := by decide +kernel
theorem dX12_factor_262 : decode cX12_factor 262 = .ok (.iconst 3, 1) := by decide +kernel
theorem dX12_factor_263 : decode cX12_factor 263 = .ok (.iconst 4, 1) := by decide +kernel
theorem dX12_factor_264 : decode cX12_factor 264 = .ok (.iload_n 2, 1) := by decide +kernel
theorem dX12_factor_265 : decode cX12_factor 265 = .ok (.bipush 60, 2) := by decide +kernel
theorem dX12_factor_267 : decode cX12_factor 267 = .ok (.if_icmp .ne 7, 3) := by decide +kernel
theorem dX12_factor_270 : decode cX12_factor 270 = .ok (.iconst 0, 1) := by decide +kernel
theorem dX12_factor_271 : decode cX12_factor 271 = .ok (.goto 14, 3) := by decide +kernel
theorem dX12_factor_274 : decode cX12_factor 274 = .ok (.iload_n 2, 1) := by decide +kernel
theorem dX12_factor_275 : decode cX12_factor 275 = .ok (.bipush 61, 2) := by decide +kernel
theorem dX12_factor_277 : decode cX12_factor 277 = .ok (.if_icmp .ne 7, 3) := by decide +kernel
theorem dX12_factor_280 : decode cX12_factor 280 = .ok (.iconst 1, 1) := by decide +kernel
theorem dX12_factor_281 : decode cX12_factor 281 = .ok (.goto 4, 3) := by decide +kernel
theorem dX12_factor_284 : decode cX12_factor 284 = .ok (.iconst 2, 1) := by decide +kernel
theorem dX12_factor_285 : decode cX12_factor 285 = .ok (.imul, 1) := by decide +kernel
theorem dX12_factor_286 : decode cX12_factor 286 = .ok (.iadd, 1) := by decide +kernel
theorem dX12_factor_287 : decode cX12_factor 287 = .ok (.bipush 16, 2) := by decide +kernel
theorem dX12_factor_289 : decode cX12_factor 289 = .ok (.iload_n 3, 1) := by decide +kernel
theorem dX12_factor_290 : decode cX12_factor 290 = .ok (.imul, 1) := by decide +kernel
theorem dX12_factor_291 : decode cX12_factor 291 = .ok (.iadd, 1) := by decide +kernel
theorem dX12_factor_292 : decode cX12_factor 292 = .ok (.invokevirtual 90, 3) := by decide +kernel
theorem dX12_factor_295 : decode cX12_factor 295 = .ok (.return_, 1) := by decide +kernel
theorem dX12_every_0 : decode cX12_every 0 = .ok (.aload_n 0, 1) := by decide +kernel
theorem dX12_every_1 : decode cX12_every 1 = .ok (.invokevirtual 87, 3) := by decide +kernel
theorem dX12_every_4 : decode cX12_every 4 = .ok (.aload_n 0, 1) := by decide +kernel
theorem dX12_every_5 : decode cX12_every 5 = .ok (.getfield 60, 3) := by decide +kernel
theorem dX12_every_8 : decode cX12_every 8 = .ok (.ifCond .ne 35, 3) := by decide +kernel
theorem dX12_every_11 : decode cX12_every 11 = .ok (.aload_n 0, 1) := by decide +kernel
theorem dX12_every_12 : decode cX12_every 12 = .ok (.invokevirtual 64, 3) := by decide +kernel
theorem dX12_every_15 : decode cX12_every 15 = .ok (.bipush 38, 2) := by decide +kernel
theorem dX12_every_17 : decode cX12_every 17 = .ok (.if_icmp .ne 26, 3) := by decide +kernel
theorem dX12_every_20 : decode cX12_every 20 = .ok (.aload_n 0, 1) := by decide +kernel
theorem dX12_every_21 : decode cX12_every 21 = .ok (.dup, 1) := by decide +kernel
theorem dX12_every_22 : decode cX12_every 22 = .ok (.getfield 54, 3) := by decide +kernel
theorem dX12_every_25 : decode cX12_every 25 = .ok (.iconst 1, 1) := by decide +kernel
theorem dX12_every_26 : decode cX12_every 26 = .ok (.iadd, 1) := by decide +kernel
theorem dX12_every_27 : decode cX12_every 27 = .ok (.putfield 54, 3) := by decide +kernel
theorem dX12_every_30 : decode cX12_every 30 = .ok (.aload_n 0, 1) := by decide +kernel
theorem dX12_every_31 : decode cX12_every 31 = .ok (.invokevirtual 87, 3) := by decide +kernel
theorem dX12_every_34 : decode cX12_every 34 = .ok (.aload_n 0, 1) := by decide +kernel
theorem dX12_every_35 : decode cX12_every 35 = .ok (.bipush (-2), 2) := by decide +kernel
theorem dX12_every_37 : decode cX12_every 37 = .ok (.invokevirtual 90, 3) := by decide +kernel
theorem dX12_every_40 : decode cX12_every 40 = .ok (.goto (-36), 3) := by decide +kernel
theorem dX12_every_43 : decode cX12_every 43 = .ok (.return_, 1) := by decide +kernel
theorem dX12_some_0 : decode cX12_some 0 = .ok (.aload_n 0, 1) := by decide +kernel
theorem dX12_some_1 : decode cX12_some 1 = .ok (.invokevirtual 99, 3) := by decide +kernel
theorem dX12_some_4 : decode cX12_some 4 = .ok (.aload_n 0, 1) := by decide +kernel
theorem dX12_some_5 : decode cX12_some 5 = .ok (.getfield 60, 3) := by decide +kernel
theorem dX12_some_8 : decode cX12_some 8 = .ok (.ifCond .ne 35, 3) := by decide +kernel
theorem dX12_some_11 : decode cX12_some 11 = .ok (.aload_n 0, 1) := by decide +kernel
theorem dX12_some_12 : decode cX12_some 12 = .ok (.invokevirtual 64, 3) := by decide +kernel
theorem dX12_some_15 : decode cX12_some 15 = .ok (.bipush 124, 2) := by decide +kernel
theorem dX12_some_17 : decode cX12_some 17 = .ok (.if_icmp .ne 26, 3) := by decide +kernel
theorem dX12_some_20 : decode cX12_some 20 = .ok (.aload_n 0, 1) := by decide +kernel
theorem dX12_some_21 : decode cX12_some 21 = .ok (.dup, 1) := by decide +kernel
theorem dX12_some_22 : decode cX12_some 22 = .ok (.getfield 54, 3) := by decide +kernel
theorem dX12_some_25 : decode cX12_some 25 = .ok (.iconst 1, 1) := by decide +kernel
theorem dX12_some_26 : decode cX12_some 26 = .ok (.iadd, 1) := by decide +kernel
theorem dX12_some_27 : decode cX12_some 27 = .ok (.putfield 54, 3) := by decide +kernel
theorem dX12_some_30 : decode cX12_some 30 = .ok (.aload_n 0, 1) := by decide +kernel
theorem dX12_some_31 : decode cX12_some 31 = .ok (.invokevirtual 99, 3) := by decide +kernel
theorem dX12_some_34 : decode cX12_some 34 = .ok (.aload_n 0, 1) := by decide +kernel
theorem dX12_some_35 : decode cX12_some 35 = .ok (.bipush (-3), 2) := by decide +kernel
theorem dX12_some_37 : decode cX12_some 37 = .ok (.invokevirtual 90, 3) := by decide +kernel
theorem dX12_some_40 : decode cX12_some 40 = .ok (.goto (-36), 3) := by decide +kernel
theorem dX12_some_43 : decode cX12_some 43 = .ok (.return_, 1) := by decide +kernel
theorem dX12_tells_0 : decode cX12_tells 0 = .ok (.aload_n 0, 1) := by decide +kernel
theorem dX12_tells_1 : decode cX12_tells 1 = .ok (.aload_n 2, 1) := by decide +kernel
theorem dX12_tells_2 : decode cX12_tells 2 = .ok (.invokevirtual 102, 3) := by decide +kernel
theorem dX12_tells_5 : decode cX12_tells 5 = .ok (.aload_n 0, 1) := by decide +kernel
theorem dX12_tells_6 : decode cX12_tells 6 = .ok (.invokevirtual 96, 3) := by decide +kernel
theorem dX12_tells_9 : decode cX12_tells 9 = .ok (.istore_n 3, 1) := by decide +kernel
theorem dX12_tells_10 : decode cX12_tells 10 = .ok (.aload_n 0, 1) := by decide +kernel
theorem dX12_tells_11 : decode cX12_tells 11 = .ok (.getfield 21, 3) := by decide +kernel
theorem dX12_tells_14 : decode cX12_tells 14 = .ok (.iload_n 1, 1) := by decide +kernel
theorem dX12_tells_15 : decode cX12_tells 15 = .ok (.aload_n 0, 1) := by decide +kernel
theorem dX12_tells_16 : decode cX12_tells 16 = .ok (.getfield 60, 3) := by decide +kernel
theorem dX12_tells_19 : decode cX12_tells 19 = .ok (.ifCond .eq 12, 3) := by decide +kernel
theorem dX12_tells_22 : decode cX12_tells 22 = .ok (.aload_n 0, 1) := by decide +kernel
theorem dX12_tells_23 : decode cX12_tells 23 = .ok (.getfield 21, 3) := by decide +kernel
theorem dX12_tells_26 : decode cX12_tells 26 = .ok (.iload_n 1, 1) := by decide +kernel
theorem dX12_tells_27 : decode cX12_tells 27 = .ok (.iaload, 1) := by decide +kernel
theorem dX12_tells_28 : decode cX12_tells 28 = .ok (.goto 4, 3) := by decide +kernel
theorem dX12_tells_31 : decode cX12_tells 31 = .ok (.iload_n 3, 1) := by decide +kernel
theorem dX12_tells_32 : decode cX12_tells 32 = .ok (.iastore, 1) := by decide +kernel
theorem dX12_tells_33 : decode cX12_tells 33 = .ok (.return_, 1) := by decide +kernel
theorem dX12_clause_0 : decode cX12_clause 0 = .ok (.aload_n 0, 1) := by decide +kernel
theorem dX12_clause_1 : decode cX12_clause 1 = .ok (.invokevirtual 64, 3) := by decide +kernel
theorem dX12_clause_4 : decode cX12_clause 4 = .ok (.lookupswitch 106 #[(99, 44), (108, 86), (116, 96), (119, 76)], 44) := by decide +kernel
theorem dX12_clause_48 : decode cX12_clause 48 = .ok (.aload_n 0, 1) := by decide +kernel
theorem dX12_clause_49 : decode cX12_clause 49 = .ok (.ldc 106, 2) := by decide +kernel
theorem dX12_clause_51 : decode cX12_clause 51 = .ok (.invokevirtual 102, 3) := by decide +kernel
theorem dX12_clause_54 : decode cX12_clause 54 = .ok (.aload_n 0, 1) := by decide +kernel
theorem dX12_clause_55 : decode cX12_clause 55 = .ok (.invokevirtual 96, 3) := by decide +kernel
theorem dX12_clause_58 : decode cX12_clause 58 = .ok (.istore_n 1, 1) := by decide +kernel
theorem dX12_clause_59 : decode cX12_clause 59 = .ok (.aload_n 0, 1) := by decide +kernel
theorem dX12_clause_60 : decode cX12_clause 60 = .ok (.bipush 32, 2) := by decide +kernel
theorem dX12_clause_62 : decode cX12_clause 62 = .ok (.invokevirtual 77, 3) := by decide +kernel
theorem dX12_clause_65 : decode cX12_clause 65 = .ok (.aload_n 0, 1) := by decide +kernel
theorem dX12_clause_66 : decode cX12_clause 66 = .ok (.invokevirtual 93, 3) := by decide +kernel
theorem dX12_clause_69 : decode cX12_clause 69 = .ok (.aload_n 0, 1) := by decide +kernel
theorem dX12_clause_70 : decode cX12_clause 70 = .ok (.bipush (-10), 2) := by decide +kernel
theorem dX12_clause_72 : decode cX12_clause 72 = .ok (.iload_n 1, 1) := by decide +kernel
theorem dX12_clause_73 : decode cX12_clause 73 = .ok (.isub, 1) := by decide +kernel
theorem dX12_clause_74 : decode cX12_clause 74 = .ok (.invokevirtual 90, 3) := by decide +kernel
theorem dX12_clause_77 : decode cX12_clause 77 = .ok (.goto 38, 3) := by decide +kernel
theorem dX12_clause_80 : decode cX12_clause 80 = .ok (.aload_n 0, 1) := by decide +kernel
theorem dX12_clause_81 : decode cX12_clause 81 = .ok (.iconst 0, 1) := by decide +kernel
theorem dX12_clause_82 : decode cX12_clause 82 = .ok (.ldc 108, 2) := by decide +kernel
theorem dX12_clause_84 : decode cX12_clause 84 = .ok (.invokevirtual 110, 3) := by decide +kernel
theorem dX12_clause_87 : decode cX12_clause 87 = .ok (.goto 28, 3) := by decide +kernel
theorem dX12_clause_90 : decode cX12_clause 90 = .ok (.aload_n 0, 1) := by decide +kernel
theorem dX12_clause_91 : decode cX12_clause 91 = .ok (.iconst 1, 1) := by decide +kernel
theorem dX12_clause_92 : decode cX12_clause 92 = .ok (.ldc 114, 2) := by decide +kernel
theorem dX12_clause_94 : decode cX12_clause 94 = .ok (.invokevirtual 110, 3) := by decide +kernel
theorem dX12_clause_97 : decode cX12_clause 97 = .ok (.goto 18, 3) := by decide +kernel
theorem dX12_clause_100 : decode cX12_clause 100 = .ok (.aload_n 0, 1) := by decide +kernel
theorem dX12_clause_101 : decode cX12_clause 101 = .ok (.iconst 2, 1) := by decide +kernel
theorem dX12_clause_102 : decode cX12_clause 102 = .ok (.ldc 116, 2) := by decide +kernel
theorem dX12_clause_104 : decode cX12_clause 104 = .ok (.invokevirtual 110, 3) := by decide +kernel
theorem dX12_clause_107 : decode cX12_clause 107 = .ok (.goto 8, 3) := by decide +kernel
theorem dX12_clause_110 : decode cX12_clause 110 = .ok (.aload_n 0, 1) := by decide +kernel
theorem dX12_clause_111 : decode cX12_clause 111 = .ok (.iconst 1, 1) := by decide +kernel
theorem dX12_clause_112 : decode cX12_clause 112 = .ok (.putfield 60, 3) := by decide +kernel
theorem dX12_clause_115 : decode cX12_clause 115 = .ok (.return_, 1) := by decide +kernel
theorem dX12_world_0 : decode cX12_world 0 = .ok (.aload_n 0, 1) := by decide +kernel
theorem dX12_world_1 : decode cX12_world 1 = .ok (.aload_n 0, 1) := by decide +kernel
theorem dX12_world_2 : decode cX12_world 2 = .ok (.getfield 9, 3) := by decide +kernel
theorem dX12_world_5 : decode cX12_world 5 = .ok (.iconst 3, 1) := by decide +kernel
theorem dX12_world_6 : decode cX12_world 6 = .ok (.iaload, 1) := by decide +kernel
theorem dX12_world_7 : decode cX12_world 7 = .ok (.putfield 57, 3) := by decide +kernel
theorem dX12_world_10 : decode cX12_world 10 = .ok (.aload_n 0, 1) := by decide +kernel
theorem dX12_world_11 : decode cX12_world 11 = .ok (.getfield 9, 3) := by decide +kernel
theorem dX12_world_14 : decode cX12_world 14 = .ok (.iconst 3, 1) := by decide +kernel
theorem dX12_world_15 : decode cX12_world 15 = .ok (.iconst 0, 1) := by decide +kernel
theorem dX12_world_16 : decode cX12_world 16 = .ok (.iastore, 1) := by decide +kernel
theorem dX12_world_17 : decode cX12_world 17 = .ok (.aload_n 0, 1) := by decide +kernel
theorem dX12_world_18 : decode cX12_world 18 = .ok (.iconst 0, 1) := by decide +kernel
theorem dX12_world_19 : decode cX12_world 19 = .ok (.putfield 54, 3) := by decide +kernel
theorem dX12_world_22 : decode cX12_world 22 = .ok (.aload_n 0, 1) := by decide +kernel
theorem dX12_world_23 : decode cX12_world 23 = .ok (.iconst 0, 1) := by decide +kernel
theorem dX12_world_24 : decode cX12_world 24 = .ok (.putfield 60, 3) := by decide +kernel
theorem dX12_world_27 : decode cX12_world 27 = .ok (.aload_n 0, 1) := by decide +kernel
theorem dX12_world_28 : decode cX12_world 28 = .ok (.iconst 0, 1) := by decide +kernel
theorem dX12_world_29 : decode cX12_world 29 = .ok (.putfield 84, 3) := by decide +kernel
theorem dX12_world_32 : decode cX12_world 32 = .ok (.aload_n 0, 1) := by decide +kernel
theorem dX12_world_33 : decode cX12_world 33 = .ok (.iconst 0, 1) := by decide +kernel
theorem dX12_world_34 : decode cX12_world 34 = .ok (.putfield 81, 3) := by decide +kernel
theorem dX12_world_37 : decode cX12_world 37 = .ok (.iconst 0, 1) := by decide +kernel
theorem dX12_world_38 : decode cX12_world 38 = .ok (.istore_n 1, 1) := by decide +kernel
theorem dX12_world_39 : decode cX12_world 39 = .ok (.iload_n 1, 1) := by decide +kernel
theorem dX12_world_40 : decode cX12_world 40 = .ok (.iconst 3, 1) := by decide +kernel
theorem dX12_world_41 : decode cX12_world 41 = .ok (.if_icmp .ge 16, 3) := by decide +kernel
theorem dX12_world_44 : decode cX12_world 44 = .ok (.aload_n 0, 1) := by decide +kernel
theorem dX12_world_45 : decode cX12_world 45 = .ok (.getfield 21, 3) := by decide +kernel
theorem dX12_world_48 : decode cX12_world 48 = .ok (.iload_n 1, 1) := by decide +kernel
theorem dX12_world_49 : decode cX12_world 49 = .ok (.iconst 0, 1) := by decide +kernel
theorem dX12_world_50 : decode cX12_world 50 = .ok (.iastore, 1) := by decide +kernel
theorem dX12_world_51 : decode cX12_world 51 = .ok (.iinc 1 1, 3) := by decide +kernel
theorem dX12_world_54 : decode cX12_world 54 = .ok (.goto (-15), 3) := by decide +kernel
theorem dX12_world_57 : decode cX12_world 57 = .ok (.iconst 1, 1) := by decide +kernel
theorem dX12_world_58 : decode cX12_world 58 = .ok (.istore_n 1, 1) := by decide +kernel
theorem dX12_world_59 : decode cX12_world 59 = .ok (.aload_n 0, 1) := by decide +kernel
theorem dX12_world_60 : decode cX12_world 60 = .ok (.invokevirtual 118, 3) := by decide +kernel
theorem dX12_world_63 : decode cX12_world 63 = .ok (.aload_n 0, 1) := by decide +kernel
theorem dX12_world_64 : decode cX12_world 64 = .ok (.getfield 60, 3) := by decide +kernel
theorem dX12_world_67 : decode cX12_world 67 = .ok (.ifCond .ne 38, 3) := by decide +kernel
theorem dX12_world_70 : decode cX12_world 70 = .ok (.iload_n 1, 1) := by decide +kernel
theorem dX12_world_71 : decode cX12_world 71 = .ok (.bipush 10, 2) := by decide +kernel
theorem dX12_world_73 : decode cX12_world 73 = .ok (.if_icmp .ge 32, 3) := by decide +kernel
theorem dX12_world_76 : decode cX12_world 76 = .ok (.aload_n 0, 1) := by decide +kernel
theorem dX12_world_77 : decode cX12_world 77 = .ok (.invokevirtual 64, 3) := by decide +kernel
theorem dX12_world_80 : decode cX12_world 80 = .ok (.bipush 59, 2) := by decide +kernel
theorem dX12_world_82 : decode cX12_world 82 = .ok (.if_icmp .ne 23, 3) := by decide +kernel
theorem dX12_world_85 : decode cX12_world 85 = .ok (.aload_n 0, 1) := by decide +kernel
theorem dX12_world_86 : decode cX12_world 86 = .ok (.dup, 1) := by decide +kernel
theorem dX12_world_87 : decode cX12_world 87 = .ok (.getfield 54, 3) := by decide +kernel
theorem dX12_world_90 : decode cX12_world 90 = .ok (.iconst 1, 1) := by decide +kernel
theorem dX12_world_91 : decode cX12_world 91 = .ok (.iadd, 1) := by decide +kernel
theorem dX12_world_92 : decode cX12_world 92 = .ok (.putfield 54, 3) := by decide +kernel
theorem dX12_world_95 : decode cX12_world 95 = .ok (.aload_n 0, 1) := by decide +kernel
theorem dX12_world_96 : decode cX12_world 96 = .ok (.invokevirtual 118, 3) := by decide +kernel
theorem dX12_world_99 : decode cX12_world 99 = .ok (.iinc 1 1, 3) := by decide +kernel
theorem dX12_world_102 : decode cX12_world 102 = .ok (.goto (-39), 3) := by decide +kernel
theorem dX12_world_105 : decode cX12_world 105 = .ok (.aload_n 0, 1) := by decide +kernel
theorem dX12_world_106 : decode cX12_world 106 = .ok (.getfield 60, 3) := by decide +kernel
theorem dX12_world_109 : decode cX12_world 109 = .ok (.ifCond .ne 14, 3) := by decide +kernel
theorem dX12_world_112 : decode cX12_world 112 = .ok (.aload_n 0, 1) := by decide +kernel
theorem dX12_world_113 : decode cX12_world 113 = .ok (.getfield 54, 3) := by decide +kernel
theorem dX12_world_116 : decode cX12_world 116 = .ok (.aload_n 0, 1) := by decide +kernel
theorem dX12_world_117 : decode cX12_world 117 = .ok (.getfield 57, 3) := by decide +kernel
theorem dX12_world_120 : decode cX12_world 120 = .ok (.if_icmp .eq 11, 3) := by decide +kernel
theorem dX12_world_123 : decode cX12_world 123 = .ok (.bipush (-10), 2) := by decide +kernel
theorem dX12_world_125 : decode cX12_world 125 = .ok (.aload_n 0, 1) := by decide +kernel
theorem dX12_world_126 : decode cX12_world 126 = .ok (.getfield 54, 3) := by decide +kernel
theorem dX12_world_129 : decode cX12_world 129 = .ok (.isub, 1) := by decide +kernel
theorem dX12_world_130 : decode cX12_world 130 = .ok (.ireturn, 1) := by decide +kernel
theorem dX12_world_131 : decode cX12_world 131 = .ok (.iconst 0, 1) := by decide +kernel
theorem dX12_world_132 : decode cX12_world 132 = .ok (.istore_n 2, 1) := by decide +kernel
theorem dX12_world_133 : decode cX12_world 133 = .ok (.iload_n 2, 1) := by decide +kernel
theorem dX12_world_134 : decode cX12_world 134 = .ok (.aload_n 0, 1) := by decide +kernel
theorem dX12_world_135 : decode cX12_world 135 = .ok (.getfield 81, 3) := by decide +kernel
theorem dX12_world_138 : decode cX12_world 138 = .ok (.if_icmp .ge 25, 3) := by decide +kernel
theorem dX12_world_141 : decode cX12_world 141 = .ok (.aload_n 0, 1) := by decide +kernel
theorem dX12_world_142 : decode cX12_world 142 = .ok (.getfield 9, 3) := by decide +kernel
theorem dX12_world_145 : decode cX12_world 145 = .ok (.sipush 130, 3) := by decide +kernel
theorem dX12_world_148 : decode cX12_world 148 = .ok (.iload_n 2, 1) := by decide +kernel
theorem dX12_world_149 : decode cX12_world 149 = .ok (.iadd, 1) := by decide +kernel
theorem dX12_world_150 : decode cX12_world 150 = .ok (.aload_n 0, 1) := by decide +kernel
theorem dX12_world_151 : decode cX12_world 151 = .ok (.getfield 18, 3) := by decide +kernel
theorem dX12_world_154 : decode cX12_world 154 = .ok (.iload_n 2, 1) := by decide +kernel
theorem dX12_world_155 : decode cX12_world 155 = .ok (.iaload, 1) := by decide +kernel
theorem dX12_world_156 : decode cX12_world 156 = .ok (.iastore, 1) := by decide +kernel
theorem dX12_world_157 : decode cX12_world 157 = .ok (.iinc 2 1, 3) := by decide +kernel
theorem dX12_world_160 : decode cX12_world 160 = .ok (.goto (-27), 3) := by decide +kernel
theorem dX12_world_163 : decode cX12_world 163 = .ok (.aload_n 0, 1) := by decide +kernel
theorem dX12_world_164 : decode cX12_world 164 = .ok (.getfield 9, 3) := by decide +kernel
theorem dX12_world_167 : decode cX12_world 167 = .ok (.iconst 5, 1) := by decide +kernel
theorem dX12_world_168 : decode cX12_world 168 = .ok (.aload_n 0, 1) := by decide +kernel
theorem dX12_world_169 : decode cX12_world 169 = .ok (.getfield 81, 3) := by decide +kernel
theorem dX12_world_172 : decode cX12_world 172 = .ok (.iastore, 1) := by decide +kernel
theorem dX12_world_173 : decode cX12_world 173 = .ok (.iconst 0, 1) := by decide +kernel
theorem dX12_world_174 : decode cX12_world 174 = .ok (.istore_n 2, 1) := by decide +kernel
theorem dX12_world_175 : decode cX12_world 175 = .ok (.iload_n 2, 1) := by decide +kernel
theorem dX12_world_176 : decode cX12_world 176 = .ok (.iconst 3, 1) := by decide +kernel
theorem dX12_world_177 : decode cX12_world 177 = .ok (.if_icmp .ge 24, 3) := by decide +kernel
theorem dX12_world_180 : decode cX12_world 180 = .ok (.aload_n 0, 1) := by decide +kernel
theorem dX12_world_181 : decode cX12_world 181 = .ok (.getfield 9, 3) := by decide +kernel
theorem dX12_world_184 : decode cX12_world 184 = .ok (.bipush 6, 2) := by decide +kernel
theorem dX12_world_186 : decode cX12_world 186 = .ok (.iload_n 2, 1) := by decide +kernel
theorem dX12_world_187 : decode cX12_world 187 = .ok (.iadd, 1) := by decide +kernel
theorem dX12_world_188 : decode cX12_world 188 = .ok (.aload_n 0, 1) := by decide +kernel
theorem dX12_world_189 : decode cX12_world 189 = .ok (.getfield 21, 3) := by decide +kernel
theorem dX12_world_192 : decode cX12_world 192 = .ok (.iload_n 2, 1) := by decide +kernel
theorem dX12_world_193 : decode cX12_world 193 = .ok (.iaload, 1) := by decide +kernel
theorem dX12_world_194 : decode cX12_world 194 = .ok (.iastore, 1) := by decide +kernel
theorem dX12_world_195 : decode cX12_world 195 = .ok (.iinc 2 1, 3) := by decide +kernel
theorem dX12_world_198 : decode cX12_world 198 = .ok (.goto (-23), 3) := by decide +kernel
theorem dX12_world_201 : decode cX12_world 201 = .ok (.aload_n 0, 1) := by decide +kernel
theorem dX12_world_202 : decode cX12_world 202 = .ok (.getfield 9, 3) := by decide +kernel
theorem dX12_world_205 : decode cX12_world 205 = .ok (.iconst 1, 1) := by decide +kernel
theorem dX12_world_206 : decode cX12_world 206 = .ok (.dup2, 1) := by decide +kernel
theorem dX12_world_207 : decode cX12_world 207 = .ok (.iaload, 1) := by decide +kernel
theorem dX12_world_208 : decode cX12_world 208 = .ok (.iconst 1, 1) := by decide +kernel
theorem dX12_world_209 : decode cX12_world 209 = .ok (.iadd, 1) := by decide +kernel
theorem dX12_world_210 : decode cX12_world 210 = .ok (.iastore, 1) := by decide +kernel
theorem dX12_world_211 : decode cX12_world 211 = .ok (.aload_n 0, 1) := by decide +kernel
theorem dX12_world_212 : decode cX12_world 212 = .ok (.getfield 9, 3) := by decide +kernel
theorem dX12_world_215 : decode cX12_world 215 = .ok (.iconst 1, 1) := by decide +kernel
theorem dX12_world_216 : decode cX12_world 216 = .ok (.iaload, 1) := by decide +kernel
theorem dX12_world_217 : decode cX12_world 217 = .ok (.ireturn, 1) := by decide +kernel
theorem dX12_costOf_0 : decode cX12_costOf 0 = .ok (.iconst 0, 1) := by decide +kernel
theorem dX12_costOf_1 : decode cX12_costOf 1 = .ok (.istore_n 3, 1) := by decide +kernel
theorem dX12_costOf_2 : decode cX12_costOf 2 = .ok (.iconst 0, 1) := by decide +kernel
theorem dX12_costOf_3 : decode cX12_costOf 3 = .ok (.istore 4, 2) := by decide +kernel
theorem dX12_costOf_5 : decode cX12_costOf 5 = .ok (.sipush 130, 3) := by decide +kernel
theorem dX12_costOf_8 : decode cX12_costOf 8 = .ok (.istore 5, 2) := by decide +kernel
theorem dX12_costOf_10 : decode cX12_costOf 10 = .ok (.iload 5, 2) := by decide +kernel
theorem dX12_costOf_12 : decode cX12_costOf 12 = .ok (.sipush 130, 3) := by decide +kernel
theorem dX12_costOf_15 : decode cX12_costOf 15 = .ok (.aload_n 0, 1) := by decide +kernel
theorem dX12_costOf_16 : decode cX12_costOf 16 = .ok (.getfield 9, 3) := by decide +kernel
theorem dX12_costOf_19 : decode cX12_costOf 19 = .ok (.iconst 5, 1) := by decide +kernel
theorem dX12_costOf_20 : decode cX12_costOf 20 = .ok (.iaload, 1) := by decide +kernel
theorem dX12_costOf_21 : decode cX12_costOf 21 = .ok (.iadd, 1) := by decide +kernel
theorem dX12_costOf_22 : decode cX12_costOf 22 = .ok (.if_icmp .ge 321, 3) := by decide +kernel
theorem dX12_costOf_25 : decode cX12_costOf 25 = .ok (.aload_n 0, 1) := by decide +kernel
theorem dX12_costOf_26 : decode cX12_costOf 26 = .ok (.getfield 9, 3) := by decide +kernel
theorem dX12_costOf_29 : decode cX12_costOf 29 = .ok (.iload 5, 2) := by decide +kernel
theorem dX12_costOf_31 : decode cX12_costOf 31 = .ok (.iaload, 1) := by decide +kernel
theorem dX12_costOf_32 : decode cX12_costOf 32 = .ok (.istore 6, 2) := by decide +kernel
theorem dX12_costOf_34 : decode cX12_costOf 34 = .ok (.iload 6, 2) := by decide +kernel
theorem dX12_costOf_36 : decode cX12_costOf 36 = .ok (.ifCond .lt 162, 3) := by decide +kernel
theorem dX12_costOf_39 : decode cX12_costOf 39 = .ok (.iload 6, 2) := by decide +kernel
theorem dX12_costOf_41 : decode cX12_costOf 41 = .ok (.iconst 4, 1) := by decide +kernel
theorem dX12_costOf_42 : decode cX12_costOf 42 = .ok (.irem, 1) := by decide +kernel
theorem dX12_costOf_43 : decode cX12_costOf 43 = .ok (.istore 7, 2) := by decide +kernel
theorem dX12_costOf_45 : decode cX12_costOf 45 = .ok (.iload 7, 2) := by decide +kernel
theorem dX12_costOf_47 : decode cX12_costOf 47 = .ok (.ifCond .ne 30, 3) := by decide +kernel
theorem dX12_costOf_50 : decode cX12_costOf 50 = .ok (.aload_n 0, 1) := by decide +kernel
theorem dX12_costOf_51 : decode cX12_costOf 51 = .ok (.getfield 9, 3) := by decide +kernel
theorem dX12_costOf_54 : decode cX12_costOf 54 = .ok (.sipush 280, 3) := by decide +kernel
theorem dX12_costOf_57 : decode cX12_costOf 57 = .ok (.iload_n 1, 1) := by decide +kernel
theorem dX12_costOf_58 : decode cX12_costOf 58 = .ok (.iadd, 1) := by decide +kernel
theorem dX12_costOf_59 : decode cX12_costOf 59 = .ok (.iaload, 1) := by decide +kernel
theorem dX12_costOf_60 : decode cX12_costOf 60 = .ok (.aload_n 0, 1) := by decide +kernel
theorem dX12_costOf_61 : decode cX12_costOf 61 = .ok (.getfield 9, 3) := by decide +kernel
theorem dX12_costOf_64 : decode cX12_costOf 64 = .ok (.sipush 280, 3) := by decide +kernel
theorem dX12_costOf_67 : decode cX12_costOf 67 = .ok (.iload_n 2, 1) := by decide +kernel
theorem dX12_costOf_68 : decode cX12_costOf 68 = .ok (.iadd, 1) := by decide +kernel
theorem dX12_costOf_69 : decode cX12_costOf 69 = .ok (.iaload, 1) := by decide +kernel
theorem dX12_costOf_70 : decode cX12_costOf 70 = .ok (.isub, 1) := by decide +kernel
theorem dX12_costOf_71 : decode cX12_costOf 71 = .ok (.invokestatic 121, 3) := by decide +kernel
theorem dX12_costOf_74 : decode cX12_costOf 74 = .ok (.goto 42, 3) := by decide +kernel
theorem dX12_costOf_77 : decode cX12_costOf 77 = .ok (.iload 7, 2) := by decide +kernel
theorem dX12_costOf_79 : decode cX12_costOf 79 = .ok (.iconst 1, 1) := by decide +kernel
theorem dX12_costOf_80 : decode cX12_costOf 80 = .ok (.if_icmp .ne 16, 3) := by decide +kernel
theorem dX12_costOf_83 : decode cX12_costOf 83 = .ok (.aload_n 0, 1) := by decide +kernel
theorem dX12_costOf_84 : decode cX12_costOf 84 = .ok (.getfield 9, 3) := by decide +kernel
theorem dX12_costOf_87 : decode cX12_costOf 87 = .ok (.sipush 270, 3) := by decide +kernel
theorem dX12_costOf_90 : decode cX12_costOf 90 = .ok (.iload_n 1, 1) := by decide +kernel
theorem dX12_costOf_91 : decode cX12_costOf 91 = .ok (.iadd, 1) := by decide +kernel
theorem dX12_costOf_92 : decode cX12_costOf 92 = .ok (.iaload, 1) := by decide +kernel
theorem dX12_costOf_93 : decode cX12_costOf 93 = .ok (.goto 23, 3) := by decide +kernel
theorem dX12_costOf_96 : decode cX12_costOf 96 = .ok (.iload 7, 2) := by decide +kernel
theorem dX12_costOf_98 : decode cX12_costOf 98 = .ok (.iconst 2, 1) := by decide +kernel
theorem dX12_costOf_99 : decode cX12_costOf 99 = .ok (.if_icmp .ne 16, 3) := by decide +kernel
theorem dX12_costOf_102 : decode cX12_costOf 102 = .ok (.aload_n 0, 1) := by decide +kernel
theorem dX12_costOf_103 : decode cX12_costOf 103 = .ok (.getfield 9, 3) := by decide +kernel
theorem dX12_costOf_106 : decode cX12_costOf 106 = .ok (.sipush 270, 3) := by decide +kernel
theorem dX12_costOf_109 : decode cX12_costOf 109 = .ok (.iload_n 2, 1) := by decide +kernel
theorem dX12_costOf_110 : decode cX12_costOf 110 = .ok (.iadd, 1) := by decide +kernel
theorem dX12_costOf_111 : decode cX12_costOf 111 = .ok (.iaload, 1) := by decide +kernel
theorem dX12_costOf_112 : decode cX12_costOf 112 = .ok (.goto 4, 3) := by decide +kernel
theorem dX12_costOf_115 : decode cX12_costOf 115 = .ok (.iload_n 1, 1) := by decide +kernel
theorem dX12_costOf_116 : decode cX12_costOf 116 = .ok (.istore 8, 2) := by decide +kernel
theorem dX12_costOf_118 : decode cX12_costOf 118 = .ok (.iload 6, 2) := by decide +kernel
theorem dX12_costOf_120 : decode cX12_costOf 120 = .ok (.iconst 4, 1) := by decide +kernel
theorem dX12_costOf_121 : decode cX12_costOf 121 = .ok (.idiv, 1) := by decide +kernel
theorem dX12_costOf_122 : decode cX12_costOf 122 = .ok (.iconst 4, 1) := by decide +kernel
theorem dX12_costOf_123 : decode cX12_costOf 123 = .ok (.irem, 1) := by decide +kernel
theorem dX12_costOf_124 : decode cX12_costOf 124 = .ok (.istore 9, 2) := by decide +kernel
theorem dX12_costOf_126 : decode cX12_costOf 126 = .ok (.iload 6, 2) := by decide +kernel
theorem dX12_costOf_128 : decode cX12_costOf 128 = .ok (.bipush 16, 2) := by decide +kernel
theorem dX12_costOf_130 : decode cX12_costOf 130 = .ok (.idiv, 1) := by decide +kernel
theorem dX12_costOf_131 : decode cX12_costOf 131 = .ok (.istore 10, 2) := by decide +kernel
theorem dX12_costOf_133 : decode cX12_costOf 133 = .ok (.aload_n 0, 1) := by decide +kernel
theorem dX12_costOf_134 : decode cX12_costOf 134 = .ok (.getfield 24, 3) := by decide +kernel
theorem dX12_costOf_137 : decode cX12_costOf 137 = .ok (.iload_n 3, 1) := by decide +kernel
theorem dX12_costOf_138 : decode cX12_costOf 138 = .ok (.iload 9, 2) := by decide +kernel
theorem dX12_costOf_140 : decode cX12_costOf 140 = .ok (.ifCond .ne 18, 3) := by decide +kernel
theorem dX12_costOf_143 : decode cX12_costOf 143 = .ok (.iload 8, 2) := by decide +kernel
theorem dX12_costOf_145 : decode cX12_costOf 145 = .ok (.iload 10, 2) := by decide +kernel
theorem dX12_costOf_147 : decode cX12_costOf 147 = .ok (.if_icmp .ge 7, 3) := by decide +kernel
theorem dX12_costOf_150 : decode cX12_costOf 150 = .ok (.iconst 1, 1) := by decide +kernel
theorem dX12_costOf_151 : decode cX12_costOf 151 = .ok (.goto 40, 3) := by decide +kernel
theorem dX12_costOf_154 : decode cX12_costOf 154 = .ok (.iconst 0, 1) := by decide +kernel
theorem dX12_costOf_155 : decode cX12_costOf 155 = .ok (.goto 36, 3) := by decide +kernel
theorem dX12_costOf_158 : decode cX12_costOf 158 = .ok (.iload 9, 2) := by decide +kernel
theorem dX12_costOf_160 : decode cX12_costOf 160 = .ok (.iconst 1, 1) := by decide +kernel
theorem dX12_costOf_161 : decode cX12_costOf 161 = .ok (.if_icmp .ne 18, 3) := by decide +kernel
theorem dX12_costOf_164 : decode cX12_costOf 164 = .ok (.iload 8, 2) := by decide +kernel
theorem dX12_costOf_166 : decode cX12_costOf 166 = .ok (.iload 10, 2) := by decide +kernel
theorem dX12_costOf_168 : decode cX12_costOf 168 = .ok (.if_icmp .ne 7, 3) := by decide +kernel
theorem dX12_costOf_171 : decode cX12_costOf 171 = .ok (.iconst 1, 1) := by decide +kernel
theorem dX12_costOf_172 : decode cX12_costOf 172 = .ok (.goto 19, 3) := by decide +kernel
theorem dX12_costOf_175 : decode cX12_costOf 175 = .ok (.iconst 0, 1) := by decide +kernel
theorem dX12_costOf_176 : decode cX12_costOf 176 = .ok (.goto 15, 3) := by decide +kernel
theorem dX12_costOf_179 : decode cX12_costOf 179 = .ok (.iload 8, 2) := by decide +kernel
theorem dX12_costOf_181 : decode cX12_costOf 181 = .ok (.iload 10, 2) := by decide +kernel
theorem dX12_costOf_183 : decode cX12_costOf 183 = .ok (.if_icmp .le 7, 3) := by decide +kernel
theorem dX12_costOf_186 : decode cX12_costOf 186 = .ok (.iconst 1, 1) := by decide +kernel
theorem dX12_costOf_187 : decode cX12_costOf 187 = .ok (.goto 4, 3) := by decide +kernel
theorem dX12_costOf_190 : decode cX12_costOf 190 = .ok (.iconst 0, 1) := by decide +kernel
theorem dX12_costOf_191 : decode cX12_costOf 191 = .ok (.bastore, 1) := by decide +kernel
theorem dX12_costOf_192 : decode cX12_costOf 192 = .ok (.iinc 3 1, 3) := by decide +kernel
theorem dX12_costOf_195 : decode cX12_costOf 195 = .ok (.goto 142, 3) := by decide +kernel
theorem dX12_costOf_198 : decode cX12_costOf 198 = .ok (.iload 6, 2) := by decide +kernel
theorem dX12_costOf_200 : decode cX12_costOf 200 = .ok (.iconst (-1), 1) := by decide +kernel
theorem dX12_costOf_201 : decode cX12_costOf 201 = .ok (.if_icmp .ne 30, 3) := by decide +kernel
theorem dX12_costOf_204 : decode cX12_costOf 204 = .ok (.aload_n 0, 1) := by decide +kernel
theorem dX12_costOf_205 : decode cX12_costOf 205 = .ok (.getfield 24, 3) := by decide +kernel
theorem dX12_costOf_208 : decode cX12_costOf 208 = .ok (.iload_n 3, 1) := by decide +kernel
theorem dX12_costOf_209 : decode cX12_costOf 209 = .ok (.iconst 1, 1) := by decide +kernel
theorem dX12_costOf_210 : decode cX12_costOf 210 = .ok (.isub, 1) := by decide +kernel
theorem dX12_costOf_211 : decode cX12_costOf 211 = .ok (.aload_n 0, 1) := by decide +kernel
theorem dX12_costOf_212 : decode cX12_costOf 212 = .ok (.getfield 24, 3) := by decide +kernel
theorem dX12_costOf_215 : decode cX12_costOf 215 = .ok (.iload_n 3, 1) := by decide +kernel
theorem dX12_costOf_216 : decode cX12_costOf 216 = .ok (.iconst 1, 1) := by decide +kernel
theorem dX12_costOf_217 : decode cX12_costOf 217 = .ok (.isub, 1) := by decide +kernel
theorem dX12_costOf_218 : decode cX12_costOf 218 = .ok (.baload, 1) := by decide +kernel
theorem dX12_costOf_219 : decode cX12_costOf 219 = .ok (.ifCond .ne 7, 3) := by decide +kernel
theorem dX12_costOf_222 : decode cX12_costOf 222 = .ok (.iconst 1, 1) := by decide +kernel
theorem dX12_costOf_223 : decode cX12_costOf 223 = .ok (.goto 4, 3) := by decide +kernel
theorem dX12_costOf_226 : decode cX12_costOf 226 = .ok (.iconst 0, 1) := by decide +kernel
theorem dX12_costOf_227 : decode cX12_costOf 227 = .ok (.bastore, 1) := by decide +kernel
theorem dX12_costOf_228 : decode cX12_costOf 228 = .ok (.goto 109, 3) := by decide +kernel
theorem dX12_costOf_231 : decode cX12_costOf 231 = .ok (.iload 6, 2) := by decide +kernel
theorem dX12_costOf_233 : decode cX12_costOf 233 = .ok (.bipush (-10), 2) := by decide +kernel
theorem dX12_costOf_235 : decode cX12_costOf 235 = .ok (.if_icmp .le 77, 3) := by decide +kernel
theorem dX12_costOf_238 : decode cX12_costOf 238 = .ok (.iinc 3 (-1), 3) := by decide +kernel
theorem dX12_costOf_241 : decode cX12_costOf 241 = .ok (.aload_n 0, 1) := by decide +kernel
theorem dX12_costOf_242 : decode cX12_costOf 242 = .ok (.getfield 24, 3) := by decide +kernel
theorem dX12_costOf_245 : decode cX12_costOf 245 = .ok (.iload_n 3, 1) := by decide +kernel
theorem dX12_costOf_246 : decode cX12_costOf 246 = .ok (.iconst 1, 1) := by decide +kernel
theorem dX12_costOf_247 : decode cX12_costOf 247 = .ok (.isub, 1) := by decide +kernel
theorem dX12_costOf_248 : decode cX12_costOf 248 = .ok (.iload 6, 2) := by decide +kernel
theorem dX12_costOf_250 : decode cX12_costOf 250 = .ok (.bipush (-2), 2) := by decide +kernel
theorem dX12_costOf_252 : decode cX12_costOf 252 = .ok (.if_icmp .ne 31, 3) := by decide +kernel
theorem dX12_costOf_255 : decode cX12_costOf 255 = .ok (.aload_n 0, 1) := by decide +kernel
theorem dX12_costOf_256 : decode cX12_costOf 256 = .ok (.getfield 24, 3) := by decide +kernel
theorem dX12_costOf_259 : decode cX12_costOf 259 = .ok (.iload_n 3, 1) := by decide +kernel
theorem dX12_costOf_260 : decode cX12_costOf 260 = .ok (.iconst 1, 1) := by decide +kernel
theorem dX12_costOf_261 : decode cX12_costOf 261 = .ok (.isub, 1) := by decide +kernel
theorem dX12_costOf_262 : decode cX12_costOf 262 = .ok (.baload, 1) := by decide +kernel
theorem dX12_costOf_263 : decode cX12_costOf 263 = .ok (.ifCond .eq 16, 3) := by decide +kernel
theorem dX12_costOf_266 : decode cX12_costOf 266 = .ok (.aload_n 0, 1) := by decide +kernel
theorem dX12_costOf_267 : decode cX12_costOf 267 = .ok (.getfield 24, 3) := by decide +kernel
theorem dX12_costOf_270 : decode cX12_costOf 270 = .ok (.iload_n 3, 1) := by decide +kernel
theorem dX12_costOf_271 : decode cX12_costOf 271 = .ok (.baload, 1) := by decide +kernel
theorem dX12_costOf_272 : decode cX12_costOf 272 = .ok (.ifCond .eq 7, 3) := by decide +kernel
theorem dX12_costOf_275 : decode cX12_costOf 275 = .ok (.iconst 1, 1) := by decide +kernel
theorem dX12_costOf_276 : decode cX12_costOf 276 = .ok (.goto 32, 3) := by decide +kernel
theorem dX12_costOf_279 : decode cX12_costOf 279 = .ok (.iconst 0, 1) := by decide +kernel
theorem dX12_costOf_280 : decode cX12_costOf 280 = .ok (.goto 28, 3) := by decide +kernel
theorem dX12_costOf_283 : decode cX12_costOf 283 = .ok (.aload_n 0, 1) := by decide +kernel
theorem dX12_costOf_284 : decode cX12_costOf 284 = .ok (.getfield 24, 3) := by decide +kernel
theorem dX12_costOf_287 : decode cX12_costOf 287 = .ok (.iload_n 3, 1) := by decide +kernel
theorem dX12_costOf_288 : decode cX12_costOf 288 = .ok (.iconst 1, 1) := by decide +kernel
theorem dX12_costOf_289 : decode cX12_costOf 289 = .ok (.isub, 1) := by decide +kernel
theorem dX12_costOf_290 : decode cX12_costOf 290 = .ok (.baload, 1) := by decide +kernel
theorem dX12_costOf_291 : decode cX12_costOf 291 = .ok (.ifCond .ne 12, 3) := by decide +kernel
theorem dX12_costOf_294 : decode cX12_costOf 294 = .ok (.aload_n 0, 1) := by decide +kernel
theorem dX12_costOf_295 : decode cX12_costOf 295 = .ok (.getfield 24, 3) := by decide +kernel
theorem dX12_costOf_298 : decode cX12_costOf 298 = .ok (.iload_n 3, 1) := by decide +kernel
theorem dX12_costOf_299 : decode cX12_costOf 299 = .ok (.baload, 1) := by decide +kernel
theorem dX12_costOf_300 : decode cX12_costOf 300 = .ok (.ifCond .eq 7, 3) := by decide +kernel
theorem dX12_costOf_303 : decode cX12_costOf 303 = .ok (.iconst 1, 1) := by decide +kernel
theorem dX12_costOf_304 : decode cX12_costOf 304 = .ok (.goto 4, 3) := by decide +kernel
theorem dX12_costOf_307 : decode cX12_costOf 307 = .ok (.iconst 0, 1) := by decide +kernel
theorem dX12_costOf_308 : decode cX12_costOf 308 = .ok (.bastore, 1) := by decide +kernel
theorem dX12_costOf_309 : decode cX12_costOf 309 = .ok (.goto 28, 3) := by decide +kernel
theorem dX12_costOf_312 : decode cX12_costOf 312 = .ok (.iconst 0, 1) := by decide +kernel
theorem dX12_costOf_313 : decode cX12_costOf 313 = .ok (.istore_n 3, 1) := by decide +kernel
theorem dX12_costOf_314 : decode cX12_costOf 314 = .ok (.iload 4, 2) := by decide +kernel
theorem dX12_costOf_316 : decode cX12_costOf 316 = .ok (.aload_n 0, 1) := by decide +kernel
theorem dX12_costOf_317 : decode cX12_costOf 317 = .ok (.getfield 24, 3) := by decide +kernel
theorem dX12_costOf_320 : decode cX12_costOf 320 = .ok (.iconst 0, 1) := by decide +kernel
theorem dX12_costOf_321 : decode cX12_costOf 321 = .ok (.baload, 1) := by decide +kernel
theorem dX12_costOf_322 : decode cX12_costOf 322 = .ok (.ifCond .eq 11, 3) := by decide +kernel
theorem dX12_costOf_325 : decode cX12_costOf 325 = .ok (.bipush (-10), 2) := by decide +kernel
theorem dX12_costOf_327 : decode cX12_costOf 327 = .ok (.iload 6, 2) := by decide +kernel
theorem dX12_costOf_329 : decode cX12_costOf 329 = .ok (.isub, 1) := by decide +kernel
theorem dX12_costOf_330 : decode cX12_costOf 330 = .ok (.goto 4, 3) := by decide +kernel
theorem dX12_costOf_333 : decode cX12_costOf 333 = .ok (.iconst 0, 1) := by decide +kernel
theorem dX12_costOf_334 : decode cX12_costOf 334 = .ok (.iadd, 1) := by decide +kernel
theorem dX12_costOf_335 : decode cX12_costOf 335 = .ok (.istore 4, 2) := by decide +kernel
theorem dX12_costOf_337 : decode cX12_costOf 337 = .ok (.iinc 5 1, 3) := by decide +kernel
theorem dX12_costOf_340 : decode cX12_costOf 340 = .ok (.goto (-330), 3) := by decide +kernel
theorem dX12_costOf_343 : decode cX12_costOf 343 = .ok (.iload 4, 2) := by decide +kernel
theorem dX12_costOf_345 : decode cX12_costOf 345 = .ok (.ireturn, 1) := by decide +kernel
theorem dX12_cost_0 : decode cX12_cost 0 = .ok (.aload_n 0, 1) := by decide +kernel
theorem dX12_cost_1 : decode cX12_cost 1 = .ok (.iload_n 1, 1) := by decide +kernel
theorem dX12_cost_2 : decode cX12_cost 2 = .ok (.invokevirtual 45, 3) := by decide +kernel
theorem dX12_cost_5 : decode cX12_cost 5 = .ok (.ifCond .eq 11, 3) := by decide +kernel
theorem dX12_cost_8 : decode cX12_cost 8 = .ok (.aload_n 0, 1) := by decide +kernel
theorem dX12_cost_9 : decode cX12_cost 9 = .ok (.iload_n 2, 1) := by decide +kernel
theorem dX12_cost_10 : decode cX12_cost 10 = .ok (.invokevirtual 45, 3) := by decide +kernel
theorem dX12_cost_13 : decode cX12_cost 13 = .ok (.ifCond .ne 5, 3) := by decide +kernel
theorem dX12_cost_16 : decode cX12_cost 16 = .ok (.iconst (-1), 1) := by decide +kernel
theorem dX12_cost_17 : decode cX12_cost 17 = .ok (.ireturn, 1) := by decide +kernel
theorem dX12_cost_18 : decode cX12_cost 18 = .ok (.iload_n 1, 1) := by decide +kernel
theorem dX12_cost_19 : decode cX12_cost 19 = .ok (.iload_n 2, 1) := by decide +kernel
theorem dX12_cost_20 : decode cX12_cost 20 = .ok (.if_icmp .ne 8, 3) := by decide +kernel
theorem dX12_cost_23 : decode cX12_cost 23 = .ok (.bipush (-2), 2) := by decide +kernel
theorem dX12_cost_25 : decode cX12_cost 25 = .ok (.goto 9, 3) := by decide +kernel
theorem dX12_cost_28 : decode cX12_cost 28 = .ok (.aload_n 0, 1) := by decide +kernel
theorem dX12_cost_29 : decode cX12_cost 29 = .ok (.iload_n 1, 1) := by decide +kernel
theorem dX12_cost_30 : decode cX12_cost 30 = .ok (.iload_n 2, 1) := by decide +kernel
theorem dX12_cost_31 : decode cX12_cost 31 = .ok (.invokevirtual 125, 3) := by decide +kernel
theorem dX12_cost_34 : decode cX12_cost 34 = .ok (.ireturn, 1) := by decide +kernel
theorem dX12_forceOf_0 : decode cX12_forceOf 0 = .ok (.sipush 1000, 3) := by decide +kernel
theorem dX12_forceOf_3 : decode cX12_forceOf 3 = .ok (.aload_n 0, 1) := by decide +kernel
theorem dX12_forceOf_4 : decode cX12_forceOf 4 = .ok (.getfield 9, 3) := by decide +kernel
theorem dX12_forceOf_7 : decode cX12_forceOf 7 = .ok (.sipush 270, 3) := by decide +kernel
theorem dX12_forceOf_10 : decode cX12_forceOf 10 = .ok (.iload_n 1, 1) := by decide +kernel
theorem dX12_forceOf_11 : decode cX12_forceOf 11 = .ok (.iadd, 1) := by decide +kernel
theorem dX12_forceOf_12 : decode cX12_forceOf 12 = .ok (.iaload, 1) := by decide +kernel
theorem dX12_forceOf_13 : decode cX12_forceOf 13 = .ok (.imul, 1) := by decide +kernel
theorem dX12_forceOf_14 : decode cX12_forceOf 14 = .ok (.aload_n 0, 1) := by decide +kernel
theorem dX12_forceOf_15 : decode cX12_forceOf 15 = .ok (.getfield 9, 3) := by decide +kernel
theorem dX12_forceOf_18 : decode cX12_forceOf 18 = .ok (.bipush 7, 2) := by decide +kernel
theorem dX12_forceOf_20 : decode cX12_forceOf 20 = .ok (.iaload, 1) := by decide +kernel
theorem dX12_forceOf_21 : decode cX12_forceOf 21 = .ok (.aload_n 0, 1) := by decide +kernel
theorem dX12_forceOf_22 : decode cX12_forceOf 22 = .ok (.getfield 9, 3) := by decide +kernel
theorem dX12_forceOf_25 : decode cX12_forceOf 25 = .ok (.sipush 280, 3) := by decide +kernel
theorem dX12_forceOf_28 : decode cX12_forceOf 28 = .ok (.iload_n 1, 1) := by decide +kernel
theorem dX12_forceOf_29 : decode cX12_forceOf 29 = .ok (.iadd, 1) := by decide +kernel
theorem dX12_forceOf_30 : decode cX12_forceOf 30 = .ok (.iaload, 1) := by decide +kernel
theorem dX12_forceOf_31 : decode cX12_forceOf 31 = .ok (.iload_n 2, 1) := by decide +kernel
theorem dX12_forceOf_32 : decode cX12_forceOf 32 = .ok (.isub, 1) := by decide +kernel
theorem dX12_forceOf_33 : decode cX12_forceOf 33 = .ok (.invokestatic 121, 3) := by decide +kernel
theorem dX12_forceOf_36 : decode cX12_forceOf 36 = .ok (.imul, 1) := by decide +kernel
theorem dX12_forceOf_37 : decode cX12_forceOf 37 = .ok (.isub, 1) := by decide +kernel
theorem dX12_forceOf_38 : decode cX12_forceOf 38 = .ok (.istore_n 3, 1) := by decide +kernel
theorem dX12_forceOf_39 : decode cX12_forceOf 39 = .ok (.iload_n 3, 1) := by decide +kernel
theorem dX12_forceOf_40 : decode cX12_forceOf 40 = .ok (.ifCond .ge 7, 3) := by decide +kernel
theorem dX12_forceOf_43 : decode cX12_forceOf 43 = .ok (.iconst 0, 1) := by decide +kernel
theorem dX12_forceOf_44 : decode cX12_forceOf 44 = .ok (.goto 4, 3) := by decide +kernel
theorem dX12_forceOf_47 : decode cX12_forceOf 47 = .ok (.iload_n 3, 1) := by decide +kernel
theorem dX12_forceOf_48 : decode cX12_forceOf 48 = .ok (.ireturn, 1) := by decide +kernel
theorem dX12_force_0 : decode cX12_force 0 = .ok (.aload_n 0, 1) := by decide +kernel
theorem dX12_force_1 : decode cX12_force 1 = .ok (.iload_n 1, 1) := by decide +kernel
theorem dX12_force_2 : decode cX12_force 2 = .ok (.invokevirtual 45, 3) := by decide +kernel
theorem dX12_force_5 : decode cX12_force 5 = .ok (.ifCond .ne 5, 3) := by decide +kernel
theorem dX12_force_8 : decode cX12_force 8 = .ok (.iconst (-1), 1) := by decide +kernel
theorem dX12_force_9 : decode cX12_force 9 = .ok (.ireturn, 1) := by decide +kernel
theorem dX12_force_10 : decode cX12_force 10 = .ok (.iload_n 2, 1) := by decide +kernel
theorem dX12_force_11 : decode cX12_force 11 = .ok (.iconst 0, 1) := by decide +kernel
theorem dX12_force_12 : decode cX12_force 12 = .ok (.bipush 40, 2) := by decide +kernel
theorem dX12_force_14 : decode cX12_force 14 = .ok (.invokestatic 41, 3) := by decide +kernel
theorem dX12_force_17 : decode cX12_force 17 = .ok (.ifCond .eq 12, 3) := by decide +kernel
theorem dX12_force_20 : decode cX12_force 20 = .ok (.aload_n 0, 1) := by decide +kernel
theorem dX12_force_21 : decode cX12_force 21 = .ok (.iload_n 1, 1) := by decide +kernel
theorem dX12_force_22 : decode cX12_force 22 = .ok (.iload_n 2, 1) := by decide +kernel
theorem dX12_force_23 : decode cX12_force 23 = .ok (.invokevirtual 129, 3) := by decide +kernel
theorem dX12_force_26 : decode cX12_force 26 = .ok (.goto 5, 3) := by decide +kernel
theorem dX12_force_29 : decode cX12_force 29 = .ok (.bipush (-2), 2) := by decide +kernel
theorem dX12_force_31 : decode cX12_force 31 = .ok (.ireturn, 1) := by decide +kernel
theorem dX12_standing_0 : decode cX12_standing 0 = .ok (.iload_n 1, 1) := by decide +kernel
theorem dX12_standing_1 : decode cX12_standing 1 = .ok (.iconst 0, 1) := by decide +kernel
theorem dX12_standing_2 : decode cX12_standing 2 = .ok (.bipush 6, 2) := by decide +kernel
theorem dX12_standing_4 : decode cX12_standing 4 = .ok (.invokestatic 41, 3) := by decide +kernel
theorem dX12_standing_7 : decode cX12_standing 7 = .ok (.ifCond .ne 5, 3) := by decide +kernel
theorem dX12_standing_10 : decode cX12_standing 10 = .ok (.iconst (-1), 1) := by decide +kernel
theorem dX12_standing_11 : decode cX12_standing 11 = .ok (.ireturn, 1) := by decide +kernel
theorem dX12_standing_12 : decode cX12_standing 12 = .ok (.iload_n 2, 1) := by decide +kernel
theorem dX12_standing_13 : decode cX12_standing 13 = .ok (.iconst 0, 1) := by decide +kernel
theorem dX12_standing_14 : decode cX12_standing 14 = .ok (.bipush 9, 2) := by decide +kernel
theorem dX12_standing_16 : decode cX12_standing 16 = .ok (.invokestatic 41, 3) := by decide +kernel
theorem dX12_standing_19 : decode cX12_standing 19 = .ok (.ifCond .ne 6, 3) := by decide +kernel
theorem dX12_standing_22 : decode cX12_standing 22 = .ok (.bipush (-2), 2) := by decide +kernel
theorem dX12_standing_24 : decode cX12_standing 24 = .ok (.ireturn, 1) := by decide +kernel
theorem dX12_standing_25 : decode cX12_standing 25 = .ok (.aload_n 0, 1) := by decide +kernel
theorem dX12_standing_26 : decode cX12_standing 26 = .ok (.getfield 9, 3) := by decide +kernel
theorem dX12_standing_29 : decode cX12_standing 29 = .ok (.iconst 2, 1) := by decide +kernel
theorem dX12_standing_30 : decode cX12_standing 30 = .ok (.iaload, 1) := by decide +kernel
theorem dX12_standing_31 : decode cX12_standing 31 = .ok (.bipush 8, 2) := by decide +kernel
theorem dX12_standing_33 : decode cX12_standing 33 = .ok (.if_icmp .ne 6, 3) := by decide +kernel
theorem dX12_standing_36 : decode cX12_standing 36 = .ok (.bipush (-4), 2) := by decide +kernel
theorem dX12_standing_38 : decode cX12_standing 38 = .ok (.ireturn, 1) := by decide +kernel
theorem dX12_standing_39 : decode cX12_standing 39 = .ok (.aload_n 0, 1) := by decide +kernel
theorem dX12_standing_40 : decode cX12_standing 40 = .ok (.getfield 9, 3) := by decide +kernel
theorem dX12_standing_43 : decode cX12_standing 43 = .ok (.iconst 2, 1) := by decide +kernel
theorem dX12_standing_44 : decode cX12_standing 44 = .ok (.iaload, 1) := by decide +kernel
theorem dX12_standing_45 : decode cX12_standing 45 = .ok (.istore_n 3, 1) := by decide +kernel
theorem dX12_standing_46 : decode cX12_standing 46 = .ok (.aload_n 0, 1) := by decide +kernel
theorem dX12_standing_47 : decode cX12_standing 47 = .ok (.getfield 9, 3) := by decide +kernel
theorem dX12_standing_50 : decode cX12_standing 50 = .ok (.sipush 410, 3) := by decide +kernel
theorem dX12_standing_53 : decode cX12_standing 53 = .ok (.iload_n 3, 1) := by decide +kernel
theorem dX12_standing_54 : decode cX12_standing 54 = .ok (.iadd, 1) := by decide +kernel
theorem dX12_standing_55 : decode cX12_standing 55 = .ok (.iload_n 1, 1) := by decide +kernel
theorem dX12_standing_56 : decode cX12_standing 56 = .ok (.iastore, 1) := by decide +kernel
theorem dX12_standing_57 : decode cX12_standing 57 = .ok (.aload_n 0, 1) := by decide +kernel
theorem dX12_standing_58 : decode cX12_standing 58 = .ok (.getfield 9, 3) := by decide +kernel
theorem dX12_standing_61 : decode cX12_standing 61 = .ok (.sipush 420, 3) := by decide +kernel
theorem dX12_standing_64 : decode cX12_standing 64 = .ok (.iload_n 3, 1) := by decide +kernel
theorem dX12_standing_65 : decode cX12_standing 65 = .ok (.iadd, 1) := by decide +kernel
theorem dX12_standing_66 : decode cX12_standing 66 = .ok (.iload_n 2, 1) := by decide +kernel
theorem dX12_standing_67 : decode cX12_standing 67 = .ok (.iastore, 1) := by decide +kernel
theorem dX12_standing_68 : decode cX12_standing 68 = .ok (.iconst 0, 1) := by decide +kernel
theorem dX12_standing_69 : decode cX12_standing 69 = .ok (.istore 4, 2) := by decide +kernel
theorem dX12_standing_71 : decode cX12_standing 71 = .ok (.iload 4, 2) := by decide +kernel
theorem dX12_standing_73 : decode cX12_standing 73 = .ok (.bipush 7, 2) := by decide +kernel
theorem dX12_standing_75 : decode cX12_standing 75 = .ok (.if_icmp .ge 27, 3) := by decide +kernel
theorem dX12_standing_78 : decode cX12_standing 78 = .ok (.aload_n 0, 1) := by decide +kernel
theorem dX12_standing_79 : decode cX12_standing 79 = .ok (.getfield 9, 3) := by decide +kernel
theorem dX12_standing_82 : decode cX12_standing 82 = .ok (.sipush 430, 3) := by decide +kernel
theorem dX12_standing_85 : decode cX12_standing 85 = .ok (.bipush 7, 2) := by decide +kernel
theorem dX12_standing_87 : decode cX12_standing 87 = .ok (.iload_n 3, 1) := by decide +kernel
theorem dX12_standing_88 : decode cX12_standing 88 = .ok (.imul, 1) := by decide +kernel
theorem dX12_standing_89 : decode cX12_standing 89 = .ok (.iadd, 1) := by decide +kernel
theorem dX12_standing_90 : decode cX12_standing 90 = .ok (.iload 4, 2) := by decide +kernel
theorem dX12_standing_92 : decode cX12_standing 92 = .ok (.iadd, 1) := by decide +kernel
theorem dX12_standing_93 : decode cX12_standing 93 = .ok (.iload 4, 2) := by decide +kernel
theorem dX12_standing_95 : decode cX12_standing 95 = .ok (.iastore, 1) := by decide +kernel
theorem dX12_standing_96 : decode cX12_standing 96 = .ok (.iinc 4 1, 3) := by decide +kernel
theorem dX12_standing_99 : decode cX12_standing 99 = .ok (.goto (-28), 3) := by decide +kernel
theorem dX12_standing_102 : decode cX12_standing 102 = .ok (.aload_n 0, 1) := by decide +kernel
theorem dX12_standing_103 : decode cX12_standing 103 = .ok (.getfield 9, 3) := by decide +kernel
theorem dX12_standing_106 : decode cX12_standing 106 = .ok (.iconst 2, 1) := by decide +kernel
theorem dX12_standing_107 : decode cX12_standing 107 = .ok (.dup2, 1) := by decide +kernel
theorem dX12_standing_108 : decode cX12_standing 108 = .ok (.iaload, 1) := by decide +kernel
theorem dX12_standing_109 : decode cX12_standing 109 = .ok (.iconst 1, 1) := by decide +kernel
theorem dX12_standing_110 : decode cX12_standing 110 = .ok (.iadd, 1) := by decide +kernel
theorem dX12_standing_111 : decode cX12_standing 111 = .ok (.iastore, 1) := by decide +kernel
theorem dX12_standing_112 : decode cX12_standing 112 = .ok (.iload_n 3, 1) := by decide +kernel
theorem dX12_standing_113 : decode cX12_standing 113 = .ok (.ireturn, 1) := by decide +kernel
theorem dX12_block_0 : decode cX12_block 0 = .ok (.aload_n 0, 1) := by decide +kernel
theorem dX12_block_1 : decode cX12_block 1 = .ok (.iload_n 1, 1) := by decide +kernel
theorem dX12_block_2 : decode cX12_block 2 = .ok (.invokevirtual 132, 3) := by decide +kernel
theorem dX12_block_5 : decode cX12_block 5 = .ok (.ifCond .eq 11, 3) := by decide +kernel
theorem dX12_block_8 : decode cX12_block 8 = .ok (.aload_n 0, 1) := by decide +kernel
theorem dX12_block_9 : decode cX12_block 9 = .ok (.iload_n 2, 1) := by decide +kernel
theorem dX12_block_10 : decode cX12_block 10 = .ok (.invokevirtual 45, 3) := by decide +kernel
theorem dX12_block_13 : decode cX12_block 13 = .ok (.ifCond .ne 5, 3) := by decide +kernel
theorem dX12_block_16 : decode cX12_block 16 = .ok (.iconst (-1), 1) := by decide +kernel
theorem dX12_block_17 : decode cX12_block 17 = .ok (.ireturn, 1) := by decide +kernel
theorem dX12_block_18 : decode cX12_block 18 = .ok (.iload_n 3, 1) := by decide +kernel
theorem dX12_block_19 : decode cX12_block 19 = .ok (.iconst 0, 1) := by decide +kernel
theorem dX12_block_20 : decode cX12_block 20 = .ok (.bipush 6, 2) := by decide +kernel
theorem dX12_block_22 : decode cX12_block 22 = .ok (.invokestatic 41, 3) := by decide +kernel
theorem dX12_block_25 : decode cX12_block 25 = .ok (.ifCond .ne 6, 3) := by decide +kernel
theorem dX12_block_28 : decode cX12_block 28 = .ok (.bipush (-2), 2) := by decide +kernel
theorem dX12_block_30 : decode cX12_block 30 = .ok (.ireturn, 1) := by decide +kernel
theorem dX12_block_31 : decode cX12_block 31 = .ok (.aload_n 0, 1) := by decide +kernel
theorem dX12_block_32 : decode cX12_block 32 = .ok (.getfield 9, 3) := by decide +kernel
theorem dX12_block_35 : decode cX12_block 35 = .ok (.sipush 430, 3) := by decide +kernel
theorem dX12_block_38 : decode cX12_block 38 = .ok (.bipush 7, 2) := by decide +kernel
theorem dX12_block_40 : decode cX12_block 40 = .ok (.iload_n 1, 1) := by decide +kernel
theorem dX12_block_41 : decode cX12_block 41 = .ok (.imul, 1) := by decide +kernel
theorem dX12_block_42 : decode cX12_block 42 = .ok (.iadd, 1) := by decide +kernel
theorem dX12_block_43 : decode cX12_block 43 = .ok (.iload_n 2, 1) := by decide +kernel
theorem dX12_block_44 : decode cX12_block 44 = .ok (.iadd, 1) := by decide +kernel
theorem dX12_block_45 : decode cX12_block 45 = .ok (.iaload, 1) := by decide +kernel
theorem dX12_block_46 : decode cX12_block 46 = .ok (.istore 4, 2) := by decide +kernel
theorem dX12_block_48 : decode cX12_block 48 = .ok (.aload_n 0, 1) := by decide +kernel
theorem dX12_block_49 : decode cX12_block 49 = .ok (.getfield 9, 3) := by decide +kernel
theorem dX12_block_52 : decode cX12_block 52 = .ok (.sipush 430, 3) := by decide +kernel
theorem dX12_block_55 : decode cX12_block 55 = .ok (.bipush 7, 2) := by decide +kernel
theorem dX12_block_57 : decode cX12_block 57 = .ok (.iload_n 1, 1) := by decide +kernel
theorem dX12_block_58 : decode cX12_block 58 = .ok (.imul, 1) := by decide +kernel
theorem dX12_block_59 : decode cX12_block 59 = .ok (.iadd, 1) := by decide +kernel
theorem dX12_block_60 : decode cX12_block 60 = .ok (.iload_n 2, 1) := by decide +kernel
theorem dX12_block_61 : decode cX12_block 61 = .ok (.iadd, 1) := by decide +kernel
theorem dX12_block_62 : decode cX12_block 62 = .ok (.iload_n 3, 1) := by decide +kernel
theorem dX12_block_63 : decode cX12_block 63 = .ok (.iastore, 1) := by decide +kernel
theorem dX12_block_64 : decode cX12_block 64 = .ok (.iload 4, 2) := by decide +kernel
theorem dX12_block_66 : decode cX12_block 66 = .ok (.ireturn, 1) := by decide +kernel
theorem dX12_takes_0 : decode cX12_takes 0 = .ok (.aload_n 0, 1) := by decide +kernel
theorem dX12_takes_1 : decode cX12_takes 1 = .ok (.aload_n 0, 1) := by decide +kernel
theorem dX12_takes_2 : decode cX12_takes 2 = .ok (.getfield 9, 3) := by decide +kernel
theorem dX12_takes_5 : decode cX12_takes 5 = .ok (.sipush 410, 3) := by decide +kernel
theorem dX12_takes_8 : decode cX12_takes 8 = .ok (.iload_n 1, 1) := by decide +kernel
theorem dX12_takes_9 : decode cX12_takes 9 = .ok (.iadd, 1) := by decide +kernel
theorem dX12_takes_10 : decode cX12_takes 10 = .ok (.iaload, 1) := by decide +kernel
theorem dX12_takes_11 : decode cX12_takes 11 = .ok (.putfield 135, 3) := by decide +kernel
theorem dX12_takes_14 : decode cX12_takes 14 = .ok (.aload_n 0, 1) := by decide +kernel
theorem dX12_takes_15 : decode cX12_takes 15 = .ok (.aload_n 0, 1) := by decide +kernel
theorem dX12_takes_16 : decode cX12_takes 16 = .ok (.getfield 9, 3) := by decide +kernel
theorem dX12_takes_19 : decode cX12_takes 19 = .ok (.sipush 420, 3) := by decide +kernel
theorem dX12_takes_22 : decode cX12_takes 22 = .ok (.iload_n 1, 1) := by decide +kernel
theorem dX12_takes_23 : decode cX12_takes 23 = .ok (.iadd, 1) := by decide +kernel
theorem dX12_takes_24 : decode cX12_takes 24 = .ok (.iaload, 1) := by decide +kernel
theorem dX12_takes_25 : decode cX12_takes 25 = .ok (.putfield 138, 3) := by decide +kernel
theorem dX12_takes_28 : decode cX12_takes 28 = .ok (.iconst 0, 1) := by decide +kernel
theorem dX12_takes_29 : decode cX12_takes 29 = .ok (.istore_n 2, 1) := by decide +kernel
theorem dX12_takes_30 : decode cX12_takes 30 = .ok (.iload_n 2, 1) := by decide +kernel
theorem dX12_takes_31 : decode cX12_takes 31 = .ok (.bipush 7, 2) := by decide +kernel
theorem dX12_takes_33 : decode cX12_takes 33 = .ok (.if_icmp .ge 30, 3) := by decide +kernel
theorem dX12_takes_36 : decode cX12_takes 36 = .ok (.aload_n 0, 1) := by decide +kernel
theorem dX12_takes_37 : decode cX12_takes 37 = .ok (.getfield 28, 3) := by decide +kernel
theorem dX12_takes_40 : decode cX12_takes 40 = .ok (.iload_n 2, 1) := by decide +kernel
theorem dX12_takes_41 : decode cX12_takes 41 = .ok (.aload_n 0, 1) := by decide +kernel
theorem dX12_takes_42 : decode cX12_takes 42 = .ok (.getfield 9, 3) := by decide +kernel
theorem dX12_takes_45 : decode cX12_takes 45 = .ok (.sipush 430, 3) := by decide +kernel
theorem dX12_takes_48 : decode cX12_takes 48 = .ok (.bipush 7, 2) := by decide +kernel
theorem dX12_takes_50 : decode cX12_takes 50 = .ok (.iload_n 1, 1) := by decide +kernel
theorem dX12_takes_51 : decode cX12_takes 51 = .ok (.imul, 1) := by decide +kernel
theorem dX12_takes_52 : decode cX12_takes 52 = .ok (.iadd, 1) := by decide +kernel
theorem dX12_takes_53 : decode cX12_takes 53 = .ok (.iload_n 2, 1) := by decide +kernel
theorem dX12_takes_54 : decode cX12_takes 54 = .ok (.iadd, 1) := by decide +kernel
theorem dX12_takes_55 : decode cX12_takes 55 = .ok (.iaload, 1) := by decide +kernel
theorem dX12_takes_56 : decode cX12_takes 56 = .ok (.iastore, 1) := by decide +kernel
theorem dX12_takes_57 : decode cX12_takes 57 = .ok (.iinc 2 1, 3) := by decide +kernel
theorem dX12_takes_60 : decode cX12_takes 60 = .ok (.goto (-30), 3) := by decide +kernel
theorem dX12_takes_63 : decode cX12_takes 63 = .ok (.return_, 1) := by decide +kernel
theorem dX12_blockOf_0 : decode cX12_blockOf 0 = .ok (.iconst 0, 1) := by decide +kernel
theorem dX12_blockOf_1 : decode cX12_blockOf 1 = .ok (.istore_n 2, 1) := by decide +kernel
theorem dX12_blockOf_2 : decode cX12_blockOf 2 = .ok (.iconst 0, 1) := by decide +kernel
theorem dX12_blockOf_3 : decode cX12_blockOf 3 = .ok (.istore_n 3, 1) := by decide +kernel
theorem dX12_blockOf_4 : decode cX12_blockOf 4 = .ok (.iload_n 3, 1) := by decide +kernel
theorem dX12_blockOf_5 : decode cX12_blockOf 5 = .ok (.aload_n 0, 1) := by decide +kernel
theorem dX12_blockOf_6 : decode cX12_blockOf 6 = .ok (.getfield 9, 3) := by decide +kernel
theorem dX12_blockOf_9 : decode cX12_blockOf 9 = .ok (.iconst 0, 1) := by decide +kernel
theorem dX12_blockOf_10 : decode cX12_blockOf 10 = .ok (.iaload, 1) := by decide +kernel
theorem dX12_blockOf_11 : decode cX12_blockOf 11 = .ok (.if_icmp .ge 37, 3) := by decide +kernel
theorem dX12_blockOf_14 : decode cX12_blockOf 14 = .ok (.iload_n 2, 1) := by decide +kernel
theorem dX12_blockOf_15 : decode cX12_blockOf 15 = .ok (.aload_n 0, 1) := by decide +kernel
theorem dX12_blockOf_16 : decode cX12_blockOf 16 = .ok (.iload_n 3, 1) := by decide +kernel
theorem dX12_blockOf_17 : decode cX12_blockOf 17 = .ok (.invokevirtual 49, 3) := by decide +kernel
theorem dX12_blockOf_20 : decode cX12_blockOf 20 = .ok (.ifCond .eq 19, 3) := by decide +kernel
theorem dX12_blockOf_23 : decode cX12_blockOf 23 = .ok (.aload_n 0, 1) := by decide +kernel
theorem dX12_blockOf_24 : decode cX12_blockOf 24 = .ok (.getfield 28, 3) := by decide +kernel
theorem dX12_blockOf_27 : decode cX12_blockOf 27 = .ok (.iload_n 3, 1) := by decide +kernel
theorem dX12_blockOf_28 : decode cX12_blockOf 28 = .ok (.iaload, 1) := by decide +kernel
theorem dX12_blockOf_29 : decode cX12_blockOf 29 = .ok (.iload_n 1, 1) := by decide +kernel
theorem dX12_blockOf_30 : decode cX12_blockOf 30 = .ok (.if_icmp .ne 9, 3) := by decide +kernel
theorem dX12_blockOf_33 : decode cX12_blockOf 33 = .ok (.iconst 1, 1) := by decide +kernel
theorem dX12_blockOf_34 : decode cX12_blockOf 34 = .ok (.iload_n 3, 1) := by decide +kernel
theorem dX12_blockOf_35 : decode cX12_blockOf 35 = .ok (.ishl, 1) := by decide +kernel
theorem dX12_blockOf_36 : decode cX12_blockOf 36 = .ok (.goto 4, 3) := by decide +kernel
theorem dX12_blockOf_39 : decode cX12_blockOf 39 = .ok (.iconst 0, 1) := by decide +kernel
theorem dX12_blockOf_40 : decode cX12_blockOf 40 = .ok (.ior, 1) := by decide +kernel
theorem dX12_blockOf_41 : decode cX12_blockOf 41 = .ok (.istore_n 2, 1) := by decide +kernel
theorem dX12_blockOf_42 : decode cX12_blockOf 42 = .ok (.iinc 3 1, 3) := by decide +kernel
theorem dX12_blockOf_45 : decode cX12_blockOf 45 = .ok (.goto (-41), 3) := by decide +kernel
theorem dX12_blockOf_48 : decode cX12_blockOf 48 = .ok (.iload_n 2, 1) := by decide +kernel
theorem dX12_blockOf_49 : decode cX12_blockOf 49 = .ok (.ireturn, 1) := by decide +kernel
theorem dX12_alive_0 : decode cX12_alive 0 = .ok (.iconst 0, 1) := by decide +kernel
theorem dX12_alive_1 : decode cX12_alive 1 = .ok (.istore_n 1, 1) := by decide +kernel
theorem dX12_alive_2 : decode cX12_alive 2 = .ok (.iconst 0, 1) := by decide +kernel
theorem dX12_alive_3 : decode cX12_alive 3 = .ok (.istore_n 2, 1) := by decide +kernel
theorem dX12_alive_4 : decode cX12_alive 4 = .ok (.iload_n 2, 1) := by decide +kernel
theorem dX12_alive_5 : decode cX12_alive 5 = .ok (.aload_n 0, 1) := by decide +kernel
theorem dX12_alive_6 : decode cX12_alive 6 = .ok (.getfield 9, 3) := by decide +kernel
theorem dX12_alive_9 : decode cX12_alive 9 = .ok (.iconst 0, 1) := by decide +kernel
theorem dX12_alive_10 : decode cX12_alive 10 = .ok (.iaload, 1) := by decide +kernel
theorem dX12_alive_11 : decode cX12_alive 11 = .ok (.if_icmp .ge 27, 3) := by decide +kernel
theorem dX12_alive_14 : decode cX12_alive 14 = .ok (.iload_n 1, 1) := by decide +kernel
theorem dX12_alive_15 : decode cX12_alive 15 = .ok (.aload_n 0, 1) := by decide +kernel
theorem dX12_alive_16 : decode cX12_alive 16 = .ok (.iload_n 2, 1) := by decide +kernel
theorem dX12_alive_17 : decode cX12_alive 17 = .ok (.invokevirtual 49, 3) := by decide +kernel
theorem dX12_alive_20 : decode cX12_alive 20 = .ok (.ifCond .eq 9, 3) := by decide +kernel
theorem dX12_alive_23 : decode cX12_alive 23 = .ok (.iconst 1, 1) := by decide +kernel
theorem dX12_alive_24 : decode cX12_alive 24 = .ok (.iload_n 2, 1) := by decide +kernel
theorem dX12_alive_25 : decode cX12_alive 25 = .ok (.ishl, 1) := by decide +kernel
theorem dX12_alive_26 : decode cX12_alive 26 = .ok (.goto 4, 3) := by decide +kernel
theorem dX12_alive_29 : decode cX12_alive 29 = .ok (.iconst 0, 1) := by decide +kernel
theorem dX12_alive_30 : decode cX12_alive 30 = .ok (.ior, 1) := by decide +kernel
theorem dX12_alive_31 : decode cX12_alive 31 = .ok (.istore_n 1, 1) := by decide +kernel
theorem dX12_alive_32 : decode cX12_alive 32 = .ok (.iinc 2 1, 3) := by decide +kernel
theorem dX12_alive_35 : decode cX12_alive 35 = .ok (.goto (-31), 3) := by decide +kernel
theorem dX12_alive_38 : decode cX12_alive 38 = .ok (.iload_n 1, 1) := by decide +kernel
theorem dX12_alive_39 : decode cX12_alive 39 = .ok (.ireturn, 1) := by decide +kernel
theorem dX12_strengths_0 : decode cX12_strengths 0 = .ok (.iconst 0, 1) := by decide +kernel
theorem dX12_strengths_1 : decode cX12_strengths 1 = .ok (.istore_n 2, 1) := by decide +kernel
theorem dX12_strengths_2 : decode cX12_strengths 2 = .ok (.iconst 0, 1) := by decide +kernel
theorem dX12_strengths_3 : decode cX12_strengths 3 = .ok (.istore_n 3, 1) := by decide +kernel
theorem dX12_strengths_4 : decode cX12_strengths 4 = .ok (.iload_n 3, 1) := by decide +kernel
theorem dX12_strengths_5 : decode cX12_strengths 5 = .ok (.aload_n 0, 1) := by decide +kernel
theorem dX12_strengths_6 : decode cX12_strengths 6 = .ok (.getfield 9, 3) := by decide +kernel
theorem dX12_strengths_9 : decode cX12_strengths 9 = .ok (.iconst 0, 1) := by decide +kernel
theorem dX12_strengths_10 : decode cX12_strengths 10 = .ok (.iaload, 1) := by decide +kernel
theorem dX12_strengths_11 : decode cX12_strengths 11 = .ok (.if_icmp .ge 35, 3) := by decide +kernel
theorem dX12_strengths_14 : decode cX12_strengths 14 = .ok (.iload_n 2, 1) := by decide +kernel
theorem dX12_strengths_15 : decode cX12_strengths 15 = .ok (.iload_n 1, 1) := by decide +kernel
theorem dX12_strengths_16 : decode cX12_strengths 16 = .ok (.iload_n 3, 1) := by decide +kernel
theorem dX12_strengths_17 : decode cX12_strengths 17 = .ok (.ishr, 1) := by decide +kernel
theorem dX12_strengths_18 : decode cX12_strengths 18 = .ok (.iconst 1, 1) := by decide +kernel
theorem dX12_strengths_19 : decode cX12_strengths 19 = .ok (.iand, 1) := by decide +kernel
theorem dX12_strengths_20 : decode cX12_strengths 20 = .ok (.iconst 1, 1) := by decide +kernel
theorem dX12_strengths_21 : decode cX12_strengths 21 = .ok (.if_icmp .ne 16, 3) := by decide +kernel
theorem dX12_strengths_24 : decode cX12_strengths 24 = .ok (.aload_n 0, 1) := by decide +kernel
theorem dX12_strengths_25 : decode cX12_strengths 25 = .ok (.getfield 9, 3) := by decide +kernel
theorem dX12_strengths_28 : decode cX12_strengths 28 = .ok (.sipush 270, 3) := by decide +kernel
theorem dX12_strengths_31 : decode cX12_strengths 31 = .ok (.iload_n 3, 1) := by decide +kernel
theorem dX12_strengths_32 : decode cX12_strengths 32 = .ok (.iadd, 1) := by decide +kernel
theorem dX12_strengths_33 : decode cX12_strengths 33 = .ok (.iaload, 1) := by decide +kernel
theorem dX12_strengths_34 : decode cX12_strengths 34 = .ok (.goto 4, 3) := by decide +kernel
theorem dX12_strengths_37 : decode cX12_strengths 37 = .ok (.iconst 0, 1) := by decide +kernel
theorem dX12_strengths_38 : decode cX12_strengths 38 = .ok (.iadd, 1) := by decide +kernel
theorem dX12_strengths_39 : decode cX12_strengths 39 = .ok (.istore_n 2, 1) := by decide +kernel
theorem dX12_strengths_40 : decode cX12_strengths 40 = .ok (.iinc 3 1, 3) := by decide +kernel
theorem dX12_strengths_43 : decode cX12_strengths 43 = .ok (.goto (-39), 3) := by decide +kernel
theorem dX12_strengths_46 : decode cX12_strengths 46 = .ok (.iload_n 2, 1) := by decide +kernel
theorem dX12_strengths_47 : decode cX12_strengths 47 = .ok (.ireturn, 1) := by decide +kernel
theorem dX12_sides_0 : decode cX12_sides 0 = .ok (.aload_n 0, 1) := by decide +kernel
theorem dX12_sides_1 : decode cX12_sides 1 = .ok (.getfield 28, 3) := by decide +kernel
theorem dX12_sides_4 : decode cX12_sides 4 = .ok (.iload_n 1, 1) := by decide +kernel
theorem dX12_sides_5 : decode cX12_sides 5 = .ok (.iaload, 1) := by decide +kernel
theorem dX12_sides_6 : decode cX12_sides 6 = .ok (.aload_n 0, 1) := by decide +kernel
theorem dX12_sides_7 : decode cX12_sides 7 = .ok (.getfield 28, 3) := by decide +kernel
theorem dX12_sides_10 : decode cX12_sides 10 = .ok (.iload_n 2, 1) := by decide +kernel
theorem dX12_sides_11 : decode cX12_sides 11 = .ok (.iaload, 1) := by decide +kernel
theorem dX12_sides_12 : decode cX12_sides 12 = .ok (.if_icmp .ne 7, 3) := by decide +kernel
theorem dX12_sides_15 : decode cX12_sides 15 = .ok (.iconst 1, 1) := by decide +kernel
theorem dX12_sides_16 : decode cX12_sides 16 = .ok (.goto 4, 3) := by decide +kernel
theorem dX12_sides_19 : decode cX12_sides 19 = .ok (.iconst 0, 1) := by decide +kernel
theorem dX12_sides_20 : decode cX12_sides 20 = .ok (.istore_n 3, 1) := by decide +kernel
theorem dX12_sides_21 : decode cX12_sides 21 = .ok (.aload_n 0, 1) := by decide +kernel
theorem dX12_sides_22 : decode cX12_sides 22 = .ok (.iload_n 3, 1) := by decide +kernel
theorem dX12_sides_23 : decode cX12_sides 23 = .ok (.ifCond .eq 7, 3) := by decide +kernel
theorem dX12_sides_26 : decode cX12_sides 26 = .ok (.iconst 0, 1) := by decide +kernel
theorem dX12_sides_27 : decode cX12_sides 27 = .ok (.goto 13, 3) := by decide +kernel
theorem dX12_sides_30 : decode cX12_sides 30 = .ok (.aload_n 0, 1) := by decide +kernel
theorem dX12_sides_31 : decode cX12_sides 31 = .ok (.aload_n 0, 1) := by decide +kernel
theorem dX12_sides_32 : decode cX12_sides 32 = .ok (.getfield 28, 3) := by decide +kernel
theorem dX12_sides_35 : decode cX12_sides 35 = .ok (.iload_n 1, 1) := by decide +kernel
theorem dX12_sides_36 : decode cX12_sides 36 = .ok (.iaload, 1) := by decide +kernel
theorem dX12_sides_37 : decode cX12_sides 37 = .ok (.invokevirtual 141, 3) := by decide +kernel
theorem dX12_sides_40 : decode cX12_sides 40 = .ok (.putfield 144, 3) := by decide +kernel
theorem dX12_sides_43 : decode cX12_sides 43 = .ok (.aload_n 0, 1) := by decide +kernel
theorem dX12_sides_44 : decode cX12_sides 44 = .ok (.iload_n 3, 1) := by decide +kernel
theorem dX12_sides_45 : decode cX12_sides 45 = .ok (.ifCond .eq 7, 3) := by decide +kernel
theorem dX12_sides_48 : decode cX12_sides 48 = .ok (.iconst 0, 1) := by decide +kernel
theorem dX12_sides_49 : decode cX12_sides 49 = .ok (.goto 13, 3) := by decide +kernel
theorem dX12_sides_52 : decode cX12_sides 52 = .ok (.aload_n 0, 1) := by decide +kernel
theorem dX12_sides_53 : decode cX12_sides 53 = .ok (.aload_n 0, 1) := by decide +kernel
theorem dX12_sides_54 : decode cX12_sides 54 = .ok (.getfield 28, 3) := by decide +kernel
theorem dX12_sides_57 : decode cX12_sides 57 = .ok (.iload_n 2, 1) := by decide +kernel
theorem dX12_sides_58 : decode cX12_sides 58 = .ok (.iaload, 1) := by decide +kernel
theorem dX12_sides_59 : decode cX12_sides 59 = .ok (.invokevirtual 141, 3) := by decide +kernel
theorem dX12_sides_62 : decode cX12_sides 62 = .ok (.putfield 147, 3) := by decide +kernel
theorem dX12_sides_65 : decode cX12_sides 65 = .ok (.aload_n 0, 1) := by decide +kernel
theorem dX12_sides_66 : decode cX12_sides 66 = .ok (.getfield 135, 3) := by decide +kernel
theorem dX12_sides_69 : decode cX12_sides 69 = .ok (.iconst 4, 1) := by decide +kernel
theorem dX12_sides_70 : decode cX12_sides 70 = .ok (.if_icmp .ne 51, 3) := by decide +kernel
theorem dX12_sides_73 : decode cX12_sides 73 = .ok (.iconst 2, 1) := by decide +kernel
theorem dX12_sides_74 : decode cX12_sides 74 = .ok (.aload_n 0, 1) := by decide +kernel
theorem dX12_sides_75 : decode cX12_sides 75 = .ok (.aload_n 0, 1) := by decide +kernel
theorem dX12_sides_76 : decode cX12_sides 76 = .ok (.aload_n 0, 1) := by decide +kernel
theorem dX12_sides_77 : decode cX12_sides 77 = .ok (.getfield 28, 3) := by decide +kernel
theorem dX12_sides_80 : decode cX12_sides 80 = .ok (.iload_n 1, 1) := by decide +kernel
theorem dX12_sides_81 : decode cX12_sides 81 = .ok (.iaload, 1) := by decide +kernel
theorem dX12_sides_82 : decode cX12_sides 82 = .ok (.invokevirtual 141, 3) := by decide +kernel
theorem dX12_sides_85 : decode cX12_sides 85 = .ok (.invokevirtual 150, 3) := by decide +kernel
theorem dX12_sides_88 : decode cX12_sides 88 = .ok (.imul, 1) := by decide +kernel
theorem dX12_sides_89 : decode cX12_sides 89 = .ok (.aload_n 0, 1) := by decide +kernel
theorem dX12_sides_90 : decode cX12_sides 90 = .ok (.aload_n 0, 1) := by decide +kernel
theorem dX12_sides_91 : decode cX12_sides 91 = .ok (.invokevirtual 153, 3) := by decide +kernel
theorem dX12_sides_94 : decode cX12_sides 94 = .ok (.invokevirtual 150, 3) := by decide +kernel
theorem dX12_sides_97 : decode cX12_sides 97 = .ok (.if_icmp .le 24, 3) := by decide +kernel
theorem dX12_sides_100 : decode cX12_sides 100 = .ok (.aload_n 0, 1) := by decide +kernel
theorem dX12_sides_101 : decode cX12_sides 101 = .ok (.aload_n 0, 1) := by decide +kernel
theorem dX12_sides_102 : decode cX12_sides 102 = .ok (.invokevirtual 153, 3) := by decide +kernel
theorem dX12_sides_105 : decode cX12_sides 105 = .ok (.aload_n 0, 1) := by decide +kernel
theorem dX12_sides_106 : decode cX12_sides 106 = .ok (.aload_n 0, 1) := by decide +kernel
theorem dX12_sides_107 : decode cX12_sides 107 = .ok (.getfield 28, 3) := by decide +kernel
theorem dX12_sides_110 : decode cX12_sides 110 = .ok (.iload_n 1, 1) := by decide +kernel
theorem dX12_sides_111 : decode cX12_sides 111 = .ok (.iaload, 1) := by decide +kernel
theorem dX12_sides_112 : decode cX12_sides 112 = .ok (.invokevirtual 141, 3) := by decide +kernel
theorem dX12_sides_115 : decode cX12_sides 115 = .ok (.iconst (-1), 1) := by decide +kernel
theorem dX12_sides_116 : decode cX12_sides 116 = .ok (.ixor, 1) := by decide +kernel
theorem dX12_sides_117 : decode cX12_sides 117 = .ok (.iand, 1) := by decide +kernel
theorem dX12_sides_118 : decode cX12_sides 118 = .ok (.putfield 147, 3) := by decide +kernel
theorem dX12_sides_121 : decode cX12_sides 121 = .ok (.return_, 1) := by decide +kernel
theorem dX12_pactOf_0 : decode cX12_pactOf 0 = .ok (.aload_n 0, 1) := by decide +kernel
theorem dX12_pactOf_1 : decode cX12_pactOf 1 = .ok (.getfield 9, 3) := by decide +kernel
theorem dX12_pactOf_4 : decode cX12_pactOf 4 = .ok (.sipush 360, 3) := by decide +kernel
theorem dX12_pactOf_7 : decode cX12_pactOf 7 = .ok (.bipush 7, 2) := by decide +kernel
theorem dX12_pactOf_9 : decode cX12_pactOf 9 = .ok (.iload_n 1, 1) := by decide +kernel
theorem dX12_pactOf_10 : decode cX12_pactOf 10 = .ok (.imul, 1) := by decide +kernel
theorem dX12_pactOf_11 : decode cX12_pactOf 11 = .ok (.iadd, 1) := by decide +kernel
theorem dX12_pactOf_12 : decode cX12_pactOf 12 = .ok (.iload_n 2, 1) := by decide +kernel
theorem dX12_pactOf_13 : decode cX12_pactOf 13 = .ok (.iadd, 1) := by decide +kernel
theorem dX12_pactOf_14 : decode cX12_pactOf 14 = .ok (.iaload, 1) := by decide +kernel
theorem dX12_pactOf_15 : decode cX12_pactOf 15 = .ok (.ireturn, 1) := by decide +kernel
theorem dX12_isTrue_0 : decode cX12_isTrue 0 = .ok (.aload_n 0, 1) := by decide +kernel
theorem dX12_isTrue_1 : decode cX12_isTrue 1 = .ok (.getfield 135, 3) := by decide +kernel
theorem dX12_isTrue_4 : decode cX12_isTrue 4 = .ok (.bipush 6, 2) := by decide +kernel
theorem dX12_isTrue_6 : decode cX12_isTrue 6 = .ok (.if_icmp .ne 19, 3) := by decide +kernel
theorem dX12_isTrue_9 : decode cX12_isTrue 9 = .ok (.aload_n 0, 1) := by decide +kernel
theorem dX12_isTrue_10 : decode cX12_isTrue 10 = .ok (.iload_n 1, 1) := by decide +kernel
theorem dX12_isTrue_11 : decode cX12_isTrue 11 = .ok (.iload_n 2, 1) := by decide +kernel
theorem dX12_isTrue_12 : decode cX12_isTrue 12 = .ok (.invokevirtual 125, 3) := by decide +kernel
theorem dX12_isTrue_15 : decode cX12_isTrue 15 = .ok (.aload_n 0, 1) := by decide +kernel
theorem dX12_isTrue_16 : decode cX12_isTrue 16 = .ok (.getfield 9, 3) := by decide +kernel
theorem dX12_isTrue_19 : decode cX12_isTrue 19 = .ok (.bipush 6, 2) := by decide +kernel
theorem dX12_isTrue_21 : decode cX12_isTrue 21 = .ok (.iaload, 1) := by decide +kernel
theorem dX12_isTrue_22 : decode cX12_isTrue 22 = .ok (.if_icmp .gt 7, 3) := by decide +kernel
theorem dX12_isTrue_25 : decode cX12_isTrue 25 = .ok (.iconst 1, 1) := by decide +kernel
theorem dX12_isTrue_26 : decode cX12_isTrue 26 = .ok (.goto 4, 3) := by decide +kernel
theorem dX12_isTrue_29 : decode cX12_isTrue 29 = .ok (.iconst 0, 1) := by decide +kernel
theorem dX12_isTrue_30 : decode cX12_isTrue 30 = .ok (.ireturn, 1) := by decide +kernel
theorem dX12_web_0 : decode cX12_web 0 = .ok (.aload_n 0, 1) := by decide +kernel
theorem dX12_web_1 : decode cX12_web 1 = .ok (.getfield 135, 3) := by decide +kernel
theorem dX12_web_4 : decode cX12_web 4 = .ok (.iconst 5, 1) := by decide +kernel
theorem dX12_web_5 : decode cX12_web 5 = .ok (.if_icmp .ne 26, 3) := by decide +kernel
theorem dX12_web_8 : decode cX12_web 8 = .ok (.iload_n 2, 1) := by decide +kernel
theorem dX12_web_9 : decode cX12_web 9 = .ok (.aload_n 0, 1) := by decide +kernel
theorem dX12_web_10 : decode cX12_web 10 = .ok (.getfield 138, 3) := by decide +kernel
theorem dX12_web_13 : decode cX12_web 13 = .ok (.if_icmp .ne 18, 3) := by decide +kernel
theorem dX12_web_16 : decode cX12_web 16 = .ok (.aload_n 0, 1) := by decide +kernel
theorem dX12_web_17 : decode cX12_web 17 = .ok (.aload_n 0, 1) := by decide +kernel
theorem dX12_web_18 : decode cX12_web 18 = .ok (.invokevirtual 153, 3) := by decide +kernel
theorem dX12_web_21 : decode cX12_web 21 = .ok (.iconst 1, 1) := by decide +kernel
theorem dX12_web_22 : decode cX12_web 22 = .ok (.iload_n 1, 1) := by decide +kernel
theorem dX12_web_23 : decode cX12_web 23 = .ok (.ishl, 1) := by decide +kernel
theorem dX12_web_24 : decode cX12_web 24 = .ok (.iconst (-1), 1) := by decide +kernel
theorem dX12_web_25 : decode cX12_web 25 = .ok (.ixor, 1) := by decide +kernel
theorem dX12_web_26 : decode cX12_web 26 = .ok (.iand, 1) := by decide +kernel
theorem dX12_web_27 : decode cX12_web 27 = .ok (.putfield 147, 3) := by decide +kernel
theorem dX12_web_30 : decode cX12_web 30 = .ok (.return_, 1) := by decide +kernel
theorem dX12_web_31 : decode cX12_web 31 = .ok (.iconst 0, 1) := by decide +kernel
theorem dX12_web_32 : decode cX12_web 32 = .ok (.istore_n 3, 1) := by decide +kernel
theorem dX12_web_33 : decode cX12_web 33 = .ok (.iload_n 3, 1) := by decide +kernel
theorem dX12_web_34 : decode cX12_web 34 = .ok (.aload_n 0, 1) := by decide +kernel
theorem dX12_web_35 : decode cX12_web 35 = .ok (.getfield 9, 3) := by decide +kernel
theorem dX12_web_38 : decode cX12_web 38 = .ok (.iconst 0, 1) := by decide +kernel
theorem dX12_web_39 : decode cX12_web 39 = .ok (.iaload, 1) := by decide +kernel
theorem dX12_web_40 : decode cX12_web 40 = .ok (.if_icmp .ge 171, 3) := by decide +kernel
theorem dX12_web_43 : decode cX12_web 43 = .ok (.aload_n 0, 1) := by decide +kernel
theorem dX12_web_44 : decode cX12_web 44 = .ok (.iload_n 3, 1) := by decide +kernel
theorem dX12_web_45 : decode cX12_web 45 = .ok (.iload_n 1, 1) := by decide +kernel
theorem dX12_web_46 : decode cX12_web 46 = .ok (.invokevirtual 156, 3) := by decide +kernel
theorem dX12_web_49 : decode cX12_web 49 = .ok (.istore 4, 2) := by decide +kernel
theorem dX12_web_51 : decode cX12_web 51 = .ok (.aload_n 0, 1) := by decide +kernel
theorem dX12_web_52 : decode cX12_web 52 = .ok (.iload_n 3, 1) := by decide +kernel
theorem dX12_web_53 : decode cX12_web 53 = .ok (.iload_n 2, 1) := by decide +kernel
theorem dX12_web_54 : decode cX12_web 54 = .ok (.invokevirtual 156, 3) := by decide +kernel
theorem dX12_web_57 : decode cX12_web 57 = .ok (.istore 5, 2) := by decide +kernel
theorem dX12_web_59 : decode cX12_web 59 = .ok (.iload 4, 2) := by decide +kernel
theorem dX12_web_61 : decode cX12_web 61 = .ok (.iconst 2, 1) := by decide +kernel
theorem dX12_web_62 : decode cX12_web 62 = .ok (.if_icmp .ne 7, 3) := by decide +kernel
theorem dX12_web_65 : decode cX12_web 65 = .ok (.iconst 1, 1) := by decide +kernel
theorem dX12_web_66 : decode cX12_web 66 = .ok (.goto 4, 3) := by decide +kernel
theorem dX12_web_69 : decode cX12_web 69 = .ok (.iconst 0, 1) := by decide +kernel
theorem dX12_web_70 : decode cX12_web 70 = .ok (.istore 6, 2) := by decide +kernel
theorem dX12_web_72 : decode cX12_web 72 = .ok (.iload 5, 2) := by decide +kernel
theorem dX12_web_74 : decode cX12_web 74 = .ok (.iconst 1, 1) := by decide +kernel
theorem dX12_web_75 : decode cX12_web 75 = .ok (.if_icmp .eq 9, 3) := by decide +kernel
theorem dX12_web_78 : decode cX12_web 78 = .ok (.iload 5, 2) := by decide +kernel
theorem dX12_web_80 : decode cX12_web 80 = .ok (.iconst 2, 1) := by decide +kernel
theorem dX12_web_81 : decode cX12_web 81 = .ok (.if_icmp .ne 7, 3) := by decide +kernel
theorem dX12_web_84 : decode cX12_web 84 = .ok (.iconst 1, 1) := by decide +kernel
theorem dX12_web_85 : decode cX12_web 85 = .ok (.goto 4, 3) := by decide +kernel
theorem dX12_web_88 : decode cX12_web 88 = .ok (.iconst 0, 1) := by decide +kernel
theorem dX12_web_89 : decode cX12_web 89 = .ok (.istore 7, 2) := by decide +kernel
theorem dX12_web_91 : decode cX12_web 91 = .ok (.aload_n 0, 1) := by decide +kernel
theorem dX12_web_92 : decode cX12_web 92 = .ok (.iload_n 3, 1) := by decide +kernel
theorem dX12_web_93 : decode cX12_web 93 = .ok (.invokevirtual 49, 3) := by decide +kernel
theorem dX12_web_96 : decode cX12_web 96 = .ok (.ifCond .eq 36, 3) := by decide +kernel
theorem dX12_web_99 : decode cX12_web 99 = .ok (.iload_n 3, 1) := by decide +kernel
theorem dX12_web_100 : decode cX12_web 100 = .ok (.iload_n 1, 1) := by decide +kernel
theorem dX12_web_101 : decode cX12_web 101 = .ok (.if_icmp .eq 31, 3) := by decide +kernel
theorem dX12_web_104 : decode cX12_web 104 = .ok (.iload_n 3, 1) := by decide +kernel
theorem dX12_web_105 : decode cX12_web 105 = .ok (.iload_n 2, 1) := by decide +kernel
theorem dX12_web_106 : decode cX12_web 106 = .ok (.if_icmp .eq 26, 3) := by decide +kernel
theorem dX12_web_109 : decode cX12_web 109 = .ok (.iload 4, 2) := by decide +kernel
theorem dX12_web_111 : decode cX12_web 111 = .ok (.iconst 3, 1) := by decide +kernel
theorem dX12_web_112 : decode cX12_web 112 = .ok (.if_icmp .eq 20, 3) := by decide +kernel
theorem dX12_web_115 : decode cX12_web 115 = .ok (.iload 5, 2) := by decide +kernel
theorem dX12_web_117 : decode cX12_web 117 = .ok (.iconst 3, 1) := by decide +kernel
theorem dX12_web_118 : decode cX12_web 118 = .ok (.if_icmp .eq 14, 3) := by decide +kernel
theorem dX12_web_121 : decode cX12_web 121 = .ok (.iload 6, 2) := by decide +kernel
theorem dX12_web_123 : decode cX12_web 123 = .ok (.iload 7, 2) := by decide +kernel
theorem dX12_web_125 : decode cX12_web 125 = .ok (.if_icmp .eq 7, 3) := by decide +kernel
theorem dX12_web_128 : decode cX12_web 128 = .ok (.iconst 1, 1) := by decide +kernel
theorem dX12_web_129 : decode cX12_web 129 = .ok (.goto 4, 3) := by decide +kernel
theorem dX12_web_132 : decode cX12_web 132 = .ok (.iconst 0, 1) := by decide +kernel
theorem dX12_web_133 : decode cX12_web 133 = .ok (.istore 8, 2) := by decide +kernel
theorem dX12_web_135 : decode cX12_web 135 = .ok (.aload_n 0, 1) := by decide +kernel
theorem dX12_web_136 : decode cX12_web 136 = .ok (.dup, 1) := by decide +kernel
theorem dX12_web_137 : decode cX12_web 137 = .ok (.getfield 144, 3) := by decide +kernel
theorem dX12_web_140 : decode cX12_web 140 = .ok (.iload 8, 2) := by decide +kernel
theorem dX12_web_142 : decode cX12_web 142 = .ok (.ifCond .eq 23, 3) := by decide +kernel
theorem dX12_web_145 : decode cX12_web 145 = .ok (.iload 6, 2) := by decide +kernel
theorem dX12_web_147 : decode cX12_web 147 = .ok (.ifCond .eq 18, 3) := by decide +kernel
theorem dX12_web_150 : decode cX12_web 150 = .ok (.aload_n 0, 1) := by decide +kernel
theorem dX12_web_151 : decode cX12_web 151 = .ok (.iload_n 3, 1) := by decide +kernel
theorem dX12_web_152 : decode cX12_web 152 = .ok (.iload_n 2, 1) := by decide +kernel
theorem dX12_web_153 : decode cX12_web 153 = .ok (.invokevirtual 159, 3) := by decide +kernel
theorem dX12_web_156 : decode cX12_web 156 = .ok (.ifCond .eq 9, 3) := by decide +kernel
theorem dX12_web_159 : decode cX12_web 159 = .ok (.iconst 1, 1) := by decide +kernel
theorem dX12_web_160 : decode cX12_web 160 = .ok (.iload_n 3, 1) := by decide +kernel
theorem dX12_web_161 : decode cX12_web 161 = .ok (.ishl, 1) := by decide +kernel
theorem dX12_web_162 : decode cX12_web 162 = .ok (.goto 4, 3) := by decide +kernel
theorem dX12_web_165 : decode cX12_web 165 = .ok (.iconst 0, 1) := by decide +kernel
theorem dX12_web_166 : decode cX12_web 166 = .ok (.ior, 1) := by decide +kernel
theorem dX12_web_167 : decode cX12_web 167 = .ok (.putfield 144, 3) := by decide +kernel
theorem dX12_web_170 : decode cX12_web 170 = .ok (.aload_n 0, 1) := by decide +kernel
theorem dX12_web_171 : decode cX12_web 171 = .ok (.dup, 1) := by decide +kernel
theorem dX12_web_172 : decode cX12_web 172 = .ok (.getfield 147, 3) := by decide +kernel
theorem dX12_web_175 : decode cX12_web 175 = .ok (.iload 8, 2) := by decide +kernel
theorem dX12_web_177 : decode cX12_web 177 = .ok (.ifCond .eq 23, 3) := by decide +kernel
theorem dX12_web_180 : decode cX12_web 180 = .ok (.iload 7, 2) := by decide +kernel
theorem dX12_web_182 : decode cX12_web 182 = .ok (.ifCond .eq 18, 3) := by decide +kernel
theorem dX12_web_185 : decode cX12_web 185 = .ok (.aload_n 0, 1) := by decide +kernel
theorem dX12_web_186 : decode cX12_web 186 = .ok (.iload_n 3, 1) := by decide +kernel
theorem dX12_web_187 : decode cX12_web 187 = .ok (.iload_n 1, 1) := by decide +kernel
theorem dX12_web_188 : decode cX12_web 188 = .ok (.invokevirtual 159, 3) := by decide +kernel
theorem dX12_web_191 : decode cX12_web 191 = .ok (.ifCond .eq 9, 3) := by decide +kernel
theorem dX12_web_194 : decode cX12_web 194 = .ok (.iconst 1, 1) := by decide +kernel
theorem dX12_web_195 : decode cX12_web 195 = .ok (.iload_n 3, 1) := by decide +kernel
theorem dX12_web_196 : decode cX12_web 196 = .ok (.ishl, 1) := by decide +kernel
theorem dX12_web_197 : decode cX12_web 197 = .ok (.goto 4, 3) := by decide +kernel
theorem dX12_web_200 : decode cX12_web 200 = .ok (.iconst 0, 1) := by decide +kernel
theorem dX12_web_201 : decode cX12_web 201 = .ok (.ior, 1) := by decide +kernel
theorem dX12_web_202 : decode cX12_web 202 = .ok (.putfield 147, 3) := by decide +kernel
theorem dX12_web_205 : decode cX12_web 205 = .ok (.iinc 3 1, 3) := by decide +kernel
theorem dX12_web_208 : decode cX12_web 208 = .ok (.goto (-175), 3) := by decide +kernel
theorem dX12_web_211 : decode cX12_web 211 = .ok (.return_, 1) := by decide +kernel
theorem dX12_comesTo_0 : decode cX12_comesTo 0 = .ok (.aload_n 0, 1) := by decide +kernel
theorem dX12_comesTo_1 : decode cX12_comesTo 1 = .ok (.iconst 0, 1) := by decide +kernel
theorem dX12_comesTo_2 : decode cX12_comesTo 2 = .ok (.putfield 144, 3) := by decide +kernel
theorem dX12_comesTo_5 : decode cX12_comesTo 5 = .ok (.aload_n 0, 1) := by decide +kernel
theorem dX12_comesTo_6 : decode cX12_comesTo 6 = .ok (.iconst 0, 1) := by decide +kernel
theorem dX12_comesTo_7 : decode cX12_comesTo 7 = .ok (.putfield 147, 3) := by decide +kernel
theorem dX12_comesTo_10 : decode cX12_comesTo 10 = .ok (.aload_n 0, 1) := by decide +kernel
theorem dX12_comesTo_11 : decode cX12_comesTo 11 = .ok (.getfield 135, 3) := by decide +kernel
theorem dX12_comesTo_14 : decode cX12_comesTo 14 = .ok (.ifCond .ne 28, 3) := by decide +kernel
theorem dX12_comesTo_17 : decode cX12_comesTo 17 = .ok (.aload_n 0, 1) := by decide +kernel
theorem dX12_comesTo_18 : decode cX12_comesTo 18 = .ok (.aload_n 0, 1) := by decide +kernel
theorem dX12_comesTo_19 : decode cX12_comesTo 19 = .ok (.invokevirtual 153, 3) := by decide +kernel
theorem dX12_comesTo_22 : decode cX12_comesTo 22 = .ok (.bipush 85, 2) := by decide +kernel
theorem dX12_comesTo_24 : decode cX12_comesTo 24 = .ok (.iand, 1) := by decide +kernel
theorem dX12_comesTo_25 : decode cX12_comesTo 25 = .ok (.putfield 144, 3) := by decide +kernel
theorem dX12_comesTo_28 : decode cX12_comesTo 28 = .ok (.aload_n 0, 1) := by decide +kernel
theorem dX12_comesTo_29 : decode cX12_comesTo 29 = .ok (.aload_n 0, 1) := by decide +kernel
theorem dX12_comesTo_30 : decode cX12_comesTo 30 = .ok (.invokevirtual 153, 3) := by decide +kernel
theorem dX12_comesTo_33 : decode cX12_comesTo 33 = .ok (.bipush 42, 2) := by decide +kernel
theorem dX12_comesTo_35 : decode cX12_comesTo 35 = .ok (.iand, 1) := by decide +kernel
theorem dX12_comesTo_36 : decode cX12_comesTo 36 = .ok (.putfield 147, 3) := by decide +kernel
theorem dX12_comesTo_39 : decode cX12_comesTo 39 = .ok (.goto 42, 3) := by decide +kernel
theorem dX12_comesTo_42 : decode cX12_comesTo 42 = .ok (.aload_n 0, 1) := by decide +kernel
theorem dX12_comesTo_43 : decode cX12_comesTo 43 = .ok (.getfield 135, 3) := by decide +kernel
theorem dX12_comesTo_46 : decode cX12_comesTo 46 = .ok (.iconst 2, 1) := by decide +kernel
theorem dX12_comesTo_47 : decode cX12_comesTo 47 = .ok (.if_icmp .eq 11, 3) := by decide +kernel
theorem dX12_comesTo_50 : decode cX12_comesTo 50 = .ok (.aload_n 0, 1) := by decide +kernel
theorem dX12_comesTo_51 : decode cX12_comesTo 51 = .ok (.getfield 135, 3) := by decide +kernel
theorem dX12_comesTo_54 : decode cX12_comesTo 54 = .ok (.iconst 4, 1) := by decide +kernel
theorem dX12_comesTo_55 : decode cX12_comesTo 55 = .ok (.if_icmp .ne 12, 3) := by decide +kernel
theorem dX12_comesTo_58 : decode cX12_comesTo 58 = .ok (.aload_n 0, 1) := by decide +kernel
theorem dX12_comesTo_59 : decode cX12_comesTo 59 = .ok (.iload_n 1, 1) := by decide +kernel
theorem dX12_comesTo_60 : decode cX12_comesTo 60 = .ok (.iload_n 2, 1) := by decide +kernel
theorem dX12_comesTo_61 : decode cX12_comesTo 61 = .ok (.invokevirtual 163, 3) := by decide +kernel
theorem dX12_comesTo_64 : decode cX12_comesTo 64 = .ok (.goto 17, 3) := by decide +kernel
theorem dX12_comesTo_67 : decode cX12_comesTo 67 = .ok (.aload_n 0, 1) := by decide +kernel
theorem dX12_comesTo_68 : decode cX12_comesTo 68 = .ok (.getfield 135, 3) := by decide +kernel
theorem dX12_comesTo_71 : decode cX12_comesTo 71 = .ok (.iconst 1, 1) := by decide +kernel
theorem dX12_comesTo_72 : decode cX12_comesTo 72 = .ok (.if_icmp .eq 9, 3) := by decide +kernel
theorem dX12_comesTo_75 : decode cX12_comesTo 75 = .ok (.aload_n 0, 1) := by decide +kernel
theorem dX12_comesTo_76 : decode cX12_comesTo 76 = .ok (.iload_n 1, 1) := by decide +kernel
theorem dX12_comesTo_77 : decode cX12_comesTo 77 = .ok (.iload_n 2, 1) := by decide +kernel
theorem dX12_comesTo_78 : decode cX12_comesTo 78 = .ok (.invokevirtual 167, 3) := by decide +kernel
theorem dX12_comesTo_81 : decode cX12_comesTo 81 = .ok (.iconst 1, 1) := by decide +kernel
theorem dX12_comesTo_82 : decode cX12_comesTo 82 = .ok (.iload_n 1, 1) := by decide +kernel
theorem dX12_comesTo_83 : decode cX12_comesTo 83 = .ok (.ishl, 1) := by decide +kernel
theorem dX12_comesTo_84 : decode cX12_comesTo 84 = .ok (.iconst 1, 1) := by decide +kernel
theorem dX12_comesTo_85 : decode cX12_comesTo 85 = .ok (.iload_n 2, 1) := by decide +kernel
theorem dX12_comesTo_86 : decode cX12_comesTo 86 = .ok (.ishl, 1) := by decide +kernel
theorem dX12_comesTo_87 : decode cX12_comesTo 87 = .ok (.ior, 1) := by decide +kernel
theorem dX12_comesTo_88 : decode cX12_comesTo 88 = .ok (.istore_n 3, 1) := by decide +kernel
theorem dX12_comesTo_89 : decode cX12_comesTo 89 = .ok (.aload_n 0, 1) := by decide +kernel
theorem dX12_comesTo_90 : decode cX12_comesTo 90 = .ok (.aload_n 0, 1) := by decide +kernel
theorem dX12_comesTo_91 : decode cX12_comesTo 91 = .ok (.getfield 144, 3) := by decide +kernel
theorem dX12_comesTo_94 : decode cX12_comesTo 94 = .ok (.iload_n 3, 1) := by decide +kernel
theorem dX12_comesTo_95 : decode cX12_comesTo 95 = .ok (.iconst (-1), 1) := by decide +kernel
theorem dX12_comesTo_96 : decode cX12_comesTo 96 = .ok (.ixor, 1) := by decide +kernel
theorem dX12_comesTo_97 : decode cX12_comesTo 97 = .ok (.iand, 1) := by decide +kernel
theorem dX12_comesTo_98 : decode cX12_comesTo 98 = .ok (.iconst 1, 1) := by decide +kernel
theorem dX12_comesTo_99 : decode cX12_comesTo 99 = .ok (.iload_n 1, 1) := by decide +kernel
theorem dX12_comesTo_100 : decode cX12_comesTo 100 = .ok (.ishl, 1) := by decide +kernel
theorem dX12_comesTo_101 : decode cX12_comesTo 101 = .ok (.ior, 1) := by decide +kernel
theorem dX12_comesTo_102 : decode cX12_comesTo 102 = .ok (.putfield 144, 3) := by decide +kernel
theorem dX12_comesTo_105 : decode cX12_comesTo 105 = .ok (.aload_n 0, 1) := by decide +kernel
theorem dX12_comesTo_106 : decode cX12_comesTo 106 = .ok (.aload_n 0, 1) := by decide +kernel
theorem dX12_comesTo_107 : decode cX12_comesTo 107 = .ok (.getfield 147, 3) := by decide +kernel
theorem dX12_comesTo_110 : decode cX12_comesTo 110 = .ok (.iload_n 3, 1) := by decide +kernel
theorem dX12_comesTo_111 : decode cX12_comesTo 111 = .ok (.iconst (-1), 1) := by decide +kernel
theorem dX12_comesTo_112 : decode cX12_comesTo 112 = .ok (.ixor, 1) := by decide +kernel
theorem dX12_comesTo_113 : decode cX12_comesTo 113 = .ok (.iand, 1) := by decide +kernel
theorem dX12_comesTo_114 : decode cX12_comesTo 114 = .ok (.iconst 1, 1) := by decide +kernel
theorem dX12_comesTo_115 : decode cX12_comesTo 115 = .ok (.iload_n 2, 1) := by decide +kernel
theorem dX12_comesTo_116 : decode cX12_comesTo 116 = .ok (.ishl, 1) := by decide +kernel
theorem dX12_comesTo_117 : decode cX12_comesTo 117 = .ok (.ior, 1) := by decide +kernel
theorem dX12_comesTo_118 : decode cX12_comesTo 118 = .ok (.putfield 147, 3) := by decide +kernel
theorem dX12_comesTo_121 : decode cX12_comesTo 121 = .ok (.return_, 1) := by decide +kernel
theorem dX12_comes_0 : decode cX12_comes 0 = .ok (.aload_n 0, 1) := by decide +kernel
theorem dX12_comes_1 : decode cX12_comes 1 = .ok (.iload_n 1, 1) := by decide +kernel
theorem dX12_comes_2 : decode cX12_comes 2 = .ok (.invokevirtual 132, 3) := by decide +kernel
theorem dX12_comes_5 : decode cX12_comes 5 = .ok (.ifCond .eq 29, 3) := by decide +kernel
theorem dX12_comes_8 : decode cX12_comes 8 = .ok (.aload_n 0, 1) := by decide +kernel
theorem dX12_comes_9 : decode cX12_comes 9 = .ok (.iload_n 2, 1) := by decide +kernel
theorem dX12_comes_10 : decode cX12_comes 10 = .ok (.invokevirtual 45, 3) := by decide +kernel
theorem dX12_comes_13 : decode cX12_comes 13 = .ok (.ifCond .eq 21, 3) := by decide +kernel
theorem dX12_comes_16 : decode cX12_comes 16 = .ok (.aload_n 0, 1) := by decide +kernel
theorem dX12_comes_17 : decode cX12_comes 17 = .ok (.iload_n 3, 1) := by decide +kernel
theorem dX12_comes_18 : decode cX12_comes 18 = .ok (.invokevirtual 45, 3) := by decide +kernel
theorem dX12_comes_21 : decode cX12_comes 21 = .ok (.ifCond .eq 13, 3) := by decide +kernel
theorem dX12_comes_24 : decode cX12_comes 24 = .ok (.iload 4, 2) := by decide +kernel
theorem dX12_comes_26 : decode cX12_comes 26 = .ok (.iconst 0, 1) := by decide +kernel
theorem dX12_comes_27 : decode cX12_comes 27 = .ok (.iconst 1, 1) := by decide +kernel
theorem dX12_comes_28 : decode cX12_comes 28 = .ok (.invokestatic 41, 3) := by decide +kernel
theorem dX12_comes_31 : decode cX12_comes 31 = .ok (.ifCond .ne 5, 3) := by decide +kernel
theorem dX12_comes_34 : decode cX12_comes 34 = .ok (.iconst (-1), 1) := by decide +kernel
theorem dX12_comes_35 : decode cX12_comes 35 = .ok (.ireturn, 1) := by decide +kernel
theorem dX12_comes_36 : decode cX12_comes 36 = .ok (.iload_n 2, 1) := by decide +kernel
theorem dX12_comes_37 : decode cX12_comes 37 = .ok (.iload_n 3, 1) := by decide +kernel
theorem dX12_comes_38 : decode cX12_comes 38 = .ok (.if_icmp .ne 6, 3) := by decide +kernel
theorem dX12_comes_41 : decode cX12_comes 41 = .ok (.bipush (-2), 2) := by decide +kernel
theorem dX12_comes_43 : decode cX12_comes 43 = .ok (.ireturn, 1) := by decide +kernel
theorem dX12_comes_44 : decode cX12_comes 44 = .ok (.aload_n 0, 1) := by decide +kernel
theorem dX12_comes_45 : decode cX12_comes 45 = .ok (.iload_n 2, 1) := by decide +kernel
theorem dX12_comes_46 : decode cX12_comes 46 = .ok (.invokevirtual 49, 3) := by decide +kernel
theorem dX12_comes_49 : decode cX12_comes 49 = .ok (.ifCond .eq 11, 3) := by decide +kernel
theorem dX12_comes_52 : decode cX12_comes 52 = .ok (.aload_n 0, 1) := by decide +kernel
theorem dX12_comes_53 : decode cX12_comes 53 = .ok (.iload_n 3, 1) := by decide +kernel
theorem dX12_comes_54 : decode cX12_comes 54 = .ok (.invokevirtual 49, 3) := by decide +kernel
theorem dX12_comes_57 : decode cX12_comes 57 = .ok (.ifCond .ne 6, 3) := by decide +kernel
theorem dX12_comes_60 : decode cX12_comes 60 = .ok (.bipush (-3), 2) := by decide +kernel
theorem dX12_comes_62 : decode cX12_comes 62 = .ok (.ireturn, 1) := by decide +kernel
theorem dX12_comes_63 : decode cX12_comes 63 = .ok (.aload_n 0, 1) := by decide +kernel
theorem dX12_comes_64 : decode cX12_comes 64 = .ok (.iload_n 1, 1) := by decide +kernel
theorem dX12_comes_65 : decode cX12_comes 65 = .ok (.invokevirtual 170, 3) := by decide +kernel
theorem dX12_comes_68 : decode cX12_comes 68 = .ok (.aload_n 0, 1) := by decide +kernel
theorem dX12_comes_69 : decode cX12_comes 69 = .ok (.iload_n 2, 1) := by decide +kernel
theorem dX12_comes_70 : decode cX12_comes 70 = .ok (.iload_n 3, 1) := by decide +kernel
theorem dX12_comes_71 : decode cX12_comes 71 = .ok (.invokevirtual 173, 3) := by decide +kernel
theorem dX12_comes_74 : decode cX12_comes 74 = .ok (.iload 4, 2) := by decide +kernel
theorem dX12_comes_76 : decode cX12_comes 76 = .ok (.ifCond .ne 10, 3) := by decide +kernel
theorem dX12_comes_79 : decode cX12_comes 79 = .ok (.aload_n 0, 1) := by decide +kernel
theorem dX12_comes_80 : decode cX12_comes 80 = .ok (.getfield 144, 3) := by decide +kernel
theorem dX12_comes_83 : decode cX12_comes 83 = .ok (.goto 7, 3) := by decide +kernel
theorem dX12_comes_86 : decode cX12_comes 86 = .ok (.aload_n 0, 1) := by decide +kernel
theorem dX12_comes_87 : decode cX12_comes 87 = .ok (.getfield 147, 3) := by decide +kernel
theorem dX12_comes_90 : decode cX12_comes 90 = .ok (.ireturn, 1) := by decide +kernel
theorem dX12_sums_0 : decode cX12_sums 0 = .ok (.aload_n 0, 1) := by decide +kernel
theorem dX12_sums_1 : decode cX12_sums 1 = .ok (.iload_n 1, 1) := by decide +kernel
theorem dX12_sums_2 : decode cX12_sums 2 = .ok (.iload_n 2, 1) := by decide +kernel
theorem dX12_sums_3 : decode cX12_sums 3 = .ok (.invokevirtual 173, 3) := by decide +kernel
theorem dX12_sums_6 : decode cX12_sums 6 = .ok (.aload_n 0, 1) := by decide +kernel
theorem dX12_sums_7 : decode cX12_sums 7 = .ok (.iconst 0, 1) := by decide +kernel
theorem dX12_sums_8 : decode cX12_sums 8 = .ok (.putfield 176, 3) := by decide +kernel
theorem dX12_sums_11 : decode cX12_sums 11 = .ok (.aload_n 0, 1) := by decide +kernel
theorem dX12_sums_12 : decode cX12_sums 12 = .ok (.iconst 0, 1) := by decide +kernel
theorem dX12_sums_13 : decode cX12_sums 13 = .ok (.putfield 179, 3) := by decide +kernel
theorem dX12_sums_16 : decode cX12_sums 16 = .ok (.iconst 0, 1) := by decide +kernel
theorem dX12_sums_17 : decode cX12_sums 17 = .ok (.istore_n 3, 1) := by decide +kernel
theorem dX12_sums_18 : decode cX12_sums 18 = .ok (.iload_n 3, 1) := by decide +kernel
theorem dX12_sums_19 : decode cX12_sums 19 = .ok (.aload_n 0, 1) := by decide +kernel
theorem dX12_sums_20 : decode cX12_sums 20 = .ok (.getfield 9, 3) := by decide +kernel
theorem dX12_sums_23 : decode cX12_sums 23 = .ok (.iconst 0, 1) := by decide +kernel
theorem dX12_sums_24 : decode cX12_sums 24 = .ok (.iaload, 1) := by decide +kernel
theorem dX12_sums_25 : decode cX12_sums 25 = .ok (.if_icmp .ge 89, 3) := by decide +kernel
theorem dX12_sums_28 : decode cX12_sums 28 = .ok (.aload_n 0, 1) := by decide +kernel
theorem dX12_sums_29 : decode cX12_sums 29 = .ok (.dup, 1) := by decide +kernel
theorem dX12_sums_30 : decode cX12_sums 30 = .ok (.getfield 176, 3) := by decide +kernel
theorem dX12_sums_33 : decode cX12_sums 33 = .ok (.aload_n 0, 1) := by decide +kernel
theorem dX12_sums_34 : decode cX12_sums 34 = .ok (.getfield 144, 3) := by decide +kernel
theorem dX12_sums_37 : decode cX12_sums 37 = .ok (.iload_n 3, 1) := by decide +kernel
theorem dX12_sums_38 : decode cX12_sums 38 = .ok (.ishr, 1) := by decide +kernel
theorem dX12_sums_39 : decode cX12_sums 39 = .ok (.iconst 1, 1) := by decide +kernel
theorem dX12_sums_40 : decode cX12_sums 40 = .ok (.iand, 1) := by decide +kernel
theorem dX12_sums_41 : decode cX12_sums 41 = .ok (.iconst 1, 1) := by decide +kernel
theorem dX12_sums_42 : decode cX12_sums 42 = .ok (.if_icmp .ne 21, 3) := by decide +kernel
theorem dX12_sums_45 : decode cX12_sums 45 = .ok (.aload_n 0, 1) := by decide +kernel
theorem dX12_sums_46 : decode cX12_sums 46 = .ok (.iload_n 3, 1) := by decide +kernel
theorem dX12_sums_47 : decode cX12_sums 47 = .ok (.aload_n 0, 1) := by decide +kernel
theorem dX12_sums_48 : decode cX12_sums 48 = .ok (.getfield 9, 3) := by decide +kernel
theorem dX12_sums_51 : decode cX12_sums 51 = .ok (.sipush 280, 3) := by decide +kernel
theorem dX12_sums_54 : decode cX12_sums 54 = .ok (.iload_n 2, 1) := by decide +kernel
theorem dX12_sums_55 : decode cX12_sums 55 = .ok (.iadd, 1) := by decide +kernel
theorem dX12_sums_56 : decode cX12_sums 56 = .ok (.iaload, 1) := by decide +kernel
theorem dX12_sums_57 : decode cX12_sums 57 = .ok (.invokevirtual 129, 3) := by decide +kernel
theorem dX12_sums_60 : decode cX12_sums 60 = .ok (.goto 4, 3) := by decide +kernel
theorem dX12_sums_63 : decode cX12_sums 63 = .ok (.iconst 0, 1) := by decide +kernel
theorem dX12_sums_64 : decode cX12_sums 64 = .ok (.iadd, 1) := by decide +kernel
theorem dX12_sums_65 : decode cX12_sums 65 = .ok (.putfield 176, 3) := by decide +kernel
theorem dX12_sums_68 : decode cX12_sums 68 = .ok (.aload_n 0, 1) := by decide +kernel
theorem dX12_sums_69 : decode cX12_sums 69 = .ok (.dup, 1) := by decide +kernel
theorem dX12_sums_70 : decode cX12_sums 70 = .ok (.getfield 179, 3) := by decide +kernel
theorem dX12_sums_73 : decode cX12_sums 73 = .ok (.aload_n 0, 1) := by decide +kernel
theorem dX12_sums_74 : decode cX12_sums 74 = .ok (.getfield 147, 3) := by decide +kernel
theorem dX12_sums_77 : decode cX12_sums 77 = .ok (.iload_n 3, 1) := by decide +kernel
theorem dX12_sums_78 : decode cX12_sums 78 = .ok (.ishr, 1) := by decide +kernel
theorem dX12_sums_79 : decode cX12_sums 79 = .ok (.iconst 1, 1) := by decide +kernel
theorem dX12_sums_80 : decode cX12_sums 80 = .ok (.iand, 1) := by decide +kernel
theorem dX12_sums_81 : decode cX12_sums 81 = .ok (.iconst 1, 1) := by decide +kernel
theorem dX12_sums_82 : decode cX12_sums 82 = .ok (.if_icmp .ne 21, 3) := by decide +kernel
theorem dX12_sums_85 : decode cX12_sums 85 = .ok (.aload_n 0, 1) := by decide +kernel
theorem dX12_sums_86 : decode cX12_sums 86 = .ok (.iload_n 3, 1) := by decide +kernel
theorem dX12_sums_87 : decode cX12_sums 87 = .ok (.aload_n 0, 1) := by decide +kernel
theorem dX12_sums_88 : decode cX12_sums 88 = .ok (.getfield 9, 3) := by decide +kernel
theorem dX12_sums_91 : decode cX12_sums 91 = .ok (.sipush 280, 3) := by decide +kernel
theorem dX12_sums_94 : decode cX12_sums 94 = .ok (.iload_n 2, 1) := by decide +kernel
theorem dX12_sums_95 : decode cX12_sums 95 = .ok (.iadd, 1) := by decide +kernel
theorem dX12_sums_96 : decode cX12_sums 96 = .ok (.iaload, 1) := by decide +kernel
theorem dX12_sums_97 : decode cX12_sums 97 = .ok (.invokevirtual 129, 3) := by decide +kernel
theorem dX12_sums_100 : decode cX12_sums 100 = .ok (.goto 4, 3) := by decide +kernel
theorem dX12_sums_103 : decode cX12_sums 103 = .ok (.iconst 0, 1) := by decide +kernel
theorem dX12_sums_104 : decode cX12_sums 104 = .ok (.iadd, 1) := by decide +kernel
theorem dX12_sums_105 : decode cX12_sums 105 = .ok (.putfield 179, 3) := by decide +kernel
theorem dX12_sums_108 : decode cX12_sums 108 = .ok (.iinc 3 1, 3) := by decide +kernel
theorem dX12_sums_111 : decode cX12_sums 111 = .ok (.goto (-93), 3) := by decide +kernel
theorem dX12_sums_114 : decode cX12_sums 114 = .ok (.return_, 1) := by decide +kernel
theorem dX12_gainOf_0 : decode cX12_gainOf 0 = .ok (.aload_n 0, 1) := by decide +kernel
theorem dX12_gainOf_1 : decode cX12_gainOf 1 = .ok (.iload_n 1, 1) := by decide +kernel
theorem dX12_gainOf_2 : decode cX12_gainOf 2 = .ok (.iload_n 2, 1) := by decide +kernel
theorem dX12_gainOf_3 : decode cX12_gainOf 3 = .ok (.invokevirtual 182, 3) := by decide +kernel
theorem dX12_gainOf_6 : decode cX12_gainOf 6 = .ok (.aload_n 0, 1) := by decide +kernel
theorem dX12_gainOf_7 : decode cX12_gainOf 7 = .ok (.iload_n 1, 1) := by decide +kernel
theorem dX12_gainOf_8 : decode cX12_gainOf 8 = .ok (.iload_n 2, 1) := by decide +kernel
theorem dX12_gainOf_9 : decode cX12_gainOf 9 = .ok (.invokevirtual 125, 3) := by decide +kernel
theorem dX12_gainOf_12 : decode cX12_gainOf 12 = .ok (.istore_n 3, 1) := by decide +kernel
theorem dX12_gainOf_13 : decode cX12_gainOf 13 = .ok (.aload_n 0, 1) := by decide +kernel
theorem dX12_gainOf_14 : decode cX12_gainOf 14 = .ok (.getfield 176, 3) := by decide +kernel
theorem dX12_gainOf_17 : decode cX12_gainOf 17 = .ok (.aload_n 0, 1) := by decide +kernel
theorem dX12_gainOf_18 : decode cX12_gainOf 18 = .ok (.getfield 179, 3) := by decide +kernel
theorem dX12_gainOf_21 : decode cX12_gainOf 21 = .ok (.if_icmp .le 23, 3) := by decide +kernel
theorem dX12_gainOf_24 : decode cX12_gainOf 24 = .ok (.aload_n 0, 1) := by decide +kernel
theorem dX12_gainOf_25 : decode cX12_gainOf 25 = .ok (.getfield 9, 3) := by decide +kernel
theorem dX12_gainOf_28 : decode cX12_gainOf 28 = .ok (.sipush 310, 3) := by decide +kernel
theorem dX12_gainOf_31 : decode cX12_gainOf 31 = .ok (.bipush 7, 2) := by decide +kernel
theorem dX12_gainOf_33 : decode cX12_gainOf 33 = .ok (.iload_n 2, 1) := by decide +kernel
theorem dX12_gainOf_34 : decode cX12_gainOf 34 = .ok (.imul, 1) := by decide +kernel
theorem dX12_gainOf_35 : decode cX12_gainOf 35 = .ok (.iadd, 1) := by decide +kernel
theorem dX12_gainOf_36 : decode cX12_gainOf 36 = .ok (.iload_n 1, 1) := by decide +kernel
theorem dX12_gainOf_37 : decode cX12_gainOf 37 = .ok (.iadd, 1) := by decide +kernel
theorem dX12_gainOf_38 : decode cX12_gainOf 38 = .ok (.iaload, 1) := by decide +kernel
theorem dX12_gainOf_39 : decode cX12_gainOf 39 = .ok (.iload_n 3, 1) := by decide +kernel
theorem dX12_gainOf_40 : decode cX12_gainOf 40 = .ok (.isub, 1) := by decide +kernel
theorem dX12_gainOf_41 : decode cX12_gainOf 41 = .ok (.goto 21, 3) := by decide +kernel
theorem dX12_gainOf_44 : decode cX12_gainOf 44 = .ok (.iload_n 3, 1) := by decide +kernel
theorem dX12_gainOf_45 : decode cX12_gainOf 45 = .ok (.ineg, 1) := by decide +kernel
theorem dX12_gainOf_46 : decode cX12_gainOf 46 = .ok (.aload_n 0, 1) := by decide +kernel
theorem dX12_gainOf_47 : decode cX12_gainOf 47 = .ok (.getfield 9, 3) := by decide +kernel
theorem dX12_gainOf_50 : decode cX12_gainOf 50 = .ok (.sipush 310, 3) := by decide +kernel
theorem dX12_gainOf_53 : decode cX12_gainOf 53 = .ok (.bipush 7, 2) := by decide +kernel
theorem dX12_gainOf_55 : decode cX12_gainOf 55 = .ok (.iload_n 1, 1) := by decide +kernel
theorem dX12_gainOf_56 : decode cX12_gainOf 56 = .ok (.imul, 1) := by decide +kernel
theorem dX12_gainOf_57 : decode cX12_gainOf 57 = .ok (.iadd, 1) := by decide +kernel
theorem dX12_gainOf_58 : decode cX12_gainOf 58 = .ok (.iload_n 2, 1) := by decide +kernel
theorem dX12_gainOf_59 : decode cX12_gainOf 59 = .ok (.iadd, 1) := by decide +kernel
theorem dX12_gainOf_60 : decode cX12_gainOf 60 = .ok (.iaload, 1) := by decide +kernel
theorem dX12_gainOf_61 : decode cX12_gainOf 61 = .ok (.isub, 1) := by decide +kernel
theorem dX12_gainOf_62 : decode cX12_gainOf 62 = .ok (.ireturn, 1) := by decide +kernel
theorem dX12_war_0 : decode cX12_war 0 = .ok (.aload_n 0, 1) := by decide +kernel
theorem dX12_war_1 : decode cX12_war 1 = .ok (.iload_n 1, 1) := by decide +kernel
theorem dX12_war_2 : decode cX12_war 2 = .ok (.invokevirtual 132, 3) := by decide +kernel
theorem dX12_war_5 : decode cX12_war 5 = .ok (.ifCond .eq 34, 3) := by decide +kernel
theorem dX12_war_8 : decode cX12_war 8 = .ok (.aload_n 0, 1) := by decide +kernel
theorem dX12_war_9 : decode cX12_war 9 = .ok (.iload_n 2, 1) := by decide +kernel
theorem dX12_war_10 : decode cX12_war 10 = .ok (.invokevirtual 49, 3) := by decide +kernel
theorem dX12_war_13 : decode cX12_war 13 = .ok (.ifCond .eq 26, 3) := by decide +kernel
theorem dX12_war_16 : decode cX12_war 16 = .ok (.aload_n 0, 1) := by decide +kernel
theorem dX12_war_17 : decode cX12_war 17 = .ok (.iload_n 3, 1) := by decide +kernel
theorem dX12_war_18 : decode cX12_war 18 = .ok (.invokevirtual 49, 3) := by decide +kernel
theorem dX12_war_21 : decode cX12_war 21 = .ok (.ifCond .eq 18, 3) := by decide +kernel
theorem dX12_war_24 : decode cX12_war 24 = .ok (.iload_n 2, 1) := by decide +kernel
theorem dX12_war_25 : decode cX12_war 25 = .ok (.iload_n 3, 1) := by decide +kernel
theorem dX12_war_26 : decode cX12_war 26 = .ok (.if_icmp .eq 13, 3) := by decide +kernel
theorem dX12_war_29 : decode cX12_war 29 = .ok (.iload 4, 2) := by decide +kernel
theorem dX12_war_31 : decode cX12_war 31 = .ok (.iconst 0, 1) := by decide +kernel
theorem dX12_war_32 : decode cX12_war 32 = .ok (.iconst 2, 1) := by decide +kernel
theorem dX12_war_33 : decode cX12_war 33 = .ok (.invokestatic 41, 3) := by decide +kernel
theorem dX12_war_36 : decode cX12_war 36 = .ok (.ifCond .ne 7, 3) := by decide +kernel
theorem dX12_war_39 : decode cX12_war 39 = .ok (.ldc2_w 185, 3) := by decide +kernel
theorem dX12_war_42 : decode cX12_war 42 = .ok (.lreturn, 1) := by decide +kernel
theorem dX12_war_43 : decode cX12_war 43 = .ok (.aload_n 0, 1) := by decide +kernel
theorem dX12_war_44 : decode cX12_war 44 = .ok (.iload_n 1, 1) := by decide +kernel
theorem dX12_war_45 : decode cX12_war 45 = .ok (.invokevirtual 170, 3) := by decide +kernel
theorem dX12_war_48 : decode cX12_war 48 = .ok (.aload_n 0, 1) := by decide +kernel
theorem dX12_war_49 : decode cX12_war 49 = .ok (.iload_n 2, 1) := by decide +kernel
theorem dX12_war_50 : decode cX12_war 50 = .ok (.iload_n 3, 1) := by decide +kernel
theorem dX12_war_51 : decode cX12_war 51 = .ok (.invokevirtual 187, 3) := by decide +kernel
theorem dX12_war_54 : decode cX12_war 54 = .ok (.istore 5, 2) := by decide +kernel
theorem dX12_war_56 : decode cX12_war 56 = .ok (.iload 4, 2) := by decide +kernel
theorem dX12_war_58 : decode cX12_war 58 = .ok (.ifCond .ne 11, 3) := by decide +kernel
theorem dX12_war_61 : decode cX12_war 61 = .ok (.aload_n 0, 1) := by decide +kernel
theorem dX12_war_62 : decode cX12_war 62 = .ok (.getfield 176, 3) := by decide +kernel
theorem dX12_war_65 : decode cX12_war 65 = .ok (.i2l, 1) := by decide +kernel
theorem dX12_war_66 : decode cX12_war 66 = .ok (.goto 20, 3) := by decide +kernel
theorem dX12_war_69 : decode cX12_war 69 = .ok (.iload 4, 2) := by decide +kernel
theorem dX12_war_71 : decode cX12_war 71 = .ok (.iconst 1, 1) := by decide +kernel
theorem dX12_war_72 : decode cX12_war 72 = .ok (.if_icmp .ne 11, 3) := by decide +kernel
theorem dX12_war_75 : decode cX12_war 75 = .ok (.aload_n 0, 1) := by decide +kernel
theorem dX12_war_76 : decode cX12_war 76 = .ok (.getfield 179, 3) := by decide +kernel
theorem dX12_war_79 : decode cX12_war 79 = .ok (.i2l, 1) := by decide +kernel
theorem dX12_war_80 : decode cX12_war 80 = .ok (.goto 6, 3) := by decide +kernel
theorem dX12_war_83 : decode cX12_war 83 = .ok (.iload 5, 2) := by decide +kernel
theorem dX12_war_85 : decode cX12_war 85 = .ok (.i2l, 1) := by decide +kernel
theorem dX12_war_86 : decode cX12_war 86 = .ok (.lreturn, 1) := by decide +kernel
theorem dX12_doesDare_0 : decode cX12_doesDare 0 = .ok (.iload_n 1, 1) := by decide +kernel
theorem dX12_doesDare_1 : decode cX12_doesDare 1 = .ok (.iload_n 2, 1) := by decide +kernel
theorem dX12_doesDare_2 : decode cX12_doesDare 2 = .ok (.if_icmp .eq 32, 3) := by decide +kernel
theorem dX12_doesDare_5 : decode cX12_doesDare 5 = .ok (.aload_n 0, 1) := by decide +kernel
theorem dX12_doesDare_6 : decode cX12_doesDare 6 = .ok (.iload_n 1, 1) := by decide +kernel
theorem dX12_doesDare_7 : decode cX12_doesDare 7 = .ok (.invokevirtual 49, 3) := by decide +kernel
theorem dX12_doesDare_10 : decode cX12_doesDare 10 = .ok (.ifCond .eq 24, 3) := by decide +kernel
theorem dX12_doesDare_13 : decode cX12_doesDare 13 = .ok (.aload_n 0, 1) := by decide +kernel
theorem dX12_doesDare_14 : decode cX12_doesDare 14 = .ok (.iload_n 2, 1) := by decide +kernel
theorem dX12_doesDare_15 : decode cX12_doesDare 15 = .ok (.invokevirtual 49, 3) := by decide +kernel
theorem dX12_doesDare_18 : decode cX12_doesDare 18 = .ok (.ifCond .eq 16, 3) := by decide +kernel
theorem dX12_doesDare_21 : decode cX12_doesDare 21 = .ok (.aload_n 0, 1) := by decide +kernel
theorem dX12_doesDare_22 : decode cX12_doesDare 22 = .ok (.iload_n 1, 1) := by decide +kernel
theorem dX12_doesDare_23 : decode cX12_doesDare 23 = .ok (.iload_n 2, 1) := by decide +kernel
theorem dX12_doesDare_24 : decode cX12_doesDare 24 = .ok (.invokevirtual 187, 3) := by decide +kernel
theorem dX12_doesDare_27 : decode cX12_doesDare 27 = .ok (.ifCond .le 7, 3) := by decide +kernel
theorem dX12_doesDare_30 : decode cX12_doesDare 30 = .ok (.iconst 1, 1) := by decide +kernel
theorem dX12_doesDare_31 : decode cX12_doesDare 31 = .ok (.goto 4, 3) := by decide +kernel
theorem dX12_doesDare_34 : decode cX12_doesDare 34 = .ok (.iconst 0, 1) := by decide +kernel
theorem dX12_doesDare_35 : decode cX12_doesDare 35 = .ok (.ireturn, 1) := by decide +kernel
theorem dX12_darers_0 : decode cX12_darers 0 = .ok (.iconst 0, 1) := by decide +kernel
theorem dX12_darers_1 : decode cX12_darers 1 = .ok (.istore_n 2, 1) := by decide +kernel
theorem dX12_darers_2 : decode cX12_darers 2 = .ok (.iconst 0, 1) := by decide +kernel
theorem dX12_darers_3 : decode cX12_darers 3 = .ok (.istore_n 3, 1) := by decide +kernel
theorem dX12_darers_4 : decode cX12_darers 4 = .ok (.iload_n 3, 1) := by decide +kernel
theorem dX12_darers_5 : decode cX12_darers 5 = .ok (.aload_n 0, 1) := by decide +kernel
theorem dX12_darers_6 : decode cX12_darers 6 = .ok (.getfield 9, 3) := by decide +kernel
theorem dX12_darers_9 : decode cX12_darers 9 = .ok (.iconst 0, 1) := by decide +kernel
theorem dX12_darers_10 : decode cX12_darers 10 = .ok (.iaload, 1) := by decide +kernel
theorem dX12_darers_11 : decode cX12_darers 11 = .ok (.if_icmp .ge 28, 3) := by decide +kernel
theorem dX12_darers_14 : decode cX12_darers 14 = .ok (.iload_n 2, 1) := by decide +kernel
theorem dX12_darers_15 : decode cX12_darers 15 = .ok (.aload_n 0, 1) := by decide +kernel
theorem dX12_darers_16 : decode cX12_darers 16 = .ok (.iload_n 3, 1) := by decide +kernel
theorem dX12_darers_17 : decode cX12_darers 17 = .ok (.iload_n 1, 1) := by decide +kernel
theorem dX12_darers_18 : decode cX12_darers 18 = .ok (.invokevirtual 190, 3) := by decide +kernel
theorem dX12_darers_21 : decode cX12_darers 21 = .ok (.ifCond .eq 9, 3) := by decide +kernel
theorem dX12_darers_24 : decode cX12_darers 24 = .ok (.iconst 1, 1) := by decide +kernel
theorem dX12_darers_25 : decode cX12_darers 25 = .ok (.iload_n 3, 1) := by decide +kernel
theorem dX12_darers_26 : decode cX12_darers 26 = .ok (.ishl, 1) := by decide +kernel
theorem dX12_darers_27 : decode cX12_darers 27 = .ok (.goto 4, 3) := by decide +kernel
theorem dX12_darers_30 : decode cX12_darers 30 = .ok (.iconst 0, 1) := by decide +kernel
theorem dX12_darers_31 : decode cX12_darers 31 = .ok (.ior, 1) := by decide +kernel
theorem dX12_darers_32 : decode cX12_darers 32 = .ok (.istore_n 2, 1) := by decide +kernel
theorem dX12_darers_33 : decode cX12_darers 33 = .ok (.iinc 3 1, 3) := by decide +kernel
theorem dX12_darers_36 : decode cX12_darers 36 = .ok (.goto (-32), 3) := by decide +kernel
theorem dX12_darers_39 : decode cX12_darers 39 = .ok (.iload_n 2, 1) := by decide +kernel
theorem dX12_darers_40 : decode cX12_darers 40 = .ok (.ireturn, 1) := by decide +kernel
theorem dX12_dares_0 : decode cX12_dares 0 = .ok (.aload_n 0, 1) := by decide +kernel
theorem dX12_dares_1 : decode cX12_dares 1 = .ok (.iload_n 1, 1) := by decide +kernel
theorem dX12_dares_2 : decode cX12_dares 2 = .ok (.invokevirtual 132, 3) := by decide +kernel
theorem dX12_dares_5 : decode cX12_dares 5 = .ok (.ifCond .eq 20, 3) := by decide +kernel
theorem dX12_dares_8 : decode cX12_dares 8 = .ok (.aload_n 0, 1) := by decide +kernel
theorem dX12_dares_9 : decode cX12_dares 9 = .ok (.iload_n 2, 1) := by decide +kernel
theorem dX12_dares_10 : decode cX12_dares 10 = .ok (.invokevirtual 45, 3) := by decide +kernel
theorem dX12_dares_13 : decode cX12_dares 13 = .ok (.ifCond .eq 12, 3) := by decide +kernel
theorem dX12_dares_16 : decode cX12_dares 16 = .ok (.iload_n 3, 1) := by decide +kernel
theorem dX12_dares_17 : decode cX12_dares 17 = .ok (.iconst 0, 1) := by decide +kernel
theorem dX12_dares_18 : decode cX12_dares 18 = .ok (.iconst 1, 1) := by decide +kernel
theorem dX12_dares_19 : decode cX12_dares 19 = .ok (.invokestatic 41, 3) := by decide +kernel
theorem dX12_dares_22 : decode cX12_dares 22 = .ok (.ifCond .ne 5, 3) := by decide +kernel
theorem dX12_dares_25 : decode cX12_dares 25 = .ok (.iconst (-1), 1) := by decide +kernel
theorem dX12_dares_26 : decode cX12_dares 26 = .ok (.ireturn, 1) := by decide +kernel
theorem dX12_dares_27 : decode cX12_dares 27 = .ok (.aload_n 0, 1) := by decide +kernel
theorem dX12_dares_28 : decode cX12_dares 28 = .ok (.iload_n 1, 1) := by decide +kernel
theorem dX12_dares_29 : decode cX12_dares 29 = .ok (.invokevirtual 170, 3) := by decide +kernel
theorem dX12_dares_32 : decode cX12_dares 32 = .ok (.iload_n 3, 1) := by decide +kernel
theorem dX12_dares_33 : decode cX12_dares 33 = .ok (.iconst 1, 1) := by decide +kernel
theorem dX12_dares_34 : decode cX12_dares 34 = .ok (.if_icmp .ne 9, 3) := by decide +kernel
theorem dX12_dares_37 : decode cX12_dares 37 = .ok (.aload_n 0, 1) := by decide +kernel
theorem dX12_dares_38 : decode cX12_dares 38 = .ok (.iload_n 2, 1) := by decide +kernel
theorem dX12_dares_39 : decode cX12_dares 39 = .ok (.invokevirtual 193, 3) := by decide +kernel
theorem dX12_dares_42 : decode cX12_dares 42 = .ok (.ireturn, 1) := by decide +kernel
theorem dX12_dares_43 : decode cX12_dares 43 = .ok (.iconst 0, 1) := by decide +kernel
theorem dX12_dares_44 : decode cX12_dares 44 = .ok (.istore 4, 2) := by decide +kernel
theorem dX12_dares_46 : decode cX12_dares 46 = .ok (.iconst 0, 1) := by decide +kernel
theorem dX12_dares_47 : decode cX12_dares 47 = .ok (.istore 5, 2) := by decide +kernel
theorem dX12_dares_49 : decode cX12_dares 49 = .ok (.iload 5, 2) := by decide +kernel
theorem dX12_dares_51 : decode cX12_dares 51 = .ok (.aload_n 0, 1) := by decide +kernel
theorem dX12_dares_52 : decode cX12_dares 52 = .ok (.getfield 9, 3) := by decide +kernel
theorem dX12_dares_55 : decode cX12_dares 55 = .ok (.iconst 0, 1) := by decide +kernel
theorem dX12_dares_56 : decode cX12_dares 56 = .ok (.iaload, 1) := by decide +kernel
theorem dX12_dares_57 : decode cX12_dares 57 = .ok (.if_icmp .ge 32, 3) := by decide +kernel
theorem dX12_dares_60 : decode cX12_dares 60 = .ok (.iload 4, 2) := by decide +kernel
theorem dX12_dares_62 : decode cX12_dares 62 = .ok (.aload_n 0, 1) := by decide +kernel
theorem dX12_dares_63 : decode cX12_dares 63 = .ok (.iload_n 2, 1) := by decide +kernel
theorem dX12_dares_64 : decode cX12_dares 64 = .ok (.iload 5, 2) := by decide +kernel
theorem dX12_dares_66 : decode cX12_dares 66 = .ok (.invokevirtual 190, 3) := by decide +kernel
theorem dX12_dares_69 : decode cX12_dares 69 = .ok (.ifCond .eq 10, 3) := by decide +kernel
theorem dX12_dares_72 : decode cX12_dares 72 = .ok (.iconst 1, 1) := by decide +kernel
theorem dX12_dares_73 : decode cX12_dares 73 = .ok (.iload 5, 2) := by decide +kernel
theorem dX12_dares_75 : decode cX12_dares 75 = .ok (.ishl, 1) := by decide +kernel
theorem dX12_dares_76 : decode cX12_dares 76 = .ok (.goto 4, 3) := by decide +kernel
theorem dX12_dares_79 : decode cX12_dares 79 = .ok (.iconst 0, 1) := by decide +kernel
theorem dX12_dares_80 : decode cX12_dares 80 = .ok (.ior, 1) := by decide +kernel
theorem dX12_dares_81 : decode cX12_dares 81 = .ok (.istore 4, 2) := by decide +kernel
theorem dX12_dares_83 : decode cX12_dares 83 = .ok (.iinc 5 1, 3) := by decide +kernel
theorem dX12_dares_86 : decode cX12_dares 86 = .ok (.goto (-37), 3) := by decide +kernel
theorem dX12_dares_89 : decode cX12_dares 89 = .ok (.iload 4, 2) := by decide +kernel
theorem dX12_dares_91 : decode cX12_dares 91 = .ok (.ireturn, 1) := by decide +kernel
theorem dX12_firstWar_0 : decode cX12_firstWar 0 = .ok (.iconst 0, 1) := by decide +kernel
theorem dX12_firstWar_1 : decode cX12_firstWar 1 = .ok (.istore_n 1, 1) := by decide +kernel
theorem dX12_firstWar_2 : decode cX12_firstWar 2 = .ok (.iload_n 1, 1) := by decide +kernel
theorem dX12_firstWar_3 : decode cX12_firstWar 3 = .ok (.aload_n 0, 1) := by decide +kernel
theorem dX12_firstWar_4 : decode cX12_firstWar 4 = .ok (.getfield 9, 3) := by decide +kernel
theorem dX12_firstWar_7 : decode cX12_firstWar 7 = .ok (.iconst 0, 1) := by decide +kernel
theorem dX12_firstWar_8 : decode cX12_firstWar 8 = .ok (.iaload, 1) := by decide +kernel
theorem dX12_firstWar_9 : decode cX12_firstWar 9 = .ok (.if_icmp .ge 43, 3) := by decide +kernel
theorem dX12_firstWar_12 : decode cX12_firstWar 12 = .ok (.iconst 0, 1) := by decide +kernel
theorem dX12_firstWar_13 : decode cX12_firstWar 13 = .ok (.istore_n 2, 1) := by decide +kernel
theorem dX12_firstWar_14 : decode cX12_firstWar 14 = .ok (.iload_n 2, 1) := by decide +kernel
theorem dX12_firstWar_15 : decode cX12_firstWar 15 = .ok (.aload_n 0, 1) := by decide +kernel
theorem dX12_firstWar_16 : decode cX12_firstWar 16 = .ok (.getfield 9, 3) := by decide +kernel
theorem dX12_firstWar_19 : decode cX12_firstWar 19 = .ok (.iconst 0, 1) := by decide +kernel
theorem dX12_firstWar_20 : decode cX12_firstWar 20 = .ok (.iaload, 1) := by decide +kernel
theorem dX12_firstWar_21 : decode cX12_firstWar 21 = .ok (.if_icmp .ge 25, 3) := by decide +kernel
theorem dX12_firstWar_24 : decode cX12_firstWar 24 = .ok (.aload_n 0, 1) := by decide +kernel
theorem dX12_firstWar_25 : decode cX12_firstWar 25 = .ok (.iload_n 1, 1) := by decide +kernel
theorem dX12_firstWar_26 : decode cX12_firstWar 26 = .ok (.iload_n 2, 1) := by decide +kernel
theorem dX12_firstWar_27 : decode cX12_firstWar 27 = .ok (.invokevirtual 190, 3) := by decide +kernel
theorem dX12_firstWar_30 : decode cX12_firstWar 30 = .ok (.ifCond .eq 10, 3) := by decide +kernel
theorem dX12_firstWar_33 : decode cX12_firstWar 33 = .ok (.bipush 10, 2) := by decide +kernel
theorem dX12_firstWar_35 : decode cX12_firstWar 35 = .ok (.iload_n 1, 1) := by decide +kernel
theorem dX12_firstWar_36 : decode cX12_firstWar 36 = .ok (.imul, 1) := by decide +kernel
theorem dX12_firstWar_37 : decode cX12_firstWar 37 = .ok (.iload_n 2, 1) := by decide +kernel
theorem dX12_firstWar_38 : decode cX12_firstWar 38 = .ok (.iadd, 1) := by decide +kernel
theorem dX12_firstWar_39 : decode cX12_firstWar 39 = .ok (.ireturn, 1) := by decide +kernel
theorem dX12_firstWar_40 : decode cX12_firstWar 40 = .ok (.iinc 2 1, 3) := by decide +kernel
theorem dX12_firstWar_43 : decode cX12_firstWar 43 = .ok (.goto (-29), 3) := by decide +kernel
theorem dX12_firstWar_46 : decode cX12_firstWar 46 = .ok (.iinc 1 1, 3) := by decide +kernel
theorem dX12_firstWar_49 : decode cX12_firstWar 49 = .ok (.goto (-47), 3) := by decide +kernel
theorem dX12_firstWar_52 : decode cX12_firstWar 52 = .ok (.bipush (-5), 2) := by decide +kernel
theorem dX12_firstWar_54 : decode cX12_firstWar 54 = .ok (.ireturn, 1) := by decide +kernel
theorem dX12_first_0 : decode cX12_first 0 = .ok (.aload_n 0, 1) := by decide +kernel
theorem dX12_first_1 : decode cX12_first 1 = .ok (.iload_n 1, 1) := by decide +kernel
theorem dX12_first_2 : decode cX12_first 2 = .ok (.invokevirtual 132, 3) := by decide +kernel
theorem dX12_first_5 : decode cX12_first 5 = .ok (.ifCond .ne 5, 3) := by decide +kernel
theorem dX12_first_8 : decode cX12_first 8 = .ok (.iconst (-1), 1) := by decide +kernel
theorem dX12_first_9 : decode cX12_first 9 = .ok (.ireturn, 1) := by decide +kernel
theorem dX12_first_10 : decode cX12_first 10 = .ok (.aload_n 0, 1) := by decide +kernel
theorem dX12_first_11 : decode cX12_first 11 = .ok (.iload_n 1, 1) := by decide +kernel
theorem dX12_first_12 : decode cX12_first 12 = .ok (.invokevirtual 170, 3) := by decide +kernel
theorem dX12_first_15 : decode cX12_first 15 = .ok (.aload_n 0, 1) := by decide +kernel
theorem dX12_first_16 : decode cX12_first 16 = .ok (.invokevirtual 196, 3) := by decide +kernel
theorem dX12_first_19 : decode cX12_first 19 = .ok (.ireturn, 1) := by decide +kernel
theorem dX12_doesKeep_0 : decode cX12_doesKeep 0 = .ok (.aload_n 0, 1) := by decide +kernel
theorem dX12_doesKeep_1 : decode cX12_doesKeep 1 = .ok (.iload_n 1, 1) := by decide +kernel
theorem dX12_doesKeep_2 : decode cX12_doesKeep 2 = .ok (.iload_n 2, 1) := by decide +kernel
theorem dX12_doesKeep_3 : decode cX12_doesKeep 3 = .ok (.invokevirtual 156, 3) := by decide +kernel
theorem dX12_doesKeep_6 : decode cX12_doesKeep 6 = .ok (.istore 4, 2) := by decide +kernel
theorem dX12_doesKeep_8 : decode cX12_doesKeep 8 = .ok (.iload 4, 2) := by decide +kernel
theorem dX12_doesKeep_10 : decode cX12_doesKeep 10 = .ok (.iconst 1, 1) := by decide +kernel
theorem dX12_doesKeep_11 : decode cX12_doesKeep 11 = .ok (.if_icmp .eq 9, 3) := by decide +kernel
theorem dX12_doesKeep_14 : decode cX12_doesKeep 14 = .ok (.iload 4, 2) := by decide +kernel
theorem dX12_doesKeep_16 : decode cX12_doesKeep 16 = .ok (.iconst 2, 1) := by decide +kernel
theorem dX12_doesKeep_17 : decode cX12_doesKeep 17 = .ok (.if_icmp .ne 23, 3) := by decide +kernel
theorem dX12_doesKeep_20 : decode cX12_doesKeep 20 = .ok (.aload_n 0, 1) := by decide +kernel
theorem dX12_doesKeep_21 : decode cX12_doesKeep 21 = .ok (.iload_n 1, 1) := by decide +kernel
theorem dX12_doesKeep_22 : decode cX12_doesKeep 22 = .ok (.iload_n 3, 1) := by decide +kernel
theorem dX12_doesKeep_23 : decode cX12_doesKeep 23 = .ok (.invokevirtual 125, 3) := by decide +kernel
theorem dX12_doesKeep_26 : decode cX12_doesKeep 26 = .ok (.aload_n 0, 1) := by decide +kernel
theorem dX12_doesKeep_27 : decode cX12_doesKeep 27 = .ok (.getfield 9, 3) := by decide +kernel
theorem dX12_doesKeep_30 : decode cX12_doesKeep 30 = .ok (.bipush 6, 2) := by decide +kernel
theorem dX12_doesKeep_32 : decode cX12_doesKeep 32 = .ok (.iaload, 1) := by decide +kernel
theorem dX12_doesKeep_33 : decode cX12_doesKeep 33 = .ok (.if_icmp .gt 7, 3) := by decide +kernel
theorem dX12_doesKeep_36 : decode cX12_doesKeep 36 = .ok (.iconst 1, 1) := by decide +kernel
theorem dX12_doesKeep_37 : decode cX12_doesKeep 37 = .ok (.goto 4, 3) := by decide +kernel
theorem dX12_doesKeep_40 : decode cX12_doesKeep 40 = .ok (.iconst 0, 1) := by decide +kernel
theorem dX12_doesKeep_41 : decode cX12_doesKeep 41 = .ok (.ireturn, 1) := by decide +kernel
theorem dX12_keeps_0 : decode cX12_keeps 0 = .ok (.aload_n 0, 1) := by decide +kernel
theorem dX12_keeps_1 : decode cX12_keeps 1 = .ok (.iload_n 1, 1) := by decide +kernel
theorem dX12_keeps_2 : decode cX12_keeps 2 = .ok (.invokevirtual 45, 3) := by decide +kernel
theorem dX12_keeps_5 : decode cX12_keeps 5 = .ok (.ifCond .eq 19, 3) := by decide +kernel
theorem dX12_keeps_8 : decode cX12_keeps 8 = .ok (.aload_n 0, 1) := by decide +kernel
theorem dX12_keeps_9 : decode cX12_keeps 9 = .ok (.iload_n 2, 1) := by decide +kernel
theorem dX12_keeps_10 : decode cX12_keeps 10 = .ok (.invokevirtual 45, 3) := by decide +kernel
theorem dX12_keeps_13 : decode cX12_keeps 13 = .ok (.ifCond .eq 11, 3) := by decide +kernel
theorem dX12_keeps_16 : decode cX12_keeps 16 = .ok (.aload_n 0, 1) := by decide +kernel
theorem dX12_keeps_17 : decode cX12_keeps 17 = .ok (.iload_n 3, 1) := by decide +kernel
theorem dX12_keeps_18 : decode cX12_keeps 18 = .ok (.invokevirtual 45, 3) := by decide +kernel
theorem dX12_keeps_21 : decode cX12_keeps 21 = .ok (.ifCond .ne 5, 3) := by decide +kernel
theorem dX12_keeps_24 : decode cX12_keeps 24 = .ok (.iconst (-1), 1) := by decide +kernel
theorem dX12_keeps_25 : decode cX12_keeps 25 = .ok (.ireturn, 1) := by decide +kernel
theorem dX12_keeps_26 : decode cX12_keeps 26 = .ok (.iload_n 1, 1) := by decide +kernel
theorem dX12_keeps_27 : decode cX12_keeps 27 = .ok (.iload_n 2, 1) := by decide +kernel
theorem dX12_keeps_28 : decode cX12_keeps 28 = .ok (.if_icmp .eq 13, 3) := by decide +kernel
theorem dX12_keeps_31 : decode cX12_keeps 31 = .ok (.iload_n 1, 1) := by decide +kernel
theorem dX12_keeps_32 : decode cX12_keeps 32 = .ok (.iload_n 3, 1) := by decide +kernel
theorem dX12_keeps_33 : decode cX12_keeps 33 = .ok (.if_icmp .eq 8, 3) := by decide +kernel
theorem dX12_keeps_36 : decode cX12_keeps 36 = .ok (.iload_n 2, 1) := by decide +kernel
theorem dX12_keeps_37 : decode cX12_keeps 37 = .ok (.iload_n 3, 1) := by decide +kernel
theorem dX12_keeps_38 : decode cX12_keeps 38 = .ok (.if_icmp .ne 6, 3) := by decide +kernel
theorem dX12_keeps_41 : decode cX12_keeps 41 = .ok (.bipush (-2), 2) := by decide +kernel
theorem dX12_keeps_43 : decode cX12_keeps 43 = .ok (.ireturn, 1) := by decide +kernel
theorem dX12_keeps_44 : decode cX12_keeps 44 = .ok (.aload_n 0, 1) := by decide +kernel
theorem dX12_keeps_45 : decode cX12_keeps 45 = .ok (.iload_n 1, 1) := by decide +kernel
theorem dX12_keeps_46 : decode cX12_keeps 46 = .ok (.invokevirtual 49, 3) := by decide +kernel
theorem dX12_keeps_49 : decode cX12_keeps 49 = .ok (.ifCond .eq 19, 3) := by decide +kernel
theorem dX12_keeps_52 : decode cX12_keeps 52 = .ok (.aload_n 0, 1) := by decide +kernel
theorem dX12_keeps_53 : decode cX12_keeps 53 = .ok (.iload_n 2, 1) := by decide +kernel
theorem dX12_keeps_54 : decode cX12_keeps 54 = .ok (.invokevirtual 49, 3) := by decide +kernel
theorem dX12_keeps_57 : decode cX12_keeps 57 = .ok (.ifCond .eq 11, 3) := by decide +kernel
theorem dX12_keeps_60 : decode cX12_keeps 60 = .ok (.aload_n 0, 1) := by decide +kernel
theorem dX12_keeps_61 : decode cX12_keeps 61 = .ok (.iload_n 3, 1) := by decide +kernel
theorem dX12_keeps_62 : decode cX12_keeps 62 = .ok (.invokevirtual 49, 3) := by decide +kernel
theorem dX12_keeps_65 : decode cX12_keeps 65 = .ok (.ifCond .ne 6, 3) := by decide +kernel
theorem dX12_keeps_68 : decode cX12_keeps 68 = .ok (.bipush (-3), 2) := by decide +kernel
theorem dX12_keeps_70 : decode cX12_keeps 70 = .ok (.ireturn, 1) := by decide +kernel
theorem dX12_keeps_71 : decode cX12_keeps 71 = .ok (.aload_n 0, 1) := by decide +kernel
theorem dX12_keeps_72 : decode cX12_keeps 72 = .ok (.iload_n 1, 1) := by decide +kernel
theorem dX12_keeps_73 : decode cX12_keeps 73 = .ok (.iload_n 2, 1) := by decide +kernel
theorem dX12_keeps_74 : decode cX12_keeps 74 = .ok (.iload_n 3, 1) := by decide +kernel
theorem dX12_keeps_75 : decode cX12_keeps 75 = .ok (.invokevirtual 199, 3) := by decide +kernel
theorem dX12_keeps_78 : decode cX12_keeps 78 = .ok (.ifCond .eq 7, 3) := by decide +kernel
theorem dX12_keeps_81 : decode cX12_keeps 81 = .ok (.iconst 1, 1) := by decide +kernel
theorem dX12_keeps_82 : decode cX12_keeps 82 = .ok (.goto 4, 3) := by decide +kernel
theorem dX12_keeps_85 : decode cX12_keeps 85 = .ok (.iconst 0, 1) := by decide +kernel
theorem dX12_keeps_86 : decode cX12_keeps 86 = .ok (.ireturn, 1) := by decide +kernel
theorem dX12_empty_0 : decode cX12_empty 0 = .ok (.aload_n 0, 1) := by decide +kernel
theorem dX12_empty_1 : decode cX12_empty 1 = .ok (.iload_n 1, 1) := by decide +kernel
theorem dX12_empty_2 : decode cX12_empty 2 = .ok (.invokevirtual 45, 3) := by decide +kernel
theorem dX12_empty_5 : decode cX12_empty 5 = .ok (.ifCond .ne 5, 3) := by decide +kernel
theorem dX12_empty_8 : decode cX12_empty 8 = .ok (.iconst (-1), 1) := by decide +kernel
theorem dX12_empty_9 : decode cX12_empty 9 = .ok (.ireturn, 1) := by decide +kernel
theorem dX12_empty_10 : decode cX12_empty 10 = .ok (.iconst 0, 1) := by decide +kernel
theorem dX12_empty_11 : decode cX12_empty 11 = .ok (.istore_n 2, 1) := by decide +kernel
theorem dX12_empty_12 : decode cX12_empty 12 = .ok (.iconst 0, 1) := by decide +kernel
theorem dX12_empty_13 : decode cX12_empty 13 = .ok (.istore_n 3, 1) := by decide +kernel
theorem dX12_empty_14 : decode cX12_empty 14 = .ok (.iload_n 3, 1) := by decide +kernel
theorem dX12_empty_15 : decode cX12_empty 15 = .ok (.aload_n 0, 1) := by decide +kernel
theorem dX12_empty_16 : decode cX12_empty 16 = .ok (.getfield 9, 3) := by decide +kernel
theorem dX12_empty_19 : decode cX12_empty 19 = .ok (.iconst 0, 1) := by decide +kernel
theorem dX12_empty_20 : decode cX12_empty 20 = .ok (.iaload, 1) := by decide +kernel
theorem dX12_empty_21 : decode cX12_empty 21 = .ok (.if_icmp .ge 136, 3) := by decide +kernel
theorem dX12_empty_24 : decode cX12_empty 24 = .ok (.aload_n 0, 1) := by decide +kernel
theorem dX12_empty_25 : decode cX12_empty 25 = .ok (.iload_n 1, 1) := by decide +kernel
theorem dX12_empty_26 : decode cX12_empty 26 = .ok (.iload_n 3, 1) := by decide +kernel
theorem dX12_empty_27 : decode cX12_empty 27 = .ok (.invokevirtual 156, 3) := by decide +kernel
theorem dX12_empty_30 : decode cX12_empty 30 = .ok (.istore 4, 2) := by decide +kernel
theorem dX12_empty_32 : decode cX12_empty 32 = .ok (.iload_n 3, 1) := by decide +kernel
theorem dX12_empty_33 : decode cX12_empty 33 = .ok (.iload_n 1, 1) := by decide +kernel
theorem dX12_empty_34 : decode cX12_empty 34 = .ok (.if_icmp .eq 35, 3) := by decide +kernel
theorem dX12_empty_37 : decode cX12_empty 37 = .ok (.aload_n 0, 1) := by decide +kernel
theorem dX12_empty_38 : decode cX12_empty 38 = .ok (.iload_n 1, 1) := by decide +kernel
theorem dX12_empty_39 : decode cX12_empty 39 = .ok (.invokevirtual 49, 3) := by decide +kernel
theorem dX12_empty_42 : decode cX12_empty 42 = .ok (.ifCond .eq 27, 3) := by decide +kernel
theorem dX12_empty_45 : decode cX12_empty 45 = .ok (.aload_n 0, 1) := by decide +kernel
theorem dX12_empty_46 : decode cX12_empty 46 = .ok (.iload_n 3, 1) := by decide +kernel
theorem dX12_empty_47 : decode cX12_empty 47 = .ok (.invokevirtual 49, 3) := by decide +kernel
theorem dX12_empty_50 : decode cX12_empty 50 = .ok (.ifCond .eq 19, 3) := by decide +kernel
theorem dX12_empty_53 : decode cX12_empty 53 = .ok (.iload 4, 2) := by decide +kernel
theorem dX12_empty_55 : decode cX12_empty 55 = .ok (.iconst 1, 1) := by decide +kernel
theorem dX12_empty_56 : decode cX12_empty 56 = .ok (.if_icmp .eq 9, 3) := by decide +kernel
theorem dX12_empty_59 : decode cX12_empty 59 = .ok (.iload 4, 2) := by decide +kernel
theorem dX12_empty_61 : decode cX12_empty 61 = .ok (.iconst 2, 1) := by decide +kernel
theorem dX12_empty_62 : decode cX12_empty 62 = .ok (.if_icmp .ne 7, 3) := by decide +kernel
theorem dX12_empty_65 : decode cX12_empty 65 = .ok (.iconst 1, 1) := by decide +kernel
theorem dX12_empty_66 : decode cX12_empty 66 = .ok (.goto 4, 3) := by decide +kernel
theorem dX12_empty_69 : decode cX12_empty 69 = .ok (.iconst 0, 1) := by decide +kernel
theorem dX12_empty_70 : decode cX12_empty 70 = .ok (.istore 5, 2) := by decide +kernel
theorem dX12_empty_72 : decode cX12_empty 72 = .ok (.iconst 0, 1) := by decide +kernel
theorem dX12_empty_73 : decode cX12_empty 73 = .ok (.istore 6, 2) := by decide +kernel
theorem dX12_empty_75 : decode cX12_empty 75 = .ok (.iload 6, 2) := by decide +kernel
theorem dX12_empty_77 : decode cX12_empty 77 = .ok (.aload_n 0, 1) := by decide +kernel
theorem dX12_empty_78 : decode cX12_empty 78 = .ok (.getfield 9, 3) := by decide +kernel
theorem dX12_empty_81 : decode cX12_empty 81 = .ok (.iconst 0, 1) := by decide +kernel
theorem dX12_empty_82 : decode cX12_empty 82 = .ok (.iaload, 1) := by decide +kernel
theorem dX12_empty_83 : decode cX12_empty 83 = .ok (.if_icmp .ge 53, 3) := by decide +kernel
theorem dX12_empty_86 : decode cX12_empty 86 = .ok (.iload 5, 2) := by decide +kernel
theorem dX12_empty_88 : decode cX12_empty 88 = .ok (.ifCond .eq 48, 3) := by decide +kernel
theorem dX12_empty_91 : decode cX12_empty 91 = .ok (.iload 6, 2) := by decide +kernel
theorem dX12_empty_93 : decode cX12_empty 93 = .ok (.iload_n 1, 1) := by decide +kernel
theorem dX12_empty_94 : decode cX12_empty 94 = .ok (.if_icmp .eq 29, 3) := by decide +kernel
theorem dX12_empty_97 : decode cX12_empty 97 = .ok (.iload 6, 2) := by decide +kernel
theorem dX12_empty_99 : decode cX12_empty 99 = .ok (.iload_n 3, 1) := by decide +kernel
theorem dX12_empty_100 : decode cX12_empty 100 = .ok (.if_icmp .eq 23, 3) := by decide +kernel
theorem dX12_empty_103 : decode cX12_empty 103 = .ok (.aload_n 0, 1) := by decide +kernel
theorem dX12_empty_104 : decode cX12_empty 104 = .ok (.iload 6, 2) := by decide +kernel
theorem dX12_empty_106 : decode cX12_empty 106 = .ok (.invokevirtual 49, 3) := by decide +kernel
theorem dX12_empty_109 : decode cX12_empty 109 = .ok (.ifCond .eq 14, 3) := by decide +kernel
theorem dX12_empty_112 : decode cX12_empty 112 = .ok (.aload_n 0, 1) := by decide +kernel
theorem dX12_empty_113 : decode cX12_empty 113 = .ok (.iload_n 1, 1) := by decide +kernel
theorem dX12_empty_114 : decode cX12_empty 114 = .ok (.iload_n 3, 1) := by decide +kernel
theorem dX12_empty_115 : decode cX12_empty 115 = .ok (.iload 6, 2) := by decide +kernel
theorem dX12_empty_117 : decode cX12_empty 117 = .ok (.invokevirtual 199, 3) := by decide +kernel
theorem dX12_empty_120 : decode cX12_empty 120 = .ok (.ifCond .ne 7, 3) := by decide +kernel
theorem dX12_empty_123 : decode cX12_empty 123 = .ok (.iconst 1, 1) := by decide +kernel
theorem dX12_empty_124 : decode cX12_empty 124 = .ok (.goto 4, 3) := by decide +kernel
theorem dX12_empty_127 : decode cX12_empty 127 = .ok (.iconst 0, 1) := by decide +kernel
theorem dX12_empty_128 : decode cX12_empty 128 = .ok (.istore 5, 2) := by decide +kernel
theorem dX12_empty_130 : decode cX12_empty 130 = .ok (.iinc 6 1, 3) := by decide +kernel
theorem dX12_empty_133 : decode cX12_empty 133 = .ok (.goto (-58), 3) := by decide +kernel
theorem dX12_empty_136 : decode cX12_empty 136 = .ok (.iload_n 2, 1) := by decide +kernel
theorem dX12_empty_137 : decode cX12_empty 137 = .ok (.iload 5, 2) := by decide +kernel
theorem dX12_empty_139 : decode cX12_empty 139 = .ok (.ifCond .eq 9, 3) := by decide +kernel
theorem dX12_empty_142 : decode cX12_empty 142 = .ok (.iconst 1, 1) := by decide +kernel
theorem dX12_empty_143 : decode cX12_empty 143 = .ok (.iload_n 3, 1) := by decide +kernel
theorem dX12_empty_144 : decode cX12_empty 144 = .ok (.ishl, 1) := by decide +kernel
theorem dX12_empty_145 : decode cX12_empty 145 = .ok (.goto 4, 3) := by decide +kernel
theorem dX12_empty_148 : decode cX12_empty 148 = .ok (.iconst 0, 1) := by decide +kernel
theorem dX12_empty_149 : decode cX12_empty 149 = .ok (.ior, 1) := by decide +kernel
theorem dX12_empty_150 : decode cX12_empty 150 = .ok (.istore_n 2, 1) := by decide +kernel
theorem dX12_empty_151 : decode cX12_empty 151 = .ok (.iinc 3 1, 3) := by decide +kernel
theorem dX12_empty_154 : decode cX12_empty 154 = .ok (.goto (-140), 3) := by decide +kernel
theorem dX12_empty_157 : decode cX12_empty 157 = .ok (.iload_n 2, 1) := by decide +kernel
theorem dX12_empty_158 : decode cX12_empty 158 = .ok (.ireturn, 1) := by decide +kernel
theorem dX12_doesDareAny_0 : decode cX12_doesDareAny 0 = .ok (.iconst 0, 1) := by decide +kernel
theorem dX12_doesDareAny_1 : decode cX12_doesDareAny 1 = .ok (.istore_n 2, 1) := by decide +kernel
theorem dX12_doesDareAny_2 : decode cX12_doesDareAny 2 = .ok (.iconst 0, 1) := by decide +kernel
theorem dX12_doesDareAny_3 : decode cX12_doesDareAny 3 = .ok (.istore_n 3, 1) := by decide +kernel
theorem dX12_doesDareAny_4 : decode cX12_doesDareAny 4 = .ok (.iload_n 3, 1) := by decide +kernel
theorem dX12_doesDareAny_5 : decode cX12_doesDareAny 5 = .ok (.aload_n 0, 1) := by decide +kernel
theorem dX12_doesDareAny_6 : decode cX12_doesDareAny 6 = .ok (.getfield 9, 3) := by decide +kernel
theorem dX12_doesDareAny_9 : decode cX12_doesDareAny 9 = .ok (.iconst 0, 1) := by decide +kernel
theorem dX12_doesDareAny_10 : decode cX12_doesDareAny 10 = .ok (.iaload, 1) := by decide +kernel
theorem dX12_doesDareAny_11 : decode cX12_doesDareAny 11 = .ok (.if_icmp .ge 20, 3) := by decide +kernel
theorem dX12_doesDareAny_14 : decode cX12_doesDareAny 14 = .ok (.iload_n 2, 1) := by decide +kernel
theorem dX12_doesDareAny_15 : decode cX12_doesDareAny 15 = .ok (.ifCond .ne 16, 3) := by decide +kernel
theorem dX12_doesDareAny_18 : decode cX12_doesDareAny 18 = .ok (.aload_n 0, 1) := by decide +kernel
theorem dX12_doesDareAny_19 : decode cX12_doesDareAny 19 = .ok (.iload_n 1, 1) := by decide +kernel
theorem dX12_doesDareAny_20 : decode cX12_doesDareAny 20 = .ok (.iload_n 3, 1) := by decide +kernel
theorem dX12_doesDareAny_21 : decode cX12_doesDareAny 21 = .ok (.invokevirtual 190, 3) := by decide +kernel
theorem dX12_doesDareAny_24 : decode cX12_doesDareAny 24 = .ok (.istore_n 2, 1) := by decide +kernel
theorem dX12_doesDareAny_25 : decode cX12_doesDareAny 25 = .ok (.iinc 3 1, 3) := by decide +kernel
theorem dX12_doesDareAny_28 : decode cX12_doesDareAny 28 = .ok (.goto (-24), 3) := by decide +kernel
theorem dX12_doesDareAny_31 : decode cX12_doesDareAny 31 = .ok (.iload_n 2, 1) := by decide +kernel
theorem dX12_doesDareAny_32 : decode cX12_doesDareAny 32 = .ok (.ireturn, 1) := by decide +kernel
theorem dX12_wouldHold_0 : decode cX12_wouldHold 0 = .ok (.iconst 0, 1) := by decide +kernel
theorem dX12_wouldHold_1 : decode cX12_wouldHold 1 = .ok (.istore_n 2, 1) := by decide +kernel
theorem dX12_wouldHold_2 : decode cX12_wouldHold 2 = .ok (.iload_n 2, 1) := by decide +kernel
theorem dX12_wouldHold_3 : decode cX12_wouldHold 3 = .ok (.aload_n 0, 1) := by decide +kernel
theorem dX12_wouldHold_4 : decode cX12_wouldHold 4 = .ok (.getfield 9, 3) := by decide +kernel
theorem dX12_wouldHold_7 : decode cX12_wouldHold 7 = .ok (.iconst 0, 1) := by decide +kernel
theorem dX12_wouldHold_8 : decode cX12_wouldHold 8 = .ok (.iaload, 1) := by decide +kernel
theorem dX12_wouldHold_9 : decode cX12_wouldHold 9 = .ok (.if_icmp .ge 76, 3) := by decide +kernel
theorem dX12_wouldHold_12 : decode cX12_wouldHold 12 = .ok (.aload_n 0, 1) := by decide +kernel
theorem dX12_wouldHold_13 : decode cX12_wouldHold 13 = .ok (.iload_n 2, 1) := by decide +kernel
theorem dX12_wouldHold_14 : decode cX12_wouldHold 14 = .ok (.invokevirtual 49, 3) := by decide +kernel
theorem dX12_wouldHold_17 : decode cX12_wouldHold 17 = .ok (.ifCond .eq 62, 3) := by decide +kernel
theorem dX12_wouldHold_20 : decode cX12_wouldHold 20 = .ok (.aload_n 0, 1) := by decide +kernel
theorem dX12_wouldHold_21 : decode cX12_wouldHold 21 = .ok (.getfield 28, 3) := by decide +kernel
theorem dX12_wouldHold_24 : decode cX12_wouldHold 24 = .ok (.iload_n 2, 1) := by decide +kernel
theorem dX12_wouldHold_25 : decode cX12_wouldHold 25 = .ok (.iaload, 1) := by decide +kernel
theorem dX12_wouldHold_26 : decode cX12_wouldHold 26 = .ok (.istore_n 3, 1) := by decide +kernel
theorem dX12_wouldHold_27 : decode cX12_wouldHold 27 = .ok (.iconst 0, 1) := by decide +kernel
theorem dX12_wouldHold_28 : decode cX12_wouldHold 28 = .ok (.istore 4, 2) := by decide +kernel
theorem dX12_wouldHold_30 : decode cX12_wouldHold 30 = .ok (.iconst 0, 1) := by decide +kernel
theorem dX12_wouldHold_31 : decode cX12_wouldHold 31 = .ok (.istore 5, 2) := by decide +kernel
theorem dX12_wouldHold_33 : decode cX12_wouldHold 33 = .ok (.iload 5, 2) := by decide +kernel
theorem dX12_wouldHold_35 : decode cX12_wouldHold 35 = .ok (.iload_n 1, 1) := by decide +kernel
theorem dX12_wouldHold_36 : decode cX12_wouldHold 36 = .ok (.if_icmp .gt 29, 3) := by decide +kernel
theorem dX12_wouldHold_39 : decode cX12_wouldHold 39 = .ok (.iload 4, 2) := by decide +kernel
theorem dX12_wouldHold_41 : decode cX12_wouldHold 41 = .ok (.ifCond .ne 24, 3) := by decide +kernel
theorem dX12_wouldHold_44 : decode cX12_wouldHold 44 = .ok (.aload_n 0, 1) := by decide +kernel
theorem dX12_wouldHold_45 : decode cX12_wouldHold 45 = .ok (.getfield 28, 3) := by decide +kernel
theorem dX12_wouldHold_48 : decode cX12_wouldHold 48 = .ok (.iload_n 2, 1) := by decide +kernel
theorem dX12_wouldHold_49 : decode cX12_wouldHold 49 = .ok (.iload 5, 2) := by decide +kernel
theorem dX12_wouldHold_51 : decode cX12_wouldHold 51 = .ok (.iastore, 1) := by decide +kernel
theorem dX12_wouldHold_52 : decode cX12_wouldHold 52 = .ok (.aload_n 0, 1) := by decide +kernel
theorem dX12_wouldHold_53 : decode cX12_wouldHold 53 = .ok (.iload_n 2, 1) := by decide +kernel
theorem dX12_wouldHold_54 : decode cX12_wouldHold 54 = .ok (.invokevirtual 202, 3) := by decide +kernel
theorem dX12_wouldHold_57 : decode cX12_wouldHold 57 = .ok (.istore 4, 2) := by decide +kernel
theorem dX12_wouldHold_59 : decode cX12_wouldHold 59 = .ok (.iinc 5 1, 3) := by decide +kernel
theorem dX12_wouldHold_62 : decode cX12_wouldHold 62 = .ok (.goto (-29), 3) := by decide +kernel
theorem dX12_wouldHold_65 : decode cX12_wouldHold 65 = .ok (.aload_n 0, 1) := by decide +kernel
theorem dX12_wouldHold_66 : decode cX12_wouldHold 66 = .ok (.getfield 28, 3) := by decide +kernel
theorem dX12_wouldHold_69 : decode cX12_wouldHold 69 = .ok (.iload_n 2, 1) := by decide +kernel
theorem dX12_wouldHold_70 : decode cX12_wouldHold 70 = .ok (.iload_n 3, 1) := by decide +kernel
theorem dX12_wouldHold_71 : decode cX12_wouldHold 71 = .ok (.iastore, 1) := by decide +kernel
theorem dX12_wouldHold_72 : decode cX12_wouldHold 72 = .ok (.iload 4, 2) := by decide +kernel
theorem dX12_wouldHold_74 : decode cX12_wouldHold 74 = .ok (.ifCond .eq 5, 3) := by decide +kernel
theorem dX12_wouldHold_77 : decode cX12_wouldHold 77 = .ok (.iconst 0, 1) := by decide +kernel
theorem dX12_wouldHold_78 : decode cX12_wouldHold 78 = .ok (.ireturn, 1) := by decide +kernel
theorem dX12_wouldHold_79 : decode cX12_wouldHold 79 = .ok (.iinc 2 1, 3) := by decide +kernel
theorem dX12_wouldHold_82 : decode cX12_wouldHold 82 = .ok (.goto (-80), 3) := by decide +kernel
theorem dX12_wouldHold_85 : decode cX12_wouldHold 85 = .ok (.iconst 1, 1) := by decide +kernel
theorem dX12_wouldHold_86 : decode cX12_wouldHold 86 = .ok (.ireturn, 1) := by decide +kernel
theorem dX12_parts_0 : decode cX12_parts 0 = .ok (.iload_n 1, 1) := by decide +kernel
theorem dX12_parts_1 : decode cX12_parts 1 = .ok (.aload_n 0, 1) := by decide +kernel
theorem dX12_parts_2 : decode cX12_parts 2 = .ok (.getfield 9, 3) := by decide +kernel
theorem dX12_parts_5 : decode cX12_parts 5 = .ok (.iconst 0, 1) := by decide +kernel
theorem dX12_parts_6 : decode cX12_parts 6 = .ok (.iaload, 1) := by decide +kernel
theorem dX12_parts_7 : decode cX12_parts 7 = .ok (.if_icmp .ne 117, 3) := by decide +kernel
theorem dX12_parts_10 : decode cX12_parts 10 = .ok (.aload_n 0, 1) := by decide +kernel
theorem dX12_parts_11 : decode cX12_parts 11 = .ok (.dup, 1) := by decide +kernel
theorem dX12_parts_12 : decode cX12_parts 12 = .ok (.getfield 205, 3) := by decide +kernel
theorem dX12_parts_15 : decode cX12_parts 15 = .ok (.iconst 1, 1) := by decide +kernel
theorem dX12_parts_16 : decode cX12_parts 16 = .ok (.iadd, 1) := by decide +kernel
theorem dX12_parts_17 : decode cX12_parts 17 = .ok (.putfield 205, 3) := by decide +kernel
theorem dX12_parts_20 : decode cX12_parts 20 = .ok (.aload_n 0, 1) := by decide +kernel
theorem dX12_parts_21 : decode cX12_parts 21 = .ok (.invokevirtual 196, 3) := by decide +kernel
theorem dX12_parts_24 : decode cX12_parts 24 = .ok (.bipush (-5), 2) := by decide +kernel
theorem dX12_parts_26 : decode cX12_parts 26 = .ok (.if_icmp .ne 97, 3) := by decide +kernel
theorem dX12_parts_29 : decode cX12_parts 29 = .ok (.aload_n 0, 1) := by decide +kernel
theorem dX12_parts_30 : decode cX12_parts 30 = .ok (.iload_n 2, 1) := by decide +kernel
theorem dX12_parts_31 : decode cX12_parts 31 = .ok (.invokevirtual 208, 3) := by decide +kernel
theorem dX12_parts_34 : decode cX12_parts 34 = .ok (.istore_n 3, 1) := by decide +kernel
theorem dX12_parts_35 : decode cX12_parts 35 = .ok (.aload_n 0, 1) := by decide +kernel
theorem dX12_parts_36 : decode cX12_parts 36 = .ok (.getfield 211, 3) := by decide +kernel
theorem dX12_parts_39 : decode cX12_parts 39 = .ok (.ifCond .eq 10, 3) := by decide +kernel
theorem dX12_parts_42 : decode cX12_parts 42 = .ok (.aload_n 0, 1) := by decide +kernel
theorem dX12_parts_43 : decode cX12_parts 43 = .ok (.getfield 214, 3) := by decide +kernel
theorem dX12_parts_46 : decode cX12_parts 46 = .ok (.goto 7, 3) := by decide +kernel
theorem dX12_parts_49 : decode cX12_parts 49 = .ok (.aload_n 0, 1) := by decide +kernel
theorem dX12_parts_50 : decode cX12_parts 50 = .ok (.getfield 217, 3) := by decide +kernel
theorem dX12_parts_53 : decode cX12_parts 53 = .ok (.istore 4, 2) := by decide +kernel
theorem dX12_parts_55 : decode cX12_parts 55 = .ok (.aload_n 0, 1) := by decide +kernel
theorem dX12_parts_56 : decode cX12_parts 56 = .ok (.iload 4, 2) := by decide +kernel
theorem dX12_parts_58 : decode cX12_parts 58 = .ok (.aload_n 0, 1) := by decide +kernel
theorem dX12_parts_59 : decode cX12_parts 59 = .ok (.getfield 220, 3) := by decide +kernel
theorem dX12_parts_62 : decode cX12_parts 62 = .ok (.if_icmp .ne 26, 3) := by decide +kernel
theorem dX12_parts_65 : decode cX12_parts 65 = .ok (.iload_n 3, 1) := by decide +kernel
theorem dX12_parts_66 : decode cX12_parts 66 = .ok (.ifCond .ne 10, 3) := by decide +kernel
theorem dX12_parts_69 : decode cX12_parts 69 = .ok (.aload_n 0, 1) := by decide +kernel
theorem dX12_parts_70 : decode cX12_parts 70 = .ok (.getfield 211, 3) := by decide +kernel
theorem dX12_parts_73 : decode cX12_parts 73 = .ok (.ifCond .ne 15, 3) := by decide +kernel
theorem dX12_parts_76 : decode cX12_parts 76 = .ok (.aload_n 0, 1) := by decide +kernel
theorem dX12_parts_77 : decode cX12_parts 77 = .ok (.getfield 28, 3) := by decide +kernel
theorem dX12_parts_80 : decode cX12_parts 80 = .ok (.aload_n 0, 1) := by decide +kernel
theorem dX12_parts_81 : decode cX12_parts 81 = .ok (.getfield 223, 3) := by decide +kernel
theorem dX12_parts_84 : decode cX12_parts 84 = .ok (.iaload, 1) := by decide +kernel
theorem dX12_parts_85 : decode cX12_parts 85 = .ok (.goto 7, 3) := by decide +kernel
theorem dX12_parts_88 : decode cX12_parts 88 = .ok (.aload_n 0, 1) := by decide +kernel
theorem dX12_parts_89 : decode cX12_parts 89 = .ok (.getfield 226, 3) := by decide +kernel
theorem dX12_parts_92 : decode cX12_parts 92 = .ok (.putfield 226, 3) := by decide +kernel
theorem dX12_parts_95 : decode cX12_parts 95 = .ok (.aload_n 0, 1) := by decide +kernel
theorem dX12_parts_96 : decode cX12_parts 96 = .ok (.dup, 1) := by decide +kernel
theorem dX12_parts_97 : decode cX12_parts 97 = .ok (.getfield 217, 3) := by decide +kernel
theorem dX12_parts_100 : decode cX12_parts 100 = .ok (.iconst 1, 1) := by decide +kernel
theorem dX12_parts_101 : decode cX12_parts 101 = .ok (.iadd, 1) := by decide +kernel
theorem dX12_parts_102 : decode cX12_parts 102 = .ok (.putfield 217, 3) := by decide +kernel
theorem dX12_parts_105 : decode cX12_parts 105 = .ok (.aload_n 0, 1) := by decide +kernel
theorem dX12_parts_106 : decode cX12_parts 106 = .ok (.dup, 1) := by decide +kernel
theorem dX12_parts_107 : decode cX12_parts 107 = .ok (.getfield 214, 3) := by decide +kernel
theorem dX12_parts_110 : decode cX12_parts 110 = .ok (.iload_n 3, 1) := by decide +kernel
theorem dX12_parts_111 : decode cX12_parts 111 = .ok (.ifCond .eq 7, 3) := by decide +kernel
theorem dX12_parts_114 : decode cX12_parts 114 = .ok (.iconst 1, 1) := by decide +kernel
theorem dX12_parts_115 : decode cX12_parts 115 = .ok (.goto 4, 3) := by decide +kernel
theorem dX12_parts_118 : decode cX12_parts 118 = .ok (.iconst 0, 1) := by decide +kernel
theorem dX12_parts_119 : decode cX12_parts 119 = .ok (.iadd, 1) := by decide +kernel
theorem dX12_parts_120 : decode cX12_parts 120 = .ok (.putfield 214, 3) := by decide +kernel
theorem dX12_parts_123 : decode cX12_parts 123 = .ok (.return_, 1) := by decide +kernel
theorem dX12_parts_124 : decode cX12_parts 124 = .ok (.aload_n 0, 1) := by decide +kernel
theorem dX12_parts_125 : decode cX12_parts 125 = .ok (.iload_n 1, 1) := by decide +kernel
theorem dX12_parts_126 : decode cX12_parts 126 = .ok (.invokevirtual 49, 3) := by decide +kernel
theorem dX12_parts_129 : decode cX12_parts 129 = .ok (.ifCond .ne 20, 3) := by decide +kernel
theorem dX12_parts_132 : decode cX12_parts 132 = .ok (.aload_n 0, 1) := by decide +kernel
theorem dX12_parts_133 : decode cX12_parts 133 = .ok (.getfield 28, 3) := by decide +kernel
theorem dX12_parts_136 : decode cX12_parts 136 = .ok (.iload_n 1, 1) := by decide +kernel
theorem dX12_parts_137 : decode cX12_parts 137 = .ok (.bipush 9, 2) := by decide +kernel
theorem dX12_parts_139 : decode cX12_parts 139 = .ok (.iastore, 1) := by decide +kernel
theorem dX12_parts_140 : decode cX12_parts 140 = .ok (.aload_n 0, 1) := by decide +kernel
theorem dX12_parts_141 : decode cX12_parts 141 = .ok (.iload_n 1, 1) := by decide +kernel
theorem dX12_parts_142 : decode cX12_parts 142 = .ok (.iconst 1, 1) := by decide +kernel
theorem dX12_parts_143 : decode cX12_parts 143 = .ok (.iadd, 1) := by decide +kernel
theorem dX12_parts_144 : decode cX12_parts 144 = .ok (.iload_n 2, 1) := by decide +kernel
theorem dX12_parts_145 : decode cX12_parts 145 = .ok (.invokevirtual 229, 3) := by decide +kernel
theorem dX12_parts_148 : decode cX12_parts 148 = .ok (.return_, 1) := by decide +kernel
theorem dX12_parts_149 : decode cX12_parts 149 = .ok (.iconst 0, 1) := by decide +kernel
theorem dX12_parts_150 : decode cX12_parts 150 = .ok (.istore_n 3, 1) := by decide +kernel
theorem dX12_parts_151 : decode cX12_parts 151 = .ok (.iload_n 3, 1) := by decide +kernel
theorem dX12_parts_152 : decode cX12_parts 152 = .ok (.iload_n 2, 1) := by decide +kernel
theorem dX12_parts_153 : decode cX12_parts 153 = .ok (.if_icmp .gt 35, 3) := by decide +kernel
theorem dX12_parts_156 : decode cX12_parts 156 = .ok (.aload_n 0, 1) := by decide +kernel
theorem dX12_parts_157 : decode cX12_parts 157 = .ok (.getfield 28, 3) := by decide +kernel
theorem dX12_parts_160 : decode cX12_parts 160 = .ok (.iload_n 1, 1) := by decide +kernel
theorem dX12_parts_161 : decode cX12_parts 161 = .ok (.iload_n 3, 1) := by decide +kernel
theorem dX12_parts_162 : decode cX12_parts 162 = .ok (.iastore, 1) := by decide +kernel
theorem dX12_parts_163 : decode cX12_parts 163 = .ok (.aload_n 0, 1) := by decide +kernel
theorem dX12_parts_164 : decode cX12_parts 164 = .ok (.iload_n 1, 1) := by decide +kernel
theorem dX12_parts_165 : decode cX12_parts 165 = .ok (.iconst 1, 1) := by decide +kernel
theorem dX12_parts_166 : decode cX12_parts 166 = .ok (.iadd, 1) := by decide +kernel
theorem dX12_parts_167 : decode cX12_parts 167 = .ok (.iload_n 3, 1) := by decide +kernel
theorem dX12_parts_168 : decode cX12_parts 168 = .ok (.iload_n 2, 1) := by decide +kernel
theorem dX12_parts_169 : decode cX12_parts 169 = .ok (.if_icmp .ne 9, 3) := by decide +kernel
theorem dX12_parts_172 : decode cX12_parts 172 = .ok (.iload_n 2, 1) := by decide +kernel
theorem dX12_parts_173 : decode cX12_parts 173 = .ok (.iconst 1, 1) := by decide +kernel
theorem dX12_parts_174 : decode cX12_parts 174 = .ok (.iadd, 1) := by decide +kernel
theorem dX12_parts_175 : decode cX12_parts 175 = .ok (.goto 4, 3) := by decide +kernel
theorem dX12_parts_178 : decode cX12_parts 178 = .ok (.iload_n 2, 1) := by decide +kernel
theorem dX12_parts_179 : decode cX12_parts 179 = .ok (.invokevirtual 229, 3) := by decide +kernel
theorem dX12_parts_182 : decode cX12_parts 182 = .ok (.iinc 3 1, 3) := by decide +kernel
theorem dX12_parts_185 : decode cX12_parts 185 = .ok (.goto (-34), 3) := by decide +kernel
theorem dX12_parts_188 : decode cX12_parts 188 = .ok (.return_, 1) := by decide +kernel
theorem dX12_partsAll_0 : decode cX12_partsAll 0 = .ok (.aload_n 0, 1) := by decide +kernel
theorem dX12_partsAll_1 : decode cX12_partsAll 1 = .ok (.iconst 2, 1) := by decide +kernel
theorem dX12_partsAll_2 : decode cX12_partsAll 2 = .ok (.putfield 135, 3) := by decide +kernel
theorem dX12_partsAll_5 : decode cX12_partsAll 5 = .ok (.aload_n 0, 1) := by decide +kernel
theorem dX12_partsAll_6 : decode cX12_partsAll 6 = .ok (.iconst 0, 1) := by decide +kernel
theorem dX12_partsAll_7 : decode cX12_partsAll 7 = .ok (.putfield 138, 3) := by decide +kernel
theorem dX12_partsAll_10 : decode cX12_partsAll 10 = .ok (.aload_n 0, 1) := by decide +kernel
theorem dX12_partsAll_11 : decode cX12_partsAll 11 = .ok (.iconst 0, 1) := by decide +kernel
theorem dX12_partsAll_12 : decode cX12_partsAll 12 = .ok (.putfield 205, 3) := by decide +kernel
theorem dX12_partsAll_15 : decode cX12_partsAll 15 = .ok (.aload_n 0, 1) := by decide +kernel
theorem dX12_partsAll_16 : decode cX12_partsAll 16 = .ok (.iconst 0, 1) := by decide +kernel
theorem dX12_partsAll_17 : decode cX12_partsAll 17 = .ok (.putfield 217, 3) := by decide +kernel
theorem dX12_partsAll_20 : decode cX12_partsAll 20 = .ok (.aload_n 0, 1) := by decide +kernel
theorem dX12_partsAll_21 : decode cX12_partsAll 21 = .ok (.iconst 0, 1) := by decide +kernel
theorem dX12_partsAll_22 : decode cX12_partsAll 22 = .ok (.putfield 214, 3) := by decide +kernel
theorem dX12_partsAll_25 : decode cX12_partsAll 25 = .ok (.aload_n 0, 1) := by decide +kernel
theorem dX12_partsAll_26 : decode cX12_partsAll 26 = .ok (.iload_n 1, 1) := by decide +kernel
theorem dX12_partsAll_27 : decode cX12_partsAll 27 = .ok (.putfield 220, 3) := by decide +kernel
theorem dX12_partsAll_30 : decode cX12_partsAll 30 = .ok (.aload_n 0, 1) := by decide +kernel
theorem dX12_partsAll_31 : decode cX12_partsAll 31 = .ok (.iload_n 2, 1) := by decide +kernel
theorem dX12_partsAll_32 : decode cX12_partsAll 32 = .ok (.putfield 223, 3) := by decide +kernel
theorem dX12_partsAll_35 : decode cX12_partsAll 35 = .ok (.aload_n 0, 1) := by decide +kernel
theorem dX12_partsAll_36 : decode cX12_partsAll 36 = .ok (.iload_n 3, 1) := by decide +kernel
theorem dX12_partsAll_37 : decode cX12_partsAll 37 = .ok (.putfield 211, 3) := by decide +kernel
theorem dX12_partsAll_40 : decode cX12_partsAll 40 = .ok (.aload_n 0, 1) := by decide +kernel
theorem dX12_partsAll_41 : decode cX12_partsAll 41 = .ok (.iconst (-1), 1) := by decide +kernel
theorem dX12_partsAll_42 : decode cX12_partsAll 42 = .ok (.putfield 226, 3) := by decide +kernel
theorem dX12_partsAll_45 : decode cX12_partsAll 45 = .ok (.aload_n 0, 1) := by decide +kernel
theorem dX12_partsAll_46 : decode cX12_partsAll 46 = .ok (.iconst 0, 1) := by decide +kernel
theorem dX12_partsAll_47 : decode cX12_partsAll 47 = .ok (.iconst 0, 1) := by decide +kernel
theorem dX12_partsAll_48 : decode cX12_partsAll 48 = .ok (.invokevirtual 229, 3) := by decide +kernel
theorem dX12_partsAll_51 : decode cX12_partsAll 51 = .ok (.return_, 1) := by decide +kernel
theorem dX12_all_0 : decode cX12_all 0 = .ok (.iload_n 1, 1) := by decide +kernel
theorem dX12_all_1 : decode cX12_all 1 = .ok (.iconst 0, 1) := by decide +kernel
theorem dX12_all_2 : decode cX12_all 2 = .ok (.iconst 2, 1) := by decide +kernel
theorem dX12_all_3 : decode cX12_all 3 = .ok (.invokestatic 41, 3) := by decide +kernel
theorem dX12_all_6 : decode cX12_all 6 = .ok (.ifCond .ne 5, 3) := by decide +kernel
theorem dX12_all_9 : decode cX12_all 9 = .ok (.iconst (-1), 1) := by decide +kernel
theorem dX12_all_10 : decode cX12_all 10 = .ok (.ireturn, 1) := by decide +kernel
theorem dX12_all_11 : decode cX12_all 11 = .ok (.aload_n 0, 1) := by decide +kernel
theorem dX12_all_12 : decode cX12_all 12 = .ok (.invokevirtual 153, 3) := by decide +kernel
theorem dX12_all_15 : decode cX12_all 15 = .ok (.invokestatic 232, 3) := by decide +kernel
theorem dX12_all_18 : decode cX12_all 18 = .ok (.bipush 6, 2) := by decide +kernel
theorem dX12_all_20 : decode cX12_all 20 = .ok (.if_icmp .le 6, 3) := by decide +kernel
theorem dX12_all_23 : decode cX12_all 23 = .ok (.bipush (-9), 2) := by decide +kernel
theorem dX12_all_25 : decode cX12_all 25 = .ok (.ireturn, 1) := by decide +kernel
theorem dX12_all_26 : decode cX12_all 26 = .ok (.aload_n 0, 1) := by decide +kernel
theorem dX12_all_27 : decode cX12_all 27 = .ok (.iconst (-1), 1) := by decide +kernel
theorem dX12_all_28 : decode cX12_all 28 = .ok (.iconst 0, 1) := by decide +kernel
theorem dX12_all_29 : decode cX12_all 29 = .ok (.iconst 0, 1) := by decide +kernel
theorem dX12_all_30 : decode cX12_all 30 = .ok (.invokevirtual 235, 3) := by decide +kernel
theorem dX12_all_33 : decode cX12_all 33 = .ok (.iload_n 1, 1) := by decide +kernel
theorem dX12_all_34 : decode cX12_all 34 = .ok (.ifCond .ne 10, 3) := by decide +kernel
theorem dX12_all_37 : decode cX12_all 37 = .ok (.aload_n 0, 1) := by decide +kernel
theorem dX12_all_38 : decode cX12_all 38 = .ok (.getfield 205, 3) := by decide +kernel
theorem dX12_all_41 : decode cX12_all 41 = .ok (.goto 19, 3) := by decide +kernel
theorem dX12_all_44 : decode cX12_all 44 = .ok (.iload_n 1, 1) := by decide +kernel
theorem dX12_all_45 : decode cX12_all 45 = .ok (.iconst 1, 1) := by decide +kernel
theorem dX12_all_46 : decode cX12_all 46 = .ok (.if_icmp .ne 10, 3) := by decide +kernel
theorem dX12_all_49 : decode cX12_all 49 = .ok (.aload_n 0, 1) := by decide +kernel
theorem dX12_all_50 : decode cX12_all 50 = .ok (.getfield 217, 3) := by decide +kernel
theorem dX12_all_53 : decode cX12_all 53 = .ok (.goto 7, 3) := by decide +kernel
theorem dX12_all_56 : decode cX12_all 56 = .ok (.aload_n 0, 1) := by decide +kernel
theorem dX12_all_57 : decode cX12_all 57 = .ok (.getfield 214, 3) := by decide +kernel
theorem dX12_all_60 : decode cX12_all 60 = .ok (.ireturn, 1) := by decide +kernel
theorem dX12_quiet_0 : decode cX12_quiet 0 = .ok (.aload_n 0, 1) := by decide +kernel
theorem dX12_quiet_1 : decode cX12_quiet 1 = .ok (.iload_n 2, 1) := by decide +kernel
theorem dX12_quiet_2 : decode cX12_quiet 2 = .ok (.invokevirtual 49, 3) := by decide +kernel
theorem dX12_quiet_5 : decode cX12_quiet 5 = .ok (.ifCond .ne 5, 3) := by decide +kernel
theorem dX12_quiet_8 : decode cX12_quiet 8 = .ok (.iconst (-1), 1) := by decide +kernel
theorem dX12_quiet_9 : decode cX12_quiet 9 = .ok (.ireturn, 1) := by decide +kernel
theorem dX12_quiet_10 : decode cX12_quiet 10 = .ok (.aload_n 0, 1) := by decide +kernel
theorem dX12_quiet_11 : decode cX12_quiet 11 = .ok (.invokevirtual 153, 3) := by decide +kernel
theorem dX12_quiet_14 : decode cX12_quiet 14 = .ok (.invokestatic 232, 3) := by decide +kernel
theorem dX12_quiet_17 : decode cX12_quiet 17 = .ok (.bipush 6, 2) := by decide +kernel
theorem dX12_quiet_19 : decode cX12_quiet 19 = .ok (.if_icmp .le 6, 3) := by decide +kernel
theorem dX12_quiet_22 : decode cX12_quiet 22 = .ok (.bipush (-9), 2) := by decide +kernel
theorem dX12_quiet_24 : decode cX12_quiet 24 = .ok (.ireturn, 1) := by decide +kernel
theorem dX12_quiet_25 : decode cX12_quiet 25 = .ok (.aload_n 0, 1) := by decide +kernel
theorem dX12_quiet_26 : decode cX12_quiet 26 = .ok (.iload_n 1, 1) := by decide +kernel
theorem dX12_quiet_27 : decode cX12_quiet 27 = .ok (.ifCond .ge 8, 3) := by decide +kernel
theorem dX12_quiet_30 : decode cX12_quiet 30 = .ok (.bipush (-2), 2) := by decide +kernel
theorem dX12_quiet_32 : decode cX12_quiet 32 = .ok (.goto 4, 3) := by decide +kernel
theorem dX12_quiet_35 : decode cX12_quiet 35 = .ok (.iload_n 1, 1) := by decide +kernel
theorem dX12_quiet_36 : decode cX12_quiet 36 = .ok (.iload_n 2, 1) := by decide +kernel
theorem dX12_quiet_37 : decode cX12_quiet 37 = .ok (.iload_n 3, 1) := by decide +kernel
theorem dX12_quiet_38 : decode cX12_quiet 38 = .ok (.invokevirtual 235, 3) := by decide +kernel
theorem dX12_quiet_41 : decode cX12_quiet 41 = .ok (.aload_n 0, 1) := by decide +kernel
theorem dX12_quiet_42 : decode cX12_quiet 42 = .ok (.getfield 226, 3) := by decide +kernel
theorem dX12_quiet_45 : decode cX12_quiet 45 = .ok (.ireturn, 1) := by decide +kernel
theorem dX12_leads_0 : decode cX12_leads 0 = .ok (.aload_n 0, 1) := by decide +kernel
theorem dX12_leads_1 : decode cX12_leads 1 = .ok (.iload_n 1, 1) := by decide +kernel
theorem dX12_leads_2 : decode cX12_leads 2 = .ok (.iload_n 2, 1) := by decide +kernel
theorem dX12_leads_3 : decode cX12_leads 3 = .ok (.invokevirtual 182, 3) := by decide +kernel
theorem dX12_leads_6 : decode cX12_leads 6 = .ok (.aload_n 0, 1) := by decide +kernel
theorem dX12_leads_7 : decode cX12_leads 7 = .ok (.getfield 176, 3) := by decide +kernel
theorem dX12_leads_10 : decode cX12_leads 10 = .ok (.aload_n 0, 1) := by decide +kernel
theorem dX12_leads_11 : decode cX12_leads 11 = .ok (.getfield 179, 3) := by decide +kernel
theorem dX12_leads_14 : decode cX12_leads 14 = .ok (.if_icmp .le 7, 3) := by decide +kernel
theorem dX12_leads_17 : decode cX12_leads 17 = .ok (.iconst 1, 1) := by decide +kernel
theorem dX12_leads_18 : decode cX12_leads 18 = .ok (.goto 4, 3) := by decide +kernel
theorem dX12_leads_21 : decode cX12_leads 21 = .ok (.iconst 0, 1) := by decide +kernel
theorem dX12_leads_22 : decode cX12_leads 22 = .ok (.istore_n 3, 1) := by decide +kernel
theorem dX12_leads_23 : decode cX12_leads 23 = .ok (.iload_n 3, 1) := by decide +kernel
theorem dX12_leads_24 : decode cX12_leads 24 = .ok (.ifCond .eq 11, 3) := by decide +kernel
theorem dX12_leads_27 : decode cX12_leads 27 = .ok (.aload_n 0, 1) := by decide +kernel
theorem dX12_leads_28 : decode cX12_leads 28 = .ok (.getfield 179, 3) := by decide +kernel
theorem dX12_leads_31 : decode cX12_leads 31 = .ok (.i2l, 1) := by decide +kernel
theorem dX12_leads_32 : decode cX12_leads 32 = .ok (.goto 8, 3) := by decide +kernel
theorem dX12_leads_35 : decode cX12_leads 35 = .ok (.aload_n 0, 1) := by decide +kernel
theorem dX12_leads_36 : decode cX12_leads 36 = .ok (.getfield 176, 3) := by decide +kernel
theorem dX12_leads_39 : decode cX12_leads 39 = .ok (.i2l, 1) := by decide +kernel
theorem dX12_leads_40 : decode cX12_leads 40 = .ok (.lstore 4, 2) := by decide +kernel
theorem dX12_leads_42 : decode cX12_leads 42 = .ok (.iload_n 3, 1) := by decide +kernel
theorem dX12_leads_43 : decode cX12_leads 43 = .ok (.ifCond .eq 11, 3) := by decide +kernel
theorem dX12_leads_46 : decode cX12_leads 46 = .ok (.aload_n 0, 1) := by decide +kernel
theorem dX12_leads_47 : decode cX12_leads 47 = .ok (.getfield 176, 3) := by decide +kernel
theorem dX12_leads_50 : decode cX12_leads 50 = .ok (.i2l, 1) := by decide +kernel
theorem dX12_leads_51 : decode cX12_leads 51 = .ok (.goto 8, 3) := by decide +kernel
theorem dX12_leads_54 : decode cX12_leads 54 = .ok (.aload_n 0, 1) := by decide +kernel
theorem dX12_leads_55 : decode cX12_leads 55 = .ok (.getfield 179, 3) := by decide +kernel
theorem dX12_leads_58 : decode cX12_leads 58 = .ok (.i2l, 1) := by decide +kernel
theorem dX12_leads_59 : decode cX12_leads 59 = .ok (.lstore 6, 2) := by decide +kernel
theorem dX12_leads_61 : decode cX12_leads 61 = .ok (.aload_n 0, 1) := by decide +kernel
theorem dX12_leads_62 : decode cX12_leads 62 = .ok (.getfield 9, 3) := by decide +kernel
theorem dX12_leads_65 : decode cX12_leads 65 = .ok (.sipush 270, 3) := by decide +kernel
theorem dX12_leads_68 : decode cX12_leads 68 = .ok (.iload_n 2, 1) := by decide +kernel
theorem dX12_leads_69 : decode cX12_leads 69 = .ok (.iadd, 1) := by decide +kernel
theorem dX12_leads_70 : decode cX12_leads 70 = .ok (.iaload, 1) := by decide +kernel
theorem dX12_leads_71 : decode cX12_leads 71 = .ok (.aload_n 0, 1) := by decide +kernel
theorem dX12_leads_72 : decode cX12_leads 72 = .ok (.getfield 9, 3) := by decide +kernel
theorem dX12_leads_75 : decode cX12_leads 75 = .ok (.bipush 8, 2) := by decide +kernel
theorem dX12_leads_77 : decode cX12_leads 77 = .ok (.iaload, 1) := by decide +kernel
theorem dX12_leads_78 : decode cX12_leads 78 = .ok (.imul, 1) := by decide +kernel
theorem dX12_leads_79 : decode cX12_leads 79 = .ok (.bipush 100, 2) := by decide +kernel
theorem dX12_leads_81 : decode cX12_leads 81 = .ok (.idiv, 1) := by decide +kernel
theorem dX12_leads_82 : decode cX12_leads 82 = .ok (.istore 8, 2) := by decide +kernel
theorem dX12_leads_84 : decode cX12_leads 84 = .ok (.iconst 0, 1) := by decide +kernel
theorem dX12_leads_85 : decode cX12_leads 85 = .ok (.istore 9, 2) := by decide +kernel
theorem dX12_leads_87 : decode cX12_leads 87 = .ok (.iload 9, 2) := by decide +kernel
theorem dX12_leads_89 : decode cX12_leads 89 = .ok (.aload_n 0, 1) := by decide +kernel
theorem dX12_leads_90 : decode cX12_leads 90 = .ok (.getfield 9, 3) := by decide +kernel
theorem dX12_leads_93 : decode cX12_leads 93 = .ok (.iconst 0, 1) := by decide +kernel
theorem dX12_leads_94 : decode cX12_leads 94 = .ok (.iaload, 1) := by decide +kernel
theorem dX12_leads_95 : decode cX12_leads 95 = .ok (.if_icmp .ge 124, 3) := by decide +kernel
theorem dX12_leads_98 : decode cX12_leads 98 = .ok (.aload_n 0, 1) := by decide +kernel
theorem dX12_leads_99 : decode cX12_leads 99 = .ok (.getfield 144, 3) := by decide +kernel
theorem dX12_leads_102 : decode cX12_leads 102 = .ok (.iload 9, 2) := by decide +kernel
theorem dX12_leads_104 : decode cX12_leads 104 = .ok (.ishr, 1) := by decide +kernel
theorem dX12_leads_105 : decode cX12_leads 105 = .ok (.iconst 1, 1) := by decide +kernel
theorem dX12_leads_106 : decode cX12_leads 106 = .ok (.iand, 1) := by decide +kernel
theorem dX12_leads_107 : decode cX12_leads 107 = .ok (.iconst 1, 1) := by decide +kernel
theorem dX12_leads_108 : decode cX12_leads 108 = .ok (.if_icmp .ne 7, 3) := by decide +kernel
theorem dX12_leads_111 : decode cX12_leads 111 = .ok (.iconst 1, 1) := by decide +kernel
theorem dX12_leads_112 : decode cX12_leads 112 = .ok (.goto 4, 3) := by decide +kernel
theorem dX12_leads_115 : decode cX12_leads 115 = .ok (.iconst 0, 1) := by decide +kernel
theorem dX12_leads_116 : decode cX12_leads 116 = .ok (.istore 10, 2) := by decide +kernel
theorem dX12_leads_118 : decode cX12_leads 118 = .ok (.aload_n 0, 1) := by decide +kernel
theorem dX12_leads_119 : decode cX12_leads 119 = .ok (.getfield 147, 3) := by decide +kernel
theorem dX12_leads_122 : decode cX12_leads 122 = .ok (.iload 9, 2) := by decide +kernel
theorem dX12_leads_124 : decode cX12_leads 124 = .ok (.ishr, 1) := by decide +kernel
theorem dX12_leads_125 : decode cX12_leads 125 = .ok (.iconst 1, 1) := by decide +kernel
theorem dX12_leads_126 : decode cX12_leads 126 = .ok (.iand, 1) := by decide +kernel
theorem dX12_leads_127 : decode cX12_leads 127 = .ok (.iconst 1, 1) := by decide +kernel
theorem dX12_leads_128 : decode cX12_leads 128 = .ok (.if_icmp .ne 7, 3) := by decide +kernel
theorem dX12_leads_131 : decode cX12_leads 131 = .ok (.iconst 1, 1) := by decide +kernel
theorem dX12_leads_132 : decode cX12_leads 132 = .ok (.goto 4, 3) := by decide +kernel
theorem dX12_leads_135 : decode cX12_leads 135 = .ok (.iconst 0, 1) := by decide +kernel
theorem dX12_leads_136 : decode cX12_leads 136 = .ok (.istore 11, 2) := by decide +kernel
theorem dX12_leads_138 : decode cX12_leads 138 = .ok (.aload_n 0, 1) := by decide +kernel
theorem dX12_leads_139 : decode cX12_leads 139 = .ok (.getfield 9, 3) := by decide +kernel
theorem dX12_leads_142 : decode cX12_leads 142 = .ok (.sipush 270, 3) := by decide +kernel
theorem dX12_leads_145 : decode cX12_leads 145 = .ok (.iload 9, 2) := by decide +kernel
theorem dX12_leads_147 : decode cX12_leads 147 = .ok (.iadd, 1) := by decide +kernel
theorem dX12_leads_148 : decode cX12_leads 148 = .ok (.iaload, 1) := by decide +kernel
theorem dX12_leads_149 : decode cX12_leads 149 = .ok (.istore 12, 2) := by decide +kernel
theorem dX12_leads_151 : decode cX12_leads 151 = .ok (.iload 10, 2) := by decide +kernel
theorem dX12_leads_153 : decode cX12_leads 153 = .ok (.ifCond .ne 8, 3) := by decide +kernel
theorem dX12_leads_156 : decode cX12_leads 156 = .ok (.iload 11, 2) := by decide +kernel
theorem dX12_leads_158 : decode cX12_leads 158 = .ok (.ifCond .eq 55, 3) := by decide +kernel
theorem dX12_leads_161 : decode cX12_leads 161 = .ok (.aload_n 0, 1) := by decide +kernel
theorem dX12_leads_162 : decode cX12_leads 162 = .ok (.getfield 9, 3) := by decide +kernel
theorem dX12_leads_165 : decode cX12_leads 165 = .ok (.sipush 270, 3) := by decide +kernel
theorem dX12_leads_168 : decode cX12_leads 168 = .ok (.iload 9, 2) := by decide +kernel
theorem dX12_leads_170 : decode cX12_leads 170 = .ok (.iadd, 1) := by decide +kernel
theorem dX12_leads_171 : decode cX12_leads 171 = .ok (.iload 10, 2) := by decide +kernel
theorem dX12_leads_173 : decode cX12_leads 173 = .ok (.iload_n 3, 1) := by decide +kernel
theorem dX12_leads_174 : decode cX12_leads 174 = .ok (.if_icmp .ne 34, 3) := by decide +kernel
theorem dX12_leads_177 : decode cX12_leads 177 = .ok (.iload 12, 2) := by decide +kernel
theorem dX12_leads_179 : decode cX12_leads 179 = .ok (.lload 6, 2) := by decide +kernel
theorem dX12_leads_181 : decode cX12_leads 181 = .ok (.lconst 0, 1) := by decide +kernel
theorem dX12_leads_182 : decode cX12_leads 182 = .ok (.lcmp, 1) := by decide +kernel
theorem dX12_leads_183 : decode cX12_leads 183 = .ok (.ifCond .ne 7, 3) := by decide +kernel
theorem dX12_leads_186 : decode cX12_leads 186 = .ok (.iconst 0, 1) := by decide +kernel
theorem dX12_leads_187 : decode cX12_leads 187 = .ok (.goto 17, 3) := by decide +kernel
theorem dX12_leads_190 : decode cX12_leads 190 = .ok (.iload 12, 2) := by decide +kernel
theorem dX12_leads_192 : decode cX12_leads 192 = .ok (.i2l, 1) := by decide +kernel
theorem dX12_leads_193 : decode cX12_leads 193 = .ok (.lload 4, 2) := by decide +kernel
theorem dX12_leads_195 : decode cX12_leads 195 = .ok (.lmul, 1) := by decide +kernel
theorem dX12_leads_196 : decode cX12_leads 196 = .ok (.ldc2_w 239, 3) := by decide +kernel
theorem dX12_leads_199 : decode cX12_leads 199 = .ok (.lload 6, 2) := by decide +kernel
theorem dX12_leads_201 : decode cX12_leads 201 = .ok (.lmul, 1) := by decide +kernel
theorem dX12_leads_202 : decode cX12_leads 202 = .ok (.ldiv, 1) := by decide +kernel
theorem dX12_leads_203 : decode cX12_leads 203 = .ok (.l2i, 1) := by decide +kernel
theorem dX12_leads_204 : decode cX12_leads 204 = .ok (.isub, 1) := by decide +kernel
theorem dX12_leads_205 : decode cX12_leads 205 = .ok (.goto 7, 3) := by decide +kernel
theorem dX12_leads_208 : decode cX12_leads 208 = .ok (.iload 12, 2) := by decide +kernel
theorem dX12_leads_210 : decode cX12_leads 210 = .ok (.iconst 2, 1) := by decide +kernel
theorem dX12_leads_211 : decode cX12_leads 211 = .ok (.idiv, 1) := by decide +kernel
theorem dX12_leads_212 : decode cX12_leads 212 = .ok (.iastore, 1) := by decide +kernel
theorem dX12_leads_213 : decode cX12_leads 213 = .ok (.iinc 9 1, 3) := by decide +kernel
theorem dX12_leads_216 : decode cX12_leads 216 = .ok (.goto (-129), 3) := by decide +kernel
theorem dX12_leads_219 : decode cX12_leads 219 = .ok (.iload_n 3, 1) := by decide +kernel
theorem dX12_leads_220 : decode cX12_leads 220 = .ok (.ifCond .eq 75, 3) := by decide +kernel
theorem dX12_leads_223 : decode cX12_leads 223 = .ok (.aload_n 0, 1) := by decide +kernel
theorem dX12_leads_224 : decode cX12_leads 224 = .ok (.getfield 9, 3) := by decide +kernel
theorem dX12_leads_227 : decode cX12_leads 227 = .ok (.sipush 290, 3) := by decide +kernel
theorem dX12_leads_230 : decode cX12_leads 230 = .ok (.iload_n 2, 1) := by decide +kernel
theorem dX12_leads_231 : decode cX12_leads 231 = .ok (.iadd, 1) := by decide +kernel
theorem dX12_leads_232 : decode cX12_leads 232 = .ok (.iconst 1, 1) := by decide +kernel
theorem dX12_leads_233 : decode cX12_leads 233 = .ok (.iastore, 1) := by decide +kernel
theorem dX12_leads_234 : decode cX12_leads 234 = .ok (.aload_n 0, 1) := by decide +kernel
theorem dX12_leads_235 : decode cX12_leads 235 = .ok (.getfield 9, 3) := by decide +kernel
theorem dX12_leads_238 : decode cX12_leads 238 = .ok (.sipush 270, 3) := by decide +kernel
theorem dX12_leads_241 : decode cX12_leads 241 = .ok (.iload_n 2, 1) := by decide +kernel
theorem dX12_leads_242 : decode cX12_leads 242 = .ok (.iadd, 1) := by decide +kernel
theorem dX12_leads_243 : decode cX12_leads 243 = .ok (.iconst 0, 1) := by decide +kernel
theorem dX12_leads_244 : decode cX12_leads 244 = .ok (.iastore, 1) := by decide +kernel
theorem dX12_leads_245 : decode cX12_leads 245 = .ok (.aload_n 0, 1) := by decide +kernel
theorem dX12_leads_246 : decode cX12_leads 246 = .ok (.getfield 9, 3) := by decide +kernel
theorem dX12_leads_249 : decode cX12_leads 249 = .ok (.sipush 300, 3) := by decide +kernel
theorem dX12_leads_252 : decode cX12_leads 252 = .ok (.iload_n 2, 1) := by decide +kernel
theorem dX12_leads_253 : decode cX12_leads 253 = .ok (.iadd, 1) := by decide +kernel
theorem dX12_leads_254 : decode cX12_leads 254 = .ok (.iload_n 1, 1) := by decide +kernel
theorem dX12_leads_255 : decode cX12_leads 255 = .ok (.iastore, 1) := by decide +kernel
theorem dX12_leads_256 : decode cX12_leads 256 = .ok (.aload_n 0, 1) := by decide +kernel
theorem dX12_leads_257 : decode cX12_leads 257 = .ok (.getfield 9, 3) := by decide +kernel
theorem dX12_leads_260 : decode cX12_leads 260 = .ok (.sipush 270, 3) := by decide +kernel
theorem dX12_leads_263 : decode cX12_leads 263 = .ok (.iload_n 1, 1) := by decide +kernel
theorem dX12_leads_264 : decode cX12_leads 264 = .ok (.iadd, 1) := by decide +kernel
theorem dX12_leads_265 : decode cX12_leads 265 = .ok (.iaload, 1) := by decide +kernel
theorem dX12_leads_266 : decode cX12_leads 266 = .ok (.iload 8, 2) := by decide +kernel
theorem dX12_leads_268 : decode cX12_leads 268 = .ok (.iadd, 1) := by decide +kernel
theorem dX12_leads_269 : decode cX12_leads 269 = .ok (.istore 9, 2) := by decide +kernel
theorem dX12_leads_271 : decode cX12_leads 271 = .ok (.aload_n 0, 1) := by decide +kernel
theorem dX12_leads_272 : decode cX12_leads 272 = .ok (.getfield 9, 3) := by decide +kernel
theorem dX12_leads_275 : decode cX12_leads 275 = .ok (.sipush 270, 3) := by decide +kernel
theorem dX12_leads_278 : decode cX12_leads 278 = .ok (.iload_n 1, 1) := by decide +kernel
theorem dX12_leads_279 : decode cX12_leads 279 = .ok (.iadd, 1) := by decide +kernel
theorem dX12_leads_280 : decode cX12_leads 280 = .ok (.iload 9, 2) := by decide +kernel
theorem dX12_leads_282 : decode cX12_leads 282 = .ok (.bipush 99, 2) := by decide +kernel
theorem dX12_leads_284 : decode cX12_leads 284 = .ok (.if_icmp .le 8, 3) := by decide +kernel
theorem dX12_leads_287 : decode cX12_leads 287 = .ok (.bipush 99, 2) := by decide +kernel
theorem dX12_leads_289 : decode cX12_leads 289 = .ok (.goto 5, 3) := by decide +kernel
theorem dX12_leads_292 : decode cX12_leads 292 = .ok (.iload 9, 2) := by decide +kernel
theorem dX12_leads_294 : decode cX12_leads 294 = .ok (.iastore, 1) := by decide +kernel
theorem dX12_leads_295 : decode cX12_leads 295 = .ok (.aload_n 0, 1) := by decide +kernel
theorem dX12_leads_296 : decode cX12_leads 296 = .ok (.getfield 9, 3) := by decide +kernel
theorem dX12_leads_299 : decode cX12_leads 299 = .ok (.iconst 4, 1) := by decide +kernel
theorem dX12_leads_300 : decode cX12_leads 300 = .ok (.dup2, 1) := by decide +kernel
theorem dX12_leads_301 : decode cX12_leads 301 = .ok (.iaload, 1) := by decide +kernel
theorem dX12_leads_302 : decode cX12_leads 302 = .ok (.iconst 1, 1) := by decide +kernel
theorem dX12_leads_303 : decode cX12_leads 303 = .ok (.iadd, 1) := by decide +kernel
theorem dX12_leads_304 : decode cX12_leads 304 = .ok (.iastore, 1) := by decide +kernel
theorem dX12_leads_305 : decode cX12_leads 305 = .ok (.iload_n 3, 1) := by decide +kernel
theorem dX12_leads_306 : decode cX12_leads 306 = .ok (.ifCond .eq 7, 3) := by decide +kernel
theorem dX12_leads_309 : decode cX12_leads 309 = .ok (.iconst 1, 1) := by decide +kernel
theorem dX12_leads_310 : decode cX12_leads 310 = .ok (.goto 4, 3) := by decide +kernel
theorem dX12_leads_313 : decode cX12_leads 313 = .ok (.iconst 0, 1) := by decide +kernel
theorem dX12_leads_314 : decode cX12_leads 314 = .ok (.ireturn, 1) := by decide +kernel
theorem dX12_lead_0 : decode cX12_lead 0 = .ok (.aload_n 0, 1) := by decide +kernel
theorem dX12_lead_1 : decode cX12_lead 1 = .ok (.iload_n 1, 1) := by decide +kernel
theorem dX12_lead_2 : decode cX12_lead 2 = .ok (.invokevirtual 132, 3) := by decide +kernel
theorem dX12_lead_5 : decode cX12_lead 5 = .ok (.ifCond .eq 19, 3) := by decide +kernel
theorem dX12_lead_8 : decode cX12_lead 8 = .ok (.aload_n 0, 1) := by decide +kernel
theorem dX12_lead_9 : decode cX12_lead 9 = .ok (.iload_n 2, 1) := by decide +kernel
theorem dX12_lead_10 : decode cX12_lead 10 = .ok (.invokevirtual 45, 3) := by decide +kernel
theorem dX12_lead_13 : decode cX12_lead 13 = .ok (.ifCond .eq 11, 3) := by decide +kernel
theorem dX12_lead_16 : decode cX12_lead 16 = .ok (.aload_n 0, 1) := by decide +kernel
theorem dX12_lead_17 : decode cX12_lead 17 = .ok (.iload_n 3, 1) := by decide +kernel
theorem dX12_lead_18 : decode cX12_lead 18 = .ok (.invokevirtual 45, 3) := by decide +kernel
theorem dX12_lead_21 : decode cX12_lead 21 = .ok (.ifCond .ne 5, 3) := by decide +kernel
theorem dX12_lead_24 : decode cX12_lead 24 = .ok (.iconst (-1), 1) := by decide +kernel
theorem dX12_lead_25 : decode cX12_lead 25 = .ok (.ireturn, 1) := by decide +kernel
theorem dX12_lead_26 : decode cX12_lead 26 = .ok (.iload_n 2, 1) := by decide +kernel
theorem dX12_lead_27 : decode cX12_lead 27 = .ok (.iload_n 3, 1) := by decide +kernel
theorem dX12_lead_28 : decode cX12_lead 28 = .ok (.if_icmp .ne 6, 3) := by decide +kernel
theorem dX12_lead_31 : decode cX12_lead 31 = .ok (.bipush (-2), 2) := by decide +kernel
theorem dX12_lead_33 : decode cX12_lead 33 = .ok (.ireturn, 1) := by decide +kernel
theorem dX12_lead_34 : decode cX12_lead 34 = .ok (.aload_n 0, 1) := by decide +kernel
theorem dX12_lead_35 : decode cX12_lead 35 = .ok (.iload_n 2, 1) := by decide +kernel
theorem dX12_lead_36 : decode cX12_lead 36 = .ok (.invokevirtual 49, 3) := by decide +kernel
theorem dX12_lead_39 : decode cX12_lead 39 = .ok (.ifCond .eq 11, 3) := by decide +kernel
theorem dX12_lead_42 : decode cX12_lead 42 = .ok (.aload_n 0, 1) := by decide +kernel
theorem dX12_lead_43 : decode cX12_lead 43 = .ok (.iload_n 3, 1) := by decide +kernel
theorem dX12_lead_44 : decode cX12_lead 44 = .ok (.invokevirtual 49, 3) := by decide +kernel
theorem dX12_lead_47 : decode cX12_lead 47 = .ok (.ifCond .ne 6, 3) := by decide +kernel
theorem dX12_lead_50 : decode cX12_lead 50 = .ok (.bipush (-3), 2) := by decide +kernel
theorem dX12_lead_52 : decode cX12_lead 52 = .ok (.ireturn, 1) := by decide +kernel
theorem dX12_lead_53 : decode cX12_lead 53 = .ok (.aload_n 0, 1) := by decide +kernel
theorem dX12_lead_54 : decode cX12_lead 54 = .ok (.iload_n 1, 1) := by decide +kernel
theorem dX12_lead_55 : decode cX12_lead 55 = .ok (.invokevirtual 170, 3) := by decide +kernel
theorem dX12_lead_58 : decode cX12_lead 58 = .ok (.aload_n 0, 1) := by decide +kernel
theorem dX12_lead_59 : decode cX12_lead 59 = .ok (.iload_n 2, 1) := by decide +kernel
theorem dX12_lead_60 : decode cX12_lead 60 = .ok (.iload_n 3, 1) := by decide +kernel
theorem dX12_lead_61 : decode cX12_lead 61 = .ok (.invokevirtual 241, 3) := by decide +kernel
theorem dX12_lead_64 : decode cX12_lead 64 = .ok (.ireturn, 1) := by decide +kernel
theorem dX12_next_0 : decode cX12_next 0 = .ok (.aload_n 0, 1) := by decide +kernel
theorem dX12_next_1 : decode cX12_next 1 = .ok (.iload_n 1, 1) := by decide +kernel
theorem dX12_next_2 : decode cX12_next 2 = .ok (.invokevirtual 132, 3) := by decide +kernel
theorem dX12_next_5 : decode cX12_next 5 = .ok (.ifCond .ne 5, 3) := by decide +kernel
theorem dX12_next_8 : decode cX12_next 8 = .ok (.iconst (-1), 1) := by decide +kernel
theorem dX12_next_9 : decode cX12_next 9 = .ok (.ireturn, 1) := by decide +kernel
theorem dX12_next_10 : decode cX12_next 10 = .ok (.aload_n 0, 1) := by decide +kernel
theorem dX12_next_11 : decode cX12_next 11 = .ok (.iload_n 1, 1) := by decide +kernel
theorem dX12_next_12 : decode cX12_next 12 = .ok (.invokevirtual 170, 3) := by decide +kernel
theorem dX12_next_15 : decode cX12_next 15 = .ok (.iconst 0, 1) := by decide +kernel
theorem dX12_next_16 : decode cX12_next 16 = .ok (.istore_n 2, 1) := by decide +kernel
theorem dX12_next_17 : decode cX12_next 17 = .ok (.iload_n 2, 1) := by decide +kernel
theorem dX12_next_18 : decode cX12_next 18 = .ok (.bipush 20, 2) := by decide +kernel
theorem dX12_next_20 : decode cX12_next 20 = .ok (.if_icmp .ge 36, 3) := by decide +kernel
theorem dX12_next_23 : decode cX12_next 23 = .ok (.aload_n 0, 1) := by decide +kernel
theorem dX12_next_24 : decode cX12_next 24 = .ok (.invokevirtual 196, 3) := by decide +kernel
theorem dX12_next_27 : decode cX12_next 27 = .ok (.istore_n 3, 1) := by decide +kernel
theorem dX12_next_28 : decode cX12_next 28 = .ok (.iload_n 3, 1) := by decide +kernel
theorem dX12_next_29 : decode cX12_next 29 = .ok (.bipush (-5), 2) := by decide +kernel
theorem dX12_next_31 : decode cX12_next 31 = .ok (.if_icmp .ne 5, 3) := by decide +kernel
theorem dX12_next_34 : decode cX12_next 34 = .ok (.iload_n 2, 1) := by decide +kernel
theorem dX12_next_35 : decode cX12_next 35 = .ok (.ireturn, 1) := by decide +kernel
theorem dX12_next_36 : decode cX12_next 36 = .ok (.aload_n 0, 1) := by decide +kernel
theorem dX12_next_37 : decode cX12_next 37 = .ok (.iload_n 3, 1) := by decide +kernel
theorem dX12_next_38 : decode cX12_next 38 = .ok (.bipush 10, 2) := by decide +kernel
theorem dX12_next_40 : decode cX12_next 40 = .ok (.idiv, 1) := by decide +kernel
theorem dX12_next_41 : decode cX12_next 41 = .ok (.iload_n 3, 1) := by decide +kernel
theorem dX12_next_42 : decode cX12_next 42 = .ok (.bipush 10, 2) := by decide +kernel
theorem dX12_next_44 : decode cX12_next 44 = .ok (.irem, 1) := by decide +kernel
theorem dX12_next_45 : decode cX12_next 45 = .ok (.invokevirtual 241, 3) := by decide +kernel
theorem dX12_next_48 : decode cX12_next 48 = .ok (.istore 4, 2) := by decide +kernel
theorem dX12_next_50 : decode cX12_next 50 = .ok (.iinc 2 1, 3) := by decide +kernel
theorem dX12_next_53 : decode cX12_next 53 = .ok (.goto (-36), 3) := by decide +kernel
theorem dX12_next_56 : decode cX12_next 56 = .ok (.bipush 20, 2) := by decide +kernel
theorem dX12_next_58 : decode cX12_next 58 = .ok (.ireturn, 1) := by decide +kernel
theorem dX12_turnsOf_0 : decode cX12_turnsOf 0 = .ok (.aload_n 0, 1) := by decide +kernel
theorem dX12_turnsOf_1 : decode cX12_turnsOf 1 = .ok (.aload_n 0, 1) := by decide +kernel
theorem dX12_turnsOf_2 : decode cX12_turnsOf 2 = .ok (.invokevirtual 153, 3) := by decide +kernel
theorem dX12_turnsOf_5 : decode cX12_turnsOf 5 = .ok (.invokevirtual 150, 3) := by decide +kernel
theorem dX12_turnsOf_8 : decode cX12_turnsOf 8 = .ok (.istore_n 2, 1) := by decide +kernel
theorem dX12_turnsOf_9 : decode cX12_turnsOf 9 = .ok (.aload_n 0, 1) := by decide +kernel
theorem dX12_turnsOf_10 : decode cX12_turnsOf 10 = .ok (.invokevirtual 153, 3) := by decide +kernel
theorem dX12_turnsOf_13 : decode cX12_turnsOf 13 = .ok (.iconst 1, 1) := by decide +kernel
theorem dX12_turnsOf_14 : decode cX12_turnsOf 14 = .ok (.iload_n 1, 1) := by decide +kernel
theorem dX12_turnsOf_15 : decode cX12_turnsOf 15 = .ok (.ishl, 1) := by decide +kernel
theorem dX12_turnsOf_16 : decode cX12_turnsOf 16 = .ok (.iconst (-1), 1) := by decide +kernel
theorem dX12_turnsOf_17 : decode cX12_turnsOf 17 = .ok (.ixor, 1) := by decide +kernel
theorem dX12_turnsOf_18 : decode cX12_turnsOf 18 = .ok (.iand, 1) := by decide +kernel
theorem dX12_turnsOf_19 : decode cX12_turnsOf 19 = .ok (.istore_n 3, 1) := by decide +kernel
theorem dX12_turnsOf_20 : decode cX12_turnsOf 20 = .ok (.iconst 0, 1) := by decide +kernel
theorem dX12_turnsOf_21 : decode cX12_turnsOf 21 = .ok (.istore 4, 2) := by decide +kernel
theorem dX12_turnsOf_23 : decode cX12_turnsOf 23 = .ok (.iconst 0, 1) := by decide +kernel
theorem dX12_turnsOf_24 : decode cX12_turnsOf 24 = .ok (.istore 5, 2) := by decide +kernel
theorem dX12_turnsOf_26 : decode cX12_turnsOf 26 = .ok (.iload 5, 2) := by decide +kernel
theorem dX12_turnsOf_28 : decode cX12_turnsOf 28 = .ok (.iload_n 3, 1) := by decide +kernel
theorem dX12_turnsOf_29 : decode cX12_turnsOf 29 = .ok (.if_icmp .gt 63, 3) := by decide +kernel
theorem dX12_turnsOf_32 : decode cX12_turnsOf 32 = .ok (.aload_n 0, 1) := by decide +kernel
theorem dX12_turnsOf_33 : decode cX12_turnsOf 33 = .ok (.iload 5, 2) := by decide +kernel
theorem dX12_turnsOf_35 : decode cX12_turnsOf 35 = .ok (.invokevirtual 150, 3) := by decide +kernel
theorem dX12_turnsOf_38 : decode cX12_turnsOf 38 = .ok (.istore 6, 2) := by decide +kernel
theorem dX12_turnsOf_40 : decode cX12_turnsOf 40 = .ok (.iload 4, 2) := by decide +kernel
theorem dX12_turnsOf_42 : decode cX12_turnsOf 42 = .ok (.iload 5, 2) := by decide +kernel
theorem dX12_turnsOf_44 : decode cX12_turnsOf 44 = .ok (.iload_n 3, 1) := by decide +kernel
theorem dX12_turnsOf_45 : decode cX12_turnsOf 45 = .ok (.iconst (-1), 1) := by decide +kernel
theorem dX12_turnsOf_46 : decode cX12_turnsOf 46 = .ok (.ixor, 1) := by decide +kernel
theorem dX12_turnsOf_47 : decode cX12_turnsOf 47 = .ok (.iand, 1) := by decide +kernel
theorem dX12_turnsOf_48 : decode cX12_turnsOf 48 = .ok (.ifCond .ne 34, 3) := by decide +kernel
theorem dX12_turnsOf_51 : decode cX12_turnsOf 51 = .ok (.iconst 2, 1) := by decide +kernel
theorem dX12_turnsOf_52 : decode cX12_turnsOf 52 = .ok (.iload 6, 2) := by decide +kernel
theorem dX12_turnsOf_54 : decode cX12_turnsOf 54 = .ok (.imul, 1) := by decide +kernel
theorem dX12_turnsOf_55 : decode cX12_turnsOf 55 = .ok (.iload_n 2, 1) := by decide +kernel
theorem dX12_turnsOf_56 : decode cX12_turnsOf 56 = .ok (.if_icmp .gt 26, 3) := by decide +kernel
theorem dX12_turnsOf_59 : decode cX12_turnsOf 59 = .ok (.iconst 2, 1) := by decide +kernel
theorem dX12_turnsOf_60 : decode cX12_turnsOf 60 = .ok (.iload 6, 2) := by decide +kernel
theorem dX12_turnsOf_62 : decode cX12_turnsOf 62 = .ok (.aload_n 0, 1) := by decide +kernel
theorem dX12_turnsOf_63 : decode cX12_turnsOf 63 = .ok (.getfield 9, 3) := by decide +kernel
theorem dX12_turnsOf_66 : decode cX12_turnsOf 66 = .ok (.sipush 270, 3) := by decide +kernel
theorem dX12_turnsOf_69 : decode cX12_turnsOf 69 = .ok (.iload_n 1, 1) := by decide +kernel
theorem dX12_turnsOf_70 : decode cX12_turnsOf 70 = .ok (.iadd, 1) := by decide +kernel
theorem dX12_turnsOf_71 : decode cX12_turnsOf 71 = .ok (.iaload, 1) := by decide +kernel
theorem dX12_turnsOf_72 : decode cX12_turnsOf 72 = .ok (.iadd, 1) := by decide +kernel
theorem dX12_turnsOf_73 : decode cX12_turnsOf 73 = .ok (.imul, 1) := by decide +kernel
theorem dX12_turnsOf_74 : decode cX12_turnsOf 74 = .ok (.iload_n 2, 1) := by decide +kernel
theorem dX12_turnsOf_75 : decode cX12_turnsOf 75 = .ok (.if_icmp .le 7, 3) := by decide +kernel
theorem dX12_turnsOf_78 : decode cX12_turnsOf 78 = .ok (.iconst 1, 1) := by decide +kernel
theorem dX12_turnsOf_79 : decode cX12_turnsOf 79 = .ok (.goto 4, 3) := by decide +kernel
theorem dX12_turnsOf_82 : decode cX12_turnsOf 82 = .ok (.iconst 0, 1) := by decide +kernel
theorem dX12_turnsOf_83 : decode cX12_turnsOf 83 = .ok (.iadd, 1) := by decide +kernel
theorem dX12_turnsOf_84 : decode cX12_turnsOf 84 = .ok (.istore 4, 2) := by decide +kernel
theorem dX12_turnsOf_86 : decode cX12_turnsOf 86 = .ok (.iinc 5 1, 3) := by decide +kernel
theorem dX12_turnsOf_89 : decode cX12_turnsOf 89 = .ok (.goto (-63), 3) := by decide +kernel
theorem dX12_turnsOf_92 : decode cX12_turnsOf 92 = .ok (.iload 4, 2) := by decide +kernel
theorem dX12_turnsOf_94 : decode cX12_turnsOf 94 = .ok (.ireturn, 1) := by decide +kernel
theorem dX12_edge_0 : decode cX12_edge 0 = .ok (.aload_n 0, 1) := by decide +kernel
theorem dX12_edge_1 : decode cX12_edge 1 = .ok (.iload_n 1, 1) := by decide +kernel
theorem dX12_edge_2 : decode cX12_edge 2 = .ok (.invokevirtual 45, 3) := by decide +kernel
theorem dX12_edge_5 : decode cX12_edge 5 = .ok (.ifCond .ne 5, 3) := by decide +kernel
theorem dX12_edge_8 : decode cX12_edge 8 = .ok (.iconst (-1), 1) := by decide +kernel
theorem dX12_edge_9 : decode cX12_edge 9 = .ok (.ireturn, 1) := by decide +kernel
theorem dX12_edge_10 : decode cX12_edge 10 = .ok (.aload_n 0, 1) := by decide +kernel
theorem dX12_edge_11 : decode cX12_edge 11 = .ok (.iload_n 1, 1) := by decide +kernel
theorem dX12_edge_12 : decode cX12_edge 12 = .ok (.invokevirtual 49, 3) := by decide +kernel
theorem dX12_edge_15 : decode cX12_edge 15 = .ok (.ifCond .eq 11, 3) := by decide +kernel
theorem dX12_edge_18 : decode cX12_edge 18 = .ok (.aload_n 0, 1) := by decide +kernel
theorem dX12_edge_19 : decode cX12_edge 19 = .ok (.iload_n 1, 1) := by decide +kernel
theorem dX12_edge_20 : decode cX12_edge 20 = .ok (.invokevirtual 244, 3) := by decide +kernel
theorem dX12_edge_23 : decode cX12_edge 23 = .ok (.goto 5, 3) := by decide +kernel
theorem dX12_edge_26 : decode cX12_edge 26 = .ok (.bipush (-3), 2) := by decide +kernel
theorem dX12_edge_28 : decode cX12_edge 28 = .ok (.ireturn, 1) := by decide +kernel
theorem dX12_courted_0 : decode cX12_courted 0 = .ok (.bipush (-5), 2) := by decide +kernel
theorem dX12_courted_2 : decode cX12_courted 2 = .ok (.istore_n 1, 1) := by decide +kernel
theorem dX12_courted_3 : decode cX12_courted 3 = .ok (.iconst 0, 1) := by decide +kernel
theorem dX12_courted_4 : decode cX12_courted 4 = .ok (.istore_n 2, 1) := by decide +kernel
theorem dX12_courted_5 : decode cX12_courted 5 = .ok (.iconst 0, 1) := by decide +kernel
theorem dX12_courted_6 : decode cX12_courted 6 = .ok (.istore_n 3, 1) := by decide +kernel
theorem dX12_courted_7 : decode cX12_courted 7 = .ok (.iload_n 3, 1) := by decide +kernel
theorem dX12_courted_8 : decode cX12_courted 8 = .ok (.aload_n 0, 1) := by decide +kernel
theorem dX12_courted_9 : decode cX12_courted 9 = .ok (.getfield 9, 3) := by decide +kernel
theorem dX12_courted_12 : decode cX12_courted 12 = .ok (.iconst 0, 1) := by decide +kernel
theorem dX12_courted_13 : decode cX12_courted 13 = .ok (.iaload, 1) := by decide +kernel
theorem dX12_courted_14 : decode cX12_courted 14 = .ok (.if_icmp .ge 97, 3) := by decide +kernel
theorem dX12_courted_17 : decode cX12_courted 17 = .ok (.aload_n 0, 1) := by decide +kernel
theorem dX12_courted_18 : decode cX12_courted 18 = .ok (.iload_n 3, 1) := by decide +kernel
theorem dX12_courted_19 : decode cX12_courted 19 = .ok (.invokevirtual 49, 3) := by decide +kernel
theorem dX12_courted_22 : decode cX12_courted 22 = .ok (.ifCond .eq 83, 3) := by decide +kernel
theorem dX12_courted_25 : decode cX12_courted 25 = .ok (.aload_n 0, 1) := by decide +kernel
theorem dX12_courted_26 : decode cX12_courted 26 = .ok (.getfield 9, 3) := by decide +kernel
theorem dX12_courted_29 : decode cX12_courted 29 = .ok (.sipush 270, 3) := by decide +kernel
theorem dX12_courted_32 : decode cX12_courted 32 = .ok (.iload_n 3, 1) := by decide +kernel
theorem dX12_courted_33 : decode cX12_courted 33 = .ok (.iadd, 1) := by decide +kernel
theorem dX12_courted_34 : decode cX12_courted 34 = .ok (.iaload, 1) := by decide +kernel
theorem dX12_courted_35 : decode cX12_courted 35 = .ok (.ifCond .ne 7, 3) := by decide +kernel
theorem dX12_courted_38 : decode cX12_courted 38 = .ok (.iconst 0, 1) := by decide +kernel
theorem dX12_courted_39 : decode cX12_courted 39 = .ok (.goto 22, 3) := by decide +kernel
theorem dX12_courted_42 : decode cX12_courted 42 = .ok (.bipush 100, 2) := by decide +kernel
theorem dX12_courted_44 : decode cX12_courted 44 = .ok (.aload_n 0, 1) := by decide +kernel
theorem dX12_courted_45 : decode cX12_courted 45 = .ok (.iload_n 3, 1) := by decide +kernel
theorem dX12_courted_46 : decode cX12_courted 46 = .ok (.invokevirtual 244, 3) := by decide +kernel
theorem dX12_courted_49 : decode cX12_courted 49 = .ok (.imul, 1) := by decide +kernel
theorem dX12_courted_50 : decode cX12_courted 50 = .ok (.aload_n 0, 1) := by decide +kernel
theorem dX12_courted_51 : decode cX12_courted 51 = .ok (.getfield 9, 3) := by decide +kernel
theorem dX12_courted_54 : decode cX12_courted 54 = .ok (.sipush 270, 3) := by decide +kernel
theorem dX12_courted_57 : decode cX12_courted 57 = .ok (.iload_n 3, 1) := by decide +kernel
theorem dX12_courted_58 : decode cX12_courted 58 = .ok (.iadd, 1) := by decide +kernel
theorem dX12_courted_59 : decode cX12_courted 59 = .ok (.iaload, 1) := by decide +kernel
theorem dX12_courted_60 : decode cX12_courted 60 = .ok (.idiv, 1) := by decide +kernel
theorem dX12_courted_61 : decode cX12_courted 61 = .ok (.istore 4, 2) := by decide +kernel
theorem dX12_courted_63 : decode cX12_courted 63 = .ok (.iload_n 1, 1) := by decide +kernel
theorem dX12_courted_64 : decode cX12_courted 64 = .ok (.bipush (-5), 2) := by decide +kernel
theorem dX12_courted_66 : decode cX12_courted 66 = .ok (.if_icmp .eq 9, 3) := by decide +kernel
theorem dX12_courted_69 : decode cX12_courted 69 = .ok (.iload 4, 2) := by decide +kernel
theorem dX12_courted_71 : decode cX12_courted 71 = .ok (.iload_n 2, 1) := by decide +kernel
theorem dX12_courted_72 : decode cX12_courted 72 = .ok (.if_icmp .le 7, 3) := by decide +kernel
theorem dX12_courted_75 : decode cX12_courted 75 = .ok (.iconst 1, 1) := by decide +kernel
theorem dX12_courted_76 : decode cX12_courted 76 = .ok (.goto 4, 3) := by decide +kernel
theorem dX12_courted_79 : decode cX12_courted 79 = .ok (.iconst 0, 1) := by decide +kernel
theorem dX12_courted_80 : decode cX12_courted 80 = .ok (.istore 5, 2) := by decide +kernel
theorem dX12_courted_82 : decode cX12_courted 82 = .ok (.iload 5, 2) := by decide +kernel
theorem dX12_courted_84 : decode cX12_courted 84 = .ok (.ifCond .eq 7, 3) := by decide +kernel
theorem dX12_courted_87 : decode cX12_courted 87 = .ok (.iload_n 3, 1) := by decide +kernel
theorem dX12_courted_88 : decode cX12_courted 88 = .ok (.goto 4, 3) := by decide +kernel
theorem dX12_courted_91 : decode cX12_courted 91 = .ok (.iload_n 1, 1) := by decide +kernel
theorem dX12_courted_92 : decode cX12_courted 92 = .ok (.istore_n 1, 1) := by decide +kernel
theorem dX12_courted_93 : decode cX12_courted 93 = .ok (.iload 5, 2) := by decide +kernel
theorem dX12_courted_95 : decode cX12_courted 95 = .ok (.ifCond .eq 8, 3) := by decide +kernel
theorem dX12_courted_98 : decode cX12_courted 98 = .ok (.iload 4, 2) := by decide +kernel
theorem dX12_courted_100 : decode cX12_courted 100 = .ok (.goto 4, 3) := by decide +kernel
theorem dX12_courted_103 : decode cX12_courted 103 = .ok (.iload_n 2, 1) := by decide +kernel
theorem dX12_courted_104 : decode cX12_courted 104 = .ok (.istore_n 2, 1) := by decide +kernel
theorem dX12_courted_105 : decode cX12_courted 105 = .ok (.iinc 3 1, 3) := by decide +kernel
theorem dX12_courted_108 : decode cX12_courted 108 = .ok (.goto (-101), 3) := by decide +kernel
theorem dX12_courted_111 : decode cX12_courted 111 = .ok (.iload_n 1, 1) := by decide +kernel
theorem dX12_courted_112 : decode cX12_courted 112 = .ok (.ireturn, 1) := by decide +kernel
theorem dX12_race_0 : decode cX12_race 0 = .ok (.aload_n 0, 1) := by decide +kernel
theorem dX12_race_1 : decode cX12_race 1 = .ok (.iload_n 1, 1) := by decide +kernel
theorem dX12_race_2 : decode cX12_race 2 = .ok (.invokevirtual 132, 3) := by decide +kernel
theorem dX12_race_5 : decode cX12_race 5 = .ok (.ifCond .ne 5, 3) := by decide +kernel
theorem dX12_race_8 : decode cX12_race 8 = .ok (.iconst (-1), 1) := by decide +kernel
theorem dX12_race_9 : decode cX12_race 9 = .ok (.ireturn, 1) := by decide +kernel
theorem dX12_race_10 : decode cX12_race 10 = .ok (.aload_n 0, 1) := by decide +kernel
theorem dX12_race_11 : decode cX12_race 11 = .ok (.iload_n 1, 1) := by decide +kernel
theorem dX12_race_12 : decode cX12_race 12 = .ok (.invokevirtual 170, 3) := by decide +kernel
theorem dX12_race_15 : decode cX12_race 15 = .ok (.iconst 0, 1) := by decide +kernel
theorem dX12_race_16 : decode cX12_race 16 = .ok (.istore_n 2, 1) := by decide +kernel
theorem dX12_race_17 : decode cX12_race 17 = .ok (.iload_n 2, 1) := by decide +kernel
theorem dX12_race_18 : decode cX12_race 18 = .ok (.bipush 30, 2) := by decide +kernel
theorem dX12_race_20 : decode cX12_race 20 = .ok (.if_icmp .ge 108, 3) := by decide +kernel
theorem dX12_race_23 : decode cX12_race 23 = .ok (.iconst 0, 1) := by decide +kernel
theorem dX12_race_24 : decode cX12_race 24 = .ok (.istore_n 3, 1) := by decide +kernel
theorem dX12_race_25 : decode cX12_race 25 = .ok (.iconst 0, 1) := by decide +kernel
theorem dX12_race_26 : decode cX12_race 26 = .ok (.istore 4, 2) := by decide +kernel
theorem dX12_race_28 : decode cX12_race 28 = .ok (.iload 4, 2) := by decide +kernel
theorem dX12_race_30 : decode cX12_race 30 = .ok (.aload_n 0, 1) := by decide +kernel
theorem dX12_race_31 : decode cX12_race 31 = .ok (.getfield 9, 3) := by decide +kernel
theorem dX12_race_34 : decode cX12_race 34 = .ok (.iconst 0, 1) := by decide +kernel
theorem dX12_race_35 : decode cX12_race 35 = .ok (.iaload, 1) := by decide +kernel
theorem dX12_race_36 : decode cX12_race 36 = .ok (.if_icmp .ge 80, 3) := by decide +kernel
theorem dX12_race_39 : decode cX12_race 39 = .ok (.aload_n 0, 1) := by decide +kernel
theorem dX12_race_40 : decode cX12_race 40 = .ok (.getfield 9, 3) := by decide +kernel
theorem dX12_race_43 : decode cX12_race 43 = .ok (.sipush 270, 3) := by decide +kernel
theorem dX12_race_46 : decode cX12_race 46 = .ok (.iload 4, 2) := by decide +kernel
theorem dX12_race_48 : decode cX12_race 48 = .ok (.iadd, 1) := by decide +kernel
theorem dX12_race_49 : decode cX12_race 49 = .ok (.iaload, 1) := by decide +kernel
theorem dX12_race_50 : decode cX12_race 50 = .ok (.bipush 99, 2) := by decide +kernel
theorem dX12_race_52 : decode cX12_race 52 = .ok (.if_icmp .ge 16, 3) := by decide +kernel
theorem dX12_race_55 : decode cX12_race 55 = .ok (.aload_n 0, 1) := by decide +kernel
theorem dX12_race_56 : decode cX12_race 56 = .ok (.iload 4, 2) := by decide +kernel
theorem dX12_race_58 : decode cX12_race 58 = .ok (.invokevirtual 193, 3) := by decide +kernel
theorem dX12_race_61 : decode cX12_race 61 = .ok (.ifCond .eq 7, 3) := by decide +kernel
theorem dX12_race_64 : decode cX12_race 64 = .ok (.iconst 1, 1) := by decide +kernel
theorem dX12_race_65 : decode cX12_race 65 = .ok (.goto 4, 3) := by decide +kernel
theorem dX12_race_68 : decode cX12_race 68 = .ok (.iconst 0, 1) := by decide +kernel
theorem dX12_race_69 : decode cX12_race 69 = .ok (.istore 5, 2) := by decide +kernel
theorem dX12_race_71 : decode cX12_race 71 = .ok (.aload_n 0, 1) := by decide +kernel
theorem dX12_race_72 : decode cX12_race 72 = .ok (.getfield 9, 3) := by decide +kernel
theorem dX12_race_75 : decode cX12_race 75 = .ok (.sipush 270, 3) := by decide +kernel
theorem dX12_race_78 : decode cX12_race 78 = .ok (.iload 4, 2) := by decide +kernel
theorem dX12_race_80 : decode cX12_race 80 = .ok (.iadd, 1) := by decide +kernel
theorem dX12_race_81 : decode cX12_race 81 = .ok (.dup2, 1) := by decide +kernel
theorem dX12_race_82 : decode cX12_race 82 = .ok (.iaload, 1) := by decide +kernel
theorem dX12_race_83 : decode cX12_race 83 = .ok (.iload 5, 2) := by decide +kernel
theorem dX12_race_85 : decode cX12_race 85 = .ok (.ifCond .eq 7, 3) := by decide +kernel
theorem dX12_race_88 : decode cX12_race 88 = .ok (.iconst 1, 1) := by decide +kernel
theorem dX12_race_89 : decode cX12_race 89 = .ok (.goto 4, 3) := by decide +kernel
theorem dX12_race_92 : decode cX12_race 92 = .ok (.iconst 0, 1) := by decide +kernel
theorem dX12_race_93 : decode cX12_race 93 = .ok (.iadd, 1) := by decide +kernel
theorem dX12_race_94 : decode cX12_race 94 = .ok (.iastore, 1) := by decide +kernel
theorem dX12_race_95 : decode cX12_race 95 = .ok (.iload_n 3, 1) := by decide +kernel
theorem dX12_race_96 : decode cX12_race 96 = .ok (.ifCond .ne 8, 3) := by decide +kernel
theorem dX12_race_99 : decode cX12_race 99 = .ok (.iload 5, 2) := by decide +kernel
theorem dX12_race_101 : decode cX12_race 101 = .ok (.ifCond .eq 7, 3) := by decide +kernel
theorem dX12_race_104 : decode cX12_race 104 = .ok (.iconst 1, 1) := by decide +kernel
theorem dX12_race_105 : decode cX12_race 105 = .ok (.goto 4, 3) := by decide +kernel
theorem dX12_race_108 : decode cX12_race 108 = .ok (.iconst 0, 1) := by decide +kernel
theorem dX12_race_109 : decode cX12_race 109 = .ok (.istore_n 3, 1) := by decide +kernel
theorem dX12_race_110 : decode cX12_race 110 = .ok (.iinc 4 1, 3) := by decide +kernel
theorem dX12_race_113 : decode cX12_race 113 = .ok (.goto (-85), 3) := by decide +kernel
theorem dX12_race_116 : decode cX12_race 116 = .ok (.iload_n 3, 1) := by decide +kernel
theorem dX12_race_117 : decode cX12_race 117 = .ok (.ifCond .ne 5, 3) := by decide +kernel
theorem dX12_race_120 : decode cX12_race 120 = .ok (.iload_n 2, 1) := by decide +kernel
theorem dX12_race_121 : decode cX12_race 121 = .ok (.ireturn, 1) := by decide +kernel
theorem dX12_race_122 : decode cX12_race 122 = .ok (.iinc 2 1, 3) := by decide +kernel
theorem dX12_race_125 : decode cX12_race 125 = .ok (.goto (-108), 3) := by decide +kernel
theorem dX12_race_128 : decode cX12_race 128 = .ok (.bipush 30, 2) := by decide +kernel
theorem dX12_race_130 : decode cX12_race 130 = .ok (.ireturn, 1) := by decide +kernel
theorem dX12_isQuietWith_0 : decode cX12_isQuietWith 0 = .ok (.aload_n 0, 1) := by decide +kernel
theorem dX12_isQuietWith_1 : decode cX12_isQuietWith 1 = .ok (.getfield 9, 3) := by decide +kernel
theorem dX12_isQuietWith_4 : decode cX12_isQuietWith 4 = .ok (.sipush 270, 3) := by decide +kernel
theorem dX12_isQuietWith_7 : decode cX12_isQuietWith 7 = .ok (.iload_n 1, 1) := by decide +kernel
theorem dX12_isQuietWith_8 : decode cX12_isQuietWith 8 = .ok (.iadd, 1) := by decide +kernel
theorem dX12_isQuietWith_9 : decode cX12_isQuietWith 9 = .ok (.dup2, 1) := by decide +kernel
theorem dX12_isQuietWith_10 : decode cX12_isQuietWith 10 = .ok (.iaload, 1) := by decide +kernel
theorem dX12_isQuietWith_11 : decode cX12_isQuietWith 11 = .ok (.iload_n 2, 1) := by decide +kernel
theorem dX12_isQuietWith_12 : decode cX12_isQuietWith 12 = .ok (.iadd, 1) := by decide +kernel
theorem dX12_isQuietWith_13 : decode cX12_isQuietWith 13 = .ok (.iastore, 1) := by decide +kernel
theorem dX12_isQuietWith_14 : decode cX12_isQuietWith 14 = .ok (.aload_n 0, 1) := by decide +kernel
theorem dX12_isQuietWith_15 : decode cX12_isQuietWith 15 = .ok (.invokevirtual 196, 3) := by decide +kernel
theorem dX12_isQuietWith_18 : decode cX12_isQuietWith 18 = .ok (.bipush (-5), 2) := by decide +kernel
theorem dX12_isQuietWith_20 : decode cX12_isQuietWith 20 = .ok (.if_icmp .ne 7, 3) := by decide +kernel
theorem dX12_isQuietWith_23 : decode cX12_isQuietWith 23 = .ok (.iconst 1, 1) := by decide +kernel
theorem dX12_isQuietWith_24 : decode cX12_isQuietWith 24 = .ok (.goto 4, 3) := by decide +kernel
theorem dX12_isQuietWith_27 : decode cX12_isQuietWith 27 = .ok (.iconst 0, 1) := by decide +kernel
theorem dX12_isQuietWith_28 : decode cX12_isQuietWith 28 = .ok (.istore_n 3, 1) := by decide +kernel
theorem dX12_isQuietWith_29 : decode cX12_isQuietWith 29 = .ok (.aload_n 0, 1) := by decide +kernel
theorem dX12_isQuietWith_30 : decode cX12_isQuietWith 30 = .ok (.getfield 9, 3) := by decide +kernel
theorem dX12_isQuietWith_33 : decode cX12_isQuietWith 33 = .ok (.sipush 270, 3) := by decide +kernel
theorem dX12_isQuietWith_36 : decode cX12_isQuietWith 36 = .ok (.iload_n 1, 1) := by decide +kernel
theorem dX12_isQuietWith_37 : decode cX12_isQuietWith 37 = .ok (.iadd, 1) := by decide +kernel
theorem dX12_isQuietWith_38 : decode cX12_isQuietWith 38 = .ok (.dup2, 1) := by decide +kernel
theorem dX12_isQuietWith_39 : decode cX12_isQuietWith 39 = .ok (.iaload, 1) := by decide +kernel
theorem dX12_isQuietWith_40 : decode cX12_isQuietWith 40 = .ok (.iload_n 2, 1) := by decide +kernel
theorem dX12_isQuietWith_41 : decode cX12_isQuietWith 41 = .ok (.isub, 1) := by decide +kernel
theorem dX12_isQuietWith_42 : decode cX12_isQuietWith 42 = .ok (.iastore, 1) := by decide +kernel
theorem dX12_isQuietWith_43 : decode cX12_isQuietWith 43 = .ok (.iload_n 3, 1) := by decide +kernel
theorem dX12_isQuietWith_44 : decode cX12_isQuietWith 44 = .ok (.ireturn, 1) := by decide +kernel
theorem dX12_few_0 : decode cX12_few 0 = .ok (.aload_n 0, 1) := by decide +kernel
theorem dX12_few_1 : decode cX12_few 1 = .ok (.iload_n 1, 1) := by decide +kernel
theorem dX12_few_2 : decode cX12_few 2 = .ok (.invokevirtual 132, 3) := by decide +kernel
theorem dX12_few_5 : decode cX12_few 5 = .ok (.ifCond .eq 12, 3) := by decide +kernel
theorem dX12_few_8 : decode cX12_few 8 = .ok (.iload_n 2, 1) := by decide +kernel
theorem dX12_few_9 : decode cX12_few 9 = .ok (.iconst 0, 1) := by decide +kernel
theorem dX12_few_10 : decode cX12_few 10 = .ok (.iconst 1, 1) := by decide +kernel
theorem dX12_few_11 : decode cX12_few 11 = .ok (.invokestatic 41, 3) := by decide +kernel
theorem dX12_few_14 : decode cX12_few 14 = .ok (.ifCond .ne 5, 3) := by decide +kernel
theorem dX12_few_17 : decode cX12_few 17 = .ok (.iconst (-1), 1) := by decide +kernel
theorem dX12_few_18 : decode cX12_few 18 = .ok (.ireturn, 1) := by decide +kernel
theorem dX12_few_19 : decode cX12_few 19 = .ok (.aload_n 0, 1) := by decide +kernel
theorem dX12_few_20 : decode cX12_few 20 = .ok (.iload_n 1, 1) := by decide +kernel
theorem dX12_few_21 : decode cX12_few 21 = .ok (.invokevirtual 170, 3) := by decide +kernel
theorem dX12_few_24 : decode cX12_few 24 = .ok (.aload_n 0, 1) := by decide +kernel
theorem dX12_few_25 : decode cX12_few 25 = .ok (.invokevirtual 196, 3) := by decide +kernel
theorem dX12_few_28 : decode cX12_few 28 = .ok (.bipush (-5), 2) := by decide +kernel
theorem dX12_few_30 : decode cX12_few 30 = .ok (.if_icmp .eq 6, 3) := by decide +kernel
theorem dX12_few_33 : decode cX12_few 33 = .ok (.bipush (-3), 2) := by decide +kernel
theorem dX12_few_35 : decode cX12_few 35 = .ok (.ireturn, 1) := by decide +kernel
theorem dX12_few_36 : decode cX12_few 36 = .ok (.iconst 1, 1) := by decide +kernel
theorem dX12_few_37 : decode cX12_few 37 = .ok (.istore_n 3, 1) := by decide +kernel
theorem dX12_few_38 : decode cX12_few 38 = .ok (.iload_n 3, 1) := by decide +kernel
theorem dX12_few_39 : decode cX12_few 39 = .ok (.bipush 30, 2) := by decide +kernel
theorem dX12_few_41 : decode cX12_few 41 = .ok (.if_icmp .gt 105, 3) := by decide +kernel
theorem dX12_few_44 : decode cX12_few 44 = .ok (.iconst (-1), 1) := by decide +kernel
theorem dX12_few_45 : decode cX12_few 45 = .ok (.istore 4, 2) := by decide +kernel
theorem dX12_few_47 : decode cX12_few 47 = .ok (.iload 4, 2) := by decide +kernel
theorem dX12_few_49 : decode cX12_few 49 = .ok (.iconst 2, 1) := by decide +kernel
theorem dX12_few_50 : decode cX12_few 50 = .ok (.if_icmp .ge 90, 3) := by decide +kernel
theorem dX12_few_53 : decode cX12_few 53 = .ok (.iconst 0, 1) := by decide +kernel
theorem dX12_few_54 : decode cX12_few 54 = .ok (.istore 5, 2) := by decide +kernel
theorem dX12_few_56 : decode cX12_few 56 = .ok (.iload 5, 2) := by decide +kernel
theorem dX12_few_58 : decode cX12_few 58 = .ok (.aload_n 0, 1) := by decide +kernel
theorem dX12_few_59 : decode cX12_few 59 = .ok (.getfield 9, 3) := by decide +kernel
theorem dX12_few_62 : decode cX12_few 62 = .ok (.iconst 0, 1) := by decide +kernel
theorem dX12_few_63 : decode cX12_few 63 = .ok (.iaload, 1) := by decide +kernel
theorem dX12_few_64 : decode cX12_few 64 = .ok (.if_icmp .ge 70, 3) := by decide +kernel
theorem dX12_few_67 : decode cX12_few 67 = .ok (.aload_n 0, 1) := by decide +kernel
theorem dX12_few_68 : decode cX12_few 68 = .ok (.iload 5, 2) := by decide +kernel
theorem dX12_few_70 : decode cX12_few 70 = .ok (.invokevirtual 49, 3) := by decide +kernel
theorem dX12_few_73 : decode cX12_few 73 = .ok (.ifCond .eq 55, 3) := by decide +kernel
theorem dX12_few_76 : decode cX12_few 76 = .ok (.aload_n 0, 1) := by decide +kernel
theorem dX12_few_77 : decode cX12_few 77 = .ok (.getfield 9, 3) := by decide +kernel
theorem dX12_few_80 : decode cX12_few 80 = .ok (.sipush 270, 3) := by decide +kernel
theorem dX12_few_83 : decode cX12_few 83 = .ok (.iload 5, 2) := by decide +kernel
theorem dX12_few_85 : decode cX12_few 85 = .ok (.iadd, 1) := by decide +kernel
theorem dX12_few_86 : decode cX12_few 86 = .ok (.iaload, 1) := by decide +kernel
theorem dX12_few_87 : decode cX12_few 87 = .ok (.iload 4, 2) := by decide +kernel
theorem dX12_few_89 : decode cX12_few 89 = .ok (.iload_n 3, 1) := by decide +kernel
theorem dX12_few_90 : decode cX12_few 90 = .ok (.imul, 1) := by decide +kernel
theorem dX12_few_91 : decode cX12_few 91 = .ok (.iadd, 1) := by decide +kernel
theorem dX12_few_92 : decode cX12_few 92 = .ok (.iconst 0, 1) := by decide +kernel
theorem dX12_few_93 : decode cX12_few 93 = .ok (.bipush 99, 2) := by decide +kernel
theorem dX12_few_95 : decode cX12_few 95 = .ok (.invokestatic 41, 3) := by decide +kernel
theorem dX12_few_98 : decode cX12_few 98 = .ok (.ifCond .eq 30, 3) := by decide +kernel
theorem dX12_few_101 : decode cX12_few 101 = .ok (.aload_n 0, 1) := by decide +kernel
theorem dX12_few_102 : decode cX12_few 102 = .ok (.iload 5, 2) := by decide +kernel
theorem dX12_few_104 : decode cX12_few 104 = .ok (.iload 4, 2) := by decide +kernel
theorem dX12_few_106 : decode cX12_few 106 = .ok (.iload_n 3, 1) := by decide +kernel
theorem dX12_few_107 : decode cX12_few 107 = .ok (.imul, 1) := by decide +kernel
theorem dX12_few_108 : decode cX12_few 108 = .ok (.invokevirtual 247, 3) := by decide +kernel
theorem dX12_few_111 : decode cX12_few 111 = .ok (.ifCond .ne 17, 3) := by decide +kernel
theorem dX12_few_114 : decode cX12_few 114 = .ok (.iload_n 2, 1) := by decide +kernel
theorem dX12_few_115 : decode cX12_few 115 = .ok (.ifCond .ne 10, 3) := by decide +kernel
theorem dX12_few_118 : decode cX12_few 118 = .ok (.iload 4, 2) := by decide +kernel
theorem dX12_few_120 : decode cX12_few 120 = .ok (.iload_n 3, 1) := by decide +kernel
theorem dX12_few_121 : decode cX12_few 121 = .ok (.imul, 1) := by decide +kernel
theorem dX12_few_122 : decode cX12_few 122 = .ok (.goto 5, 3) := by decide +kernel
theorem dX12_few_125 : decode cX12_few 125 = .ok (.iload 5, 2) := by decide +kernel
theorem dX12_few_127 : decode cX12_few 127 = .ok (.ireturn, 1) := by decide +kernel
theorem dX12_few_128 : decode cX12_few 128 = .ok (.iinc 5 1, 3) := by decide +kernel
theorem dX12_few_131 : decode cX12_few 131 = .ok (.goto (-75), 3) := by decide +kernel
theorem dX12_few_134 : decode cX12_few 134 = .ok (.iinc 4 2, 3) := by decide +kernel
theorem dX12_few_137 : decode cX12_few 137 = .ok (.goto (-90), 3) := by decide +kernel
theorem dX12_few_140 : decode cX12_few 140 = .ok (.iinc 3 1, 3) := by decide +kernel
theorem dX12_few_143 : decode cX12_few 143 = .ok (.goto (-105), 3) := by decide +kernel
theorem dX12_few_146 : decode cX12_few 146 = .ok (.iload_n 2, 1) := by decide +kernel
theorem dX12_few_147 : decode cX12_few 147 = .ok (.ifCond .ne 7, 3) := by decide +kernel
theorem dX12_few_150 : decode cX12_few 150 = .ok (.iconst 0, 1) := by decide +kernel
theorem dX12_few_151 : decode cX12_few 151 = .ok (.goto 5, 3) := by decide +kernel
theorem dX12_few_154 : decode cX12_few 154 = .ok (.bipush (-5), 2) := by decide +kernel
theorem dX12_few_156 : decode cX12_few 156 = .ok (.ireturn, 1) := by decide +kernel
theorem dX12_guarded_0 : decode cX12_guarded 0 = .ok (.aload_n 0, 1) := by decide +kernel
theorem dX12_guarded_1 : decode cX12_guarded 1 = .ok (.iload_n 1, 1) := by decide +kernel
theorem dX12_guarded_2 : decode cX12_guarded 2 = .ok (.invokevirtual 132, 3) := by decide +kernel
theorem dX12_guarded_5 : decode cX12_guarded 5 = .ok (.ifCond .ne 5, 3) := by decide +kernel
theorem dX12_guarded_8 : decode cX12_guarded 8 = .ok (.iconst (-1), 1) := by decide +kernel
theorem dX12_guarded_9 : decode cX12_guarded 9 = .ok (.ireturn, 1) := by decide +kernel
theorem dX12_guarded_10 : decode cX12_guarded 10 = .ok (.aload_n 0, 1) := by decide +kernel
theorem dX12_guarded_11 : decode cX12_guarded 11 = .ok (.iload_n 1, 1) := by decide +kernel
theorem dX12_guarded_12 : decode cX12_guarded 12 = .ok (.invokevirtual 170, 3) := by decide +kernel
theorem dX12_guarded_15 : decode cX12_guarded 15 = .ok (.iconst 0, 1) := by decide +kernel
theorem dX12_guarded_16 : decode cX12_guarded 16 = .ok (.istore_n 2, 1) := by decide +kernel
theorem dX12_guarded_17 : decode cX12_guarded 17 = .ok (.iconst 0, 1) := by decide +kernel
theorem dX12_guarded_18 : decode cX12_guarded 18 = .ok (.istore_n 3, 1) := by decide +kernel
theorem dX12_guarded_19 : decode cX12_guarded 19 = .ok (.iload_n 3, 1) := by decide +kernel
theorem dX12_guarded_20 : decode cX12_guarded 20 = .ok (.aload_n 0, 1) := by decide +kernel
theorem dX12_guarded_21 : decode cX12_guarded 21 = .ok (.getfield 9, 3) := by decide +kernel
theorem dX12_guarded_24 : decode cX12_guarded 24 = .ok (.iconst 0, 1) := by decide +kernel
theorem dX12_guarded_25 : decode cX12_guarded 25 = .ok (.iaload, 1) := by decide +kernel
theorem dX12_guarded_26 : decode cX12_guarded 26 = .ok (.if_icmp .ge 35, 3) := by decide +kernel
theorem dX12_guarded_29 : decode cX12_guarded 29 = .ok (.iload_n 2, 1) := by decide +kernel
theorem dX12_guarded_30 : decode cX12_guarded 30 = .ok (.aload_n 0, 1) := by decide +kernel
theorem dX12_guarded_31 : decode cX12_guarded 31 = .ok (.iload_n 3, 1) := by decide +kernel
theorem dX12_guarded_32 : decode cX12_guarded 32 = .ok (.invokevirtual 49, 3) := by decide +kernel
theorem dX12_guarded_35 : decode cX12_guarded 35 = .ok (.ifCond .eq 17, 3) := by decide +kernel
theorem dX12_guarded_38 : decode cX12_guarded 38 = .ok (.aload_n 0, 1) := by decide +kernel
theorem dX12_guarded_39 : decode cX12_guarded 39 = .ok (.iload_n 3, 1) := by decide +kernel
theorem dX12_guarded_40 : decode cX12_guarded 40 = .ok (.invokevirtual 193, 3) := by decide +kernel
theorem dX12_guarded_43 : decode cX12_guarded 43 = .ok (.ifCond .ne 9, 3) := by decide +kernel
theorem dX12_guarded_46 : decode cX12_guarded 46 = .ok (.iconst 1, 1) := by decide +kernel
theorem dX12_guarded_47 : decode cX12_guarded 47 = .ok (.iload_n 3, 1) := by decide +kernel
theorem dX12_guarded_48 : decode cX12_guarded 48 = .ok (.ishl, 1) := by decide +kernel
theorem dX12_guarded_49 : decode cX12_guarded 49 = .ok (.goto 4, 3) := by decide +kernel
theorem dX12_guarded_52 : decode cX12_guarded 52 = .ok (.iconst 0, 1) := by decide +kernel
theorem dX12_guarded_53 : decode cX12_guarded 53 = .ok (.ior, 1) := by decide +kernel
theorem dX12_guarded_54 : decode cX12_guarded 54 = .ok (.istore_n 2, 1) := by decide +kernel
theorem dX12_guarded_55 : decode cX12_guarded 55 = .ok (.iinc 3 1, 3) := by decide +kernel
theorem dX12_guarded_58 : decode cX12_guarded 58 = .ok (.goto (-39), 3) := by decide +kernel
theorem dX12_guarded_61 : decode cX12_guarded 61 = .ok (.iload_n 2, 1) := by decide +kernel
theorem dX12_guarded_62 : decode cX12_guarded 62 = .ok (.ireturn, 1) := by decide +kernel
theorem dX12_marry_0 : decode cX12_marry 0 = .ok (.aload_n 0, 1) := by decide +kernel
theorem dX12_marry_1 : decode cX12_marry 1 = .ok (.iload_n 1, 1) := by decide +kernel
theorem dX12_marry_2 : decode cX12_marry 2 = .ok (.invokevirtual 132, 3) := by decide +kernel
theorem dX12_marry_5 : decode cX12_marry 5 = .ok (.ifCond .eq 29, 3) := by decide +kernel
theorem dX12_marry_8 : decode cX12_marry 8 = .ok (.aload_n 0, 1) := by decide +kernel
theorem dX12_marry_9 : decode cX12_marry 9 = .ok (.iload_n 2, 1) := by decide +kernel
theorem dX12_marry_10 : decode cX12_marry 10 = .ok (.invokevirtual 45, 3) := by decide +kernel
theorem dX12_marry_13 : decode cX12_marry 13 = .ok (.ifCond .eq 21, 3) := by decide +kernel
theorem dX12_marry_16 : decode cX12_marry 16 = .ok (.aload_n 0, 1) := by decide +kernel
theorem dX12_marry_17 : decode cX12_marry 17 = .ok (.iload_n 3, 1) := by decide +kernel
theorem dX12_marry_18 : decode cX12_marry 18 = .ok (.invokevirtual 45, 3) := by decide +kernel
theorem dX12_marry_21 : decode cX12_marry 21 = .ok (.ifCond .eq 13, 3) := by decide +kernel
theorem dX12_marry_24 : decode cX12_marry 24 = .ok (.iload 4, 2) := by decide +kernel
theorem dX12_marry_26 : decode cX12_marry 26 = .ok (.iconst 0, 1) := by decide +kernel
theorem dX12_marry_27 : decode cX12_marry 27 = .ok (.iconst 1, 1) := by decide +kernel
theorem dX12_marry_28 : decode cX12_marry 28 = .ok (.invokestatic 41, 3) := by decide +kernel
theorem dX12_marry_31 : decode cX12_marry 31 = .ok (.ifCond .ne 7, 3) := by decide +kernel
theorem dX12_marry_34 : decode cX12_marry 34 = .ok (.sipush (-1000), 3) := by decide +kernel
theorem dX12_marry_37 : decode cX12_marry 37 = .ok (.ireturn, 1) := by decide +kernel
theorem dX12_marry_38 : decode cX12_marry 38 = .ok (.iload_n 2, 1) := by decide +kernel
theorem dX12_marry_39 : decode cX12_marry 39 = .ok (.iload_n 3, 1) := by decide +kernel
theorem dX12_marry_40 : decode cX12_marry 40 = .ok (.if_icmp .ne 7, 3) := by decide +kernel
theorem dX12_marry_43 : decode cX12_marry 43 = .ok (.sipush (-1001), 3) := by decide +kernel
theorem dX12_marry_46 : decode cX12_marry 46 = .ok (.ireturn, 1) := by decide +kernel
theorem dX12_marry_47 : decode cX12_marry 47 = .ok (.aload_n 0, 1) := by decide +kernel
theorem dX12_marry_48 : decode cX12_marry 48 = .ok (.iload_n 2, 1) := by decide +kernel
theorem dX12_marry_49 : decode cX12_marry 49 = .ok (.invokevirtual 49, 3) := by decide +kernel
theorem dX12_marry_52 : decode cX12_marry 52 = .ok (.ifCond .eq 11, 3) := by decide +kernel
theorem dX12_marry_55 : decode cX12_marry 55 = .ok (.aload_n 0, 1) := by decide +kernel
theorem dX12_marry_56 : decode cX12_marry 56 = .ok (.iload_n 3, 1) := by decide +kernel
theorem dX12_marry_57 : decode cX12_marry 57 = .ok (.invokevirtual 49, 3) := by decide +kernel
theorem dX12_marry_60 : decode cX12_marry 60 = .ok (.ifCond .ne 7, 3) := by decide +kernel
theorem dX12_marry_63 : decode cX12_marry 63 = .ok (.sipush (-1002), 3) := by decide +kernel
theorem dX12_marry_66 : decode cX12_marry 66 = .ok (.ireturn, 1) := by decide +kernel
theorem dX12_marry_67 : decode cX12_marry 67 = .ok (.aload_n 0, 1) := by decide +kernel
theorem dX12_marry_68 : decode cX12_marry 68 = .ok (.iload_n 1, 1) := by decide +kernel
theorem dX12_marry_69 : decode cX12_marry 69 = .ok (.invokevirtual 170, 3) := by decide +kernel
theorem dX12_marry_72 : decode cX12_marry 72 = .ok (.iconst 0, 1) := by decide +kernel
theorem dX12_marry_73 : decode cX12_marry 73 = .ok (.istore 5, 2) := by decide +kernel
theorem dX12_marry_75 : decode cX12_marry 75 = .ok (.iconst 0, 1) := by decide +kernel
theorem dX12_marry_76 : decode cX12_marry 76 = .ok (.istore 6, 2) := by decide +kernel
theorem dX12_marry_78 : decode cX12_marry 78 = .ok (.iload 6, 2) := by decide +kernel
theorem dX12_marry_80 : decode cX12_marry 80 = .ok (.aload_n 0, 1) := by decide +kernel
theorem dX12_marry_81 : decode cX12_marry 81 = .ok (.getfield 9, 3) := by decide +kernel
theorem dX12_marry_84 : decode cX12_marry 84 = .ok (.iconst 0, 1) := by decide +kernel
theorem dX12_marry_85 : decode cX12_marry 85 = .ok (.iaload, 1) := by decide +kernel
theorem dX12_marry_86 : decode cX12_marry 86 = .ok (.if_icmp .ge 37, 3) := by decide +kernel
theorem dX12_marry_89 : decode cX12_marry 89 = .ok (.aload_n 0, 1) := by decide +kernel
theorem dX12_marry_90 : decode cX12_marry 90 = .ok (.getfield 31, 3) := by decide +kernel
theorem dX12_marry_93 : decode cX12_marry 93 = .ok (.iload 6, 2) := by decide +kernel
theorem dX12_marry_95 : decode cX12_marry 95 = .ok (.aload_n 0, 1) := by decide +kernel
theorem dX12_marry_96 : decode cX12_marry 96 = .ok (.iload 6, 2) := by decide +kernel
theorem dX12_marry_98 : decode cX12_marry 98 = .ok (.invokevirtual 193, 3) := by decide +kernel
theorem dX12_marry_101 : decode cX12_marry 101 = .ok (.invokestatic 232, 3) := by decide +kernel
theorem dX12_marry_104 : decode cX12_marry 104 = .ok (.iastore, 1) := by decide +kernel
theorem dX12_marry_105 : decode cX12_marry 105 = .ok (.iload 5, 2) := by decide +kernel
theorem dX12_marry_107 : decode cX12_marry 107 = .ok (.aload_n 0, 1) := by decide +kernel
theorem dX12_marry_108 : decode cX12_marry 108 = .ok (.getfield 31, 3) := by decide +kernel
theorem dX12_marry_111 : decode cX12_marry 111 = .ok (.iload 6, 2) := by decide +kernel
theorem dX12_marry_113 : decode cX12_marry 113 = .ok (.iaload, 1) := by decide +kernel
theorem dX12_marry_114 : decode cX12_marry 114 = .ok (.iadd, 1) := by decide +kernel
theorem dX12_marry_115 : decode cX12_marry 115 = .ok (.istore 5, 2) := by decide +kernel
theorem dX12_marry_117 : decode cX12_marry 117 = .ok (.iinc 6 1, 3) := by decide +kernel
theorem dX12_marry_120 : decode cX12_marry 120 = .ok (.goto (-42), 3) := by decide +kernel
theorem dX12_marry_123 : decode cX12_marry 123 = .ok (.aload_n 0, 1) := by decide +kernel
theorem dX12_marry_124 : decode cX12_marry 124 = .ok (.getfield 9, 3) := by decide +kernel
theorem dX12_marry_127 : decode cX12_marry 127 = .ok (.sipush 270, 3) := by decide +kernel
theorem dX12_marry_130 : decode cX12_marry 130 = .ok (.iload_n 2, 1) := by decide +kernel
theorem dX12_marry_131 : decode cX12_marry 131 = .ok (.iadd, 1) := by decide +kernel
theorem dX12_marry_132 : decode cX12_marry 132 = .ok (.iaload, 1) := by decide +kernel
theorem dX12_marry_133 : decode cX12_marry 133 = .ok (.istore 6, 2) := by decide +kernel
theorem dX12_marry_135 : decode cX12_marry 135 = .ok (.aload_n 0, 1) := by decide +kernel
theorem dX12_marry_136 : decode cX12_marry 136 = .ok (.getfield 9, 3) := by decide +kernel
theorem dX12_marry_139 : decode cX12_marry 139 = .ok (.sipush 270, 3) := by decide +kernel
theorem dX12_marry_142 : decode cX12_marry 142 = .ok (.iload_n 3, 1) := by decide +kernel
theorem dX12_marry_143 : decode cX12_marry 143 = .ok (.iadd, 1) := by decide +kernel
theorem dX12_marry_144 : decode cX12_marry 144 = .ok (.iaload, 1) := by decide +kernel
theorem dX12_marry_145 : decode cX12_marry 145 = .ok (.istore 7, 2) := by decide +kernel
theorem dX12_marry_147 : decode cX12_marry 147 = .ok (.aload_n 0, 1) := by decide +kernel
theorem dX12_marry_148 : decode cX12_marry 148 = .ok (.getfield 9, 3) := by decide +kernel
theorem dX12_marry_151 : decode cX12_marry 151 = .ok (.sipush 270, 3) := by decide +kernel
theorem dX12_marry_154 : decode cX12_marry 154 = .ok (.iload_n 2, 1) := by decide +kernel
theorem dX12_marry_155 : decode cX12_marry 155 = .ok (.iadd, 1) := by decide +kernel
theorem dX12_marry_156 : decode cX12_marry 156 = .ok (.iload 6, 2) := by decide +kernel
theorem dX12_marry_158 : decode cX12_marry 158 = .ok (.iload 7, 2) := by decide +kernel
theorem dX12_marry_160 : decode cX12_marry 160 = .ok (.iadd, 1) := by decide +kernel
theorem dX12_marry_161 : decode cX12_marry 161 = .ok (.bipush 99, 2) := by decide +kernel
theorem dX12_marry_163 : decode cX12_marry 163 = .ok (.if_icmp .le 8, 3) := by decide +kernel
theorem dX12_marry_166 : decode cX12_marry 166 = .ok (.bipush 99, 2) := by decide +kernel
theorem dX12_marry_168 : decode cX12_marry 168 = .ok (.goto 8, 3) := by decide +kernel
theorem dX12_marry_171 : decode cX12_marry 171 = .ok (.iload 6, 2) := by decide +kernel
theorem dX12_marry_173 : decode cX12_marry 173 = .ok (.iload 7, 2) := by decide +kernel
theorem dX12_marry_175 : decode cX12_marry 175 = .ok (.iadd, 1) := by decide +kernel
theorem dX12_marry_176 : decode cX12_marry 176 = .ok (.iastore, 1) := by decide +kernel
theorem dX12_marry_177 : decode cX12_marry 177 = .ok (.aload_n 0, 1) := by decide +kernel
theorem dX12_marry_178 : decode cX12_marry 178 = .ok (.getfield 9, 3) := by decide +kernel
theorem dX12_marry_181 : decode cX12_marry 181 = .ok (.sipush 270, 3) := by decide +kernel
theorem dX12_marry_184 : decode cX12_marry 184 = .ok (.iload_n 3, 1) := by decide +kernel
theorem dX12_marry_185 : decode cX12_marry 185 = .ok (.iadd, 1) := by decide +kernel
theorem dX12_marry_186 : decode cX12_marry 186 = .ok (.iconst 0, 1) := by decide +kernel
theorem dX12_marry_187 : decode cX12_marry 187 = .ok (.iastore, 1) := by decide +kernel
theorem dX12_marry_188 : decode cX12_marry 188 = .ok (.aload_n 0, 1) := by decide +kernel
theorem dX12_marry_189 : decode cX12_marry 189 = .ok (.getfield 9, 3) := by decide +kernel
theorem dX12_marry_192 : decode cX12_marry 192 = .ok (.sipush 290, 3) := by decide +kernel
theorem dX12_marry_195 : decode cX12_marry 195 = .ok (.iload_n 3, 1) := by decide +kernel
theorem dX12_marry_196 : decode cX12_marry 196 = .ok (.iadd, 1) := by decide +kernel
theorem dX12_marry_197 : decode cX12_marry 197 = .ok (.iconst 1, 1) := by decide +kernel
theorem dX12_marry_198 : decode cX12_marry 198 = .ok (.iastore, 1) := by decide +kernel
theorem dX12_marry_199 : decode cX12_marry 199 = .ok (.iconst 0, 1) := by decide +kernel
theorem dX12_marry_200 : decode cX12_marry 200 = .ok (.istore 8, 2) := by decide +kernel
theorem dX12_marry_202 : decode cX12_marry 202 = .ok (.iconst 0, 1) := by decide +kernel
theorem dX12_marry_203 : decode cX12_marry 203 = .ok (.istore 9, 2) := by decide +kernel
theorem dX12_marry_205 : decode cX12_marry 205 = .ok (.iconst 0, 1) := by decide +kernel
theorem dX12_marry_206 : decode cX12_marry 206 = .ok (.istore 10, 2) := by decide +kernel
theorem dX12_marry_208 : decode cX12_marry 208 = .ok (.iload 10, 2) := by decide +kernel
theorem dX12_marry_210 : decode cX12_marry 210 = .ok (.aload_n 0, 1) := by decide +kernel
theorem dX12_marry_211 : decode cX12_marry 211 = .ok (.getfield 9, 3) := by decide +kernel
theorem dX12_marry_214 : decode cX12_marry 214 = .ok (.iconst 0, 1) := by decide +kernel
theorem dX12_marry_215 : decode cX12_marry 215 = .ok (.iaload, 1) := by decide +kernel
theorem dX12_marry_216 : decode cX12_marry 216 = .ok (.if_icmp .ge 73, 3) := by decide +kernel
theorem dX12_marry_219 : decode cX12_marry 219 = .ok (.aload_n 0, 1) := by decide +kernel
theorem dX12_marry_220 : decode cX12_marry 220 = .ok (.iload 10, 2) := by decide +kernel
theorem dX12_marry_222 : decode cX12_marry 222 = .ok (.invokevirtual 193, 3) := by decide +kernel
theorem dX12_marry_225 : decode cX12_marry 225 = .ok (.invokestatic 232, 3) := by decide +kernel
theorem dX12_marry_228 : decode cX12_marry 228 = .ok (.istore 11, 2) := by decide +kernel
theorem dX12_marry_230 : decode cX12_marry 230 = .ok (.iload 8, 2) := by decide +kernel
theorem dX12_marry_232 : decode cX12_marry 232 = .ok (.iload 11, 2) := by decide +kernel
theorem dX12_marry_234 : decode cX12_marry 234 = .ok (.iadd, 1) := by decide +kernel
theorem dX12_marry_235 : decode cX12_marry 235 = .ok (.istore 8, 2) := by decide +kernel
theorem dX12_marry_237 : decode cX12_marry 237 = .ok (.iload 9, 2) := by decide +kernel
theorem dX12_marry_239 : decode cX12_marry 239 = .ok (.iload 10, 2) := by decide +kernel
theorem dX12_marry_241 : decode cX12_marry 241 = .ok (.iload_n 2, 1) := by decide +kernel
theorem dX12_marry_242 : decode cX12_marry 242 = .ok (.if_icmp .eq 37, 3) := by decide +kernel
theorem dX12_marry_245 : decode cX12_marry 245 = .ok (.iload 10, 2) := by decide +kernel
theorem dX12_marry_247 : decode cX12_marry 247 = .ok (.iload_n 3, 1) := by decide +kernel
theorem dX12_marry_248 : decode cX12_marry 248 = .ok (.if_icmp .eq 31, 3) := by decide +kernel
theorem dX12_marry_251 : decode cX12_marry 251 = .ok (.aload_n 0, 1) := by decide +kernel
theorem dX12_marry_252 : decode cX12_marry 252 = .ok (.iload 10, 2) := by decide +kernel
theorem dX12_marry_254 : decode cX12_marry 254 = .ok (.invokevirtual 49, 3) := by decide +kernel
theorem dX12_marry_257 : decode cX12_marry 257 = .ok (.ifCond .eq 22, 3) := by decide +kernel
theorem dX12_marry_260 : decode cX12_marry 260 = .ok (.iload 11, 2) := by decide +kernel
theorem dX12_marry_262 : decode cX12_marry 262 = .ok (.aload_n 0, 1) := by decide +kernel
theorem dX12_marry_263 : decode cX12_marry 263 = .ok (.getfield 31, 3) := by decide +kernel
theorem dX12_marry_266 : decode cX12_marry 266 = .ok (.iload 10, 2) := by decide +kernel
theorem dX12_marry_268 : decode cX12_marry 268 = .ok (.iaload, 1) := by decide +kernel
theorem dX12_marry_269 : decode cX12_marry 269 = .ok (.if_icmp .le 10, 3) := by decide +kernel
theorem dX12_marry_272 : decode cX12_marry 272 = .ok (.iconst 1, 1) := by decide +kernel
theorem dX12_marry_273 : decode cX12_marry 273 = .ok (.iload 10, 2) := by decide +kernel
theorem dX12_marry_275 : decode cX12_marry 275 = .ok (.ishl, 1) := by decide +kernel
theorem dX12_marry_276 : decode cX12_marry 276 = .ok (.goto 4, 3) := by decide +kernel
theorem dX12_marry_279 : decode cX12_marry 279 = .ok (.iconst 0, 1) := by decide +kernel
theorem dX12_marry_280 : decode cX12_marry 280 = .ok (.ior, 1) := by decide +kernel
theorem dX12_marry_281 : decode cX12_marry 281 = .ok (.istore 9, 2) := by decide +kernel
theorem dX12_marry_283 : decode cX12_marry 283 = .ok (.iinc 10 1, 3) := by decide +kernel
theorem dX12_marry_286 : decode cX12_marry 286 = .ok (.goto (-78), 3) := by decide +kernel
theorem dX12_marry_289 : decode cX12_marry 289 = .ok (.aload_n 0, 1) := by decide +kernel
theorem dX12_marry_290 : decode cX12_marry 290 = .ok (.getfield 9, 3) := by decide +kernel
theorem dX12_marry_293 : decode cX12_marry 293 = .ok (.sipush 270, 3) := by decide +kernel
theorem dX12_marry_296 : decode cX12_marry 296 = .ok (.iload_n 2, 1) := by decide +kernel
theorem dX12_marry_297 : decode cX12_marry 297 = .ok (.iadd, 1) := by decide +kernel
theorem dX12_marry_298 : decode cX12_marry 298 = .ok (.iload 6, 2) := by decide +kernel
theorem dX12_marry_300 : decode cX12_marry 300 = .ok (.iastore, 1) := by decide +kernel
theorem dX12_marry_301 : decode cX12_marry 301 = .ok (.aload_n 0, 1) := by decide +kernel
theorem dX12_marry_302 : decode cX12_marry 302 = .ok (.getfield 9, 3) := by decide +kernel
theorem dX12_marry_305 : decode cX12_marry 305 = .ok (.sipush 270, 3) := by decide +kernel
theorem dX12_marry_308 : decode cX12_marry 308 = .ok (.iload_n 3, 1) := by decide +kernel
theorem dX12_marry_309 : decode cX12_marry 309 = .ok (.iadd, 1) := by decide +kernel
theorem dX12_marry_310 : decode cX12_marry 310 = .ok (.iload 7, 2) := by decide +kernel
theorem dX12_marry_312 : decode cX12_marry 312 = .ok (.iastore, 1) := by decide +kernel
theorem dX12_marry_313 : decode cX12_marry 313 = .ok (.aload_n 0, 1) := by decide +kernel
theorem dX12_marry_314 : decode cX12_marry 314 = .ok (.getfield 9, 3) := by decide +kernel
theorem dX12_marry_317 : decode cX12_marry 317 = .ok (.sipush 290, 3) := by decide +kernel
theorem dX12_marry_320 : decode cX12_marry 320 = .ok (.iload_n 3, 1) := by decide +kernel
theorem dX12_marry_321 : decode cX12_marry 321 = .ok (.iadd, 1) := by decide +kernel
theorem dX12_marry_322 : decode cX12_marry 322 = .ok (.iconst 0, 1) := by decide +kernel
theorem dX12_marry_323 : decode cX12_marry 323 = .ok (.iastore, 1) := by decide +kernel
theorem dX12_marry_324 : decode cX12_marry 324 = .ok (.iload 4, 2) := by decide +kernel
theorem dX12_marry_326 : decode cX12_marry 326 = .ok (.ifCond .ne 11, 3) := by decide +kernel
theorem dX12_marry_329 : decode cX12_marry 329 = .ok (.iload 8, 2) := by decide +kernel
theorem dX12_marry_331 : decode cX12_marry 331 = .ok (.iload 5, 2) := by decide +kernel
theorem dX12_marry_333 : decode cX12_marry 333 = .ok (.isub, 1) := by decide +kernel
theorem dX12_marry_334 : decode cX12_marry 334 = .ok (.goto 5, 3) := by decide +kernel
theorem dX12_marry_337 : decode cX12_marry 337 = .ok (.iload 9, 2) := by decide +kernel
theorem dX12_marry_339 : decode cX12_marry 339 = .ok (.ireturn, 1) := by decide +kernel
theorem dX12_runs_0 : decode cX12_runs 0 = .ok (.aload_n 0, 1) := by decide +kernel
theorem dX12_runs_1 : decode cX12_runs 1 = .ok (.getfield 250, 3) := by decide +kernel
theorem dX12_runs_4 : decode cX12_runs 4 = .ok (.bipush 20, 2) := by decide +kernel
theorem dX12_runs_6 : decode cX12_runs 6 = .ok (.if_icmp .ge 13, 3) := by decide +kernel
theorem dX12_runs_9 : decode cX12_runs 9 = .ok (.aload_n 0, 1) := by decide +kernel
theorem dX12_runs_10 : decode cX12_runs 10 = .ok (.getfield 34, 3) := by decide +kernel
theorem dX12_runs_13 : decode cX12_runs 13 = .ok (.aload_n 0, 1) := by decide +kernel
theorem dX12_runs_14 : decode cX12_runs 14 = .ok (.getfield 250, 3) := by decide +kernel
theorem dX12_runs_17 : decode cX12_runs 17 = .ok (.iload_n 1, 1) := by decide +kernel
theorem dX12_runs_18 : decode cX12_runs 18 = .ok (.iastore, 1) := by decide +kernel
theorem dX12_runs_19 : decode cX12_runs 19 = .ok (.aload_n 0, 1) := by decide +kernel
theorem dX12_runs_20 : decode cX12_runs 20 = .ok (.dup, 1) := by decide +kernel
theorem dX12_runs_21 : decode cX12_runs 21 = .ok (.getfield 250, 3) := by decide +kernel
theorem dX12_runs_24 : decode cX12_runs 24 = .ok (.iconst 1, 1) := by decide +kernel
theorem dX12_runs_25 : decode cX12_runs 25 = .ok (.iadd, 1) := by decide +kernel
theorem dX12_runs_26 : decode cX12_runs 26 = .ok (.putfield 250, 3) := by decide +kernel
theorem dX12_runs_29 : decode cX12_runs 29 = .ok (.return_, 1) := by decide +kernel
theorem dX12_isUnder_0 : decode cX12_isUnder 0 = .ok (.iload_n 1, 1) := by decide +kernel
theorem dX12_isUnder_1 : decode cX12_isUnder 1 = .ok (.ifCond .eq 28, 3) := by decide +kernel
theorem dX12_isUnder_4 : decode cX12_isUnder 4 = .ok (.iload_n 1, 1) := by decide +kernel
theorem dX12_isUnder_5 : decode cX12_isUnder 5 = .ok (.iload_n 0, 1) := by decide +kernel
theorem dX12_isUnder_6 : decode cX12_isUnder 6 = .ok (.if_icmp .eq 23, 3) := by decide +kernel
theorem dX12_isUnder_9 : decode cX12_isUnder 9 = .ok (.iload_n 1, 1) := by decide +kernel
theorem dX12_isUnder_10 : decode cX12_isUnder 10 = .ok (.iconst 2, 1) := by decide +kernel
theorem dX12_isUnder_11 : decode cX12_isUnder 11 = .ok (.if_icmp .ne 8, 3) := by decide +kernel
theorem dX12_isUnder_14 : decode cX12_isUnder 14 = .ok (.iload_n 0, 1) := by decide +kernel
theorem dX12_isUnder_15 : decode cX12_isUnder 15 = .ok (.iconst 4, 1) := by decide +kernel
theorem dX12_isUnder_16 : decode cX12_isUnder 16 = .ok (.if_icmp .eq 13, 3) := by decide +kernel
theorem dX12_isUnder_19 : decode cX12_isUnder 19 = .ok (.iload_n 1, 1) := by decide +kernel
theorem dX12_isUnder_20 : decode cX12_isUnder 20 = .ok (.iconst 3, 1) := by decide +kernel
theorem dX12_isUnder_21 : decode cX12_isUnder 21 = .ok (.if_icmp .ne 12, 3) := by decide +kernel
theorem dX12_isUnder_24 : decode cX12_isUnder 24 = .ok (.iload_n 0, 1) := by decide +kernel
theorem dX12_isUnder_25 : decode cX12_isUnder 25 = .ok (.iconst 4, 1) := by decide +kernel
theorem dX12_isUnder_26 : decode cX12_isUnder 26 = .ok (.if_icmp .le 7, 3) := by decide +kernel
theorem dX12_isUnder_29 : decode cX12_isUnder 29 = .ok (.iconst 1, 1) := by decide +kernel
theorem dX12_isUnder_30 : decode cX12_isUnder 30 = .ok (.goto 4, 3) := by decide +kernel
theorem dX12_isUnder_33 : decode cX12_isUnder 33 = .ok (.iconst 0, 1) := by decide +kernel
theorem dX12_isUnder_34 : decode cX12_isUnder 34 = .ok (.ireturn, 1) := by decide +kernel
theorem dX12_plainComes_0 : decode cX12_plainComes 0 = .ok (.aload_n 0, 1) := by decide +kernel
theorem dX12_plainComes_1 : decode cX12_plainComes 1 = .ok (.iconst 1, 1) := by decide +kernel
theorem dX12_plainComes_2 : decode cX12_plainComes 2 = .ok (.invokevirtual 253, 3) := by decide +kernel
theorem dX12_plainComes_5 : decode cX12_plainComes 5 = .ok (.iload_n 1, 1) := by decide +kernel
theorem dX12_plainComes_6 : decode cX12_plainComes 6 = .ok (.aload_n 0, 1) := by decide +kernel
theorem dX12_plainComes_7 : decode cX12_plainComes 7 = .ok (.getfield 256, 3) := by decide +kernel
theorem dX12_plainComes_10 : decode cX12_plainComes 10 = .ok (.iadd, 1) := by decide +kernel
theorem dX12_plainComes_11 : decode cX12_plainComes 11 = .ok (.ireturn, 1) := by decide +kernel
theorem dX12_comesActs_0 : decode cX12_comesActs 0 = .ok (.aload_n 0, 1) := by decide +kernel
theorem dX12_comesActs_1 : decode cX12_comesActs 1 = .ok (.getfield 259, 3) := by decide +kernel
theorem dX12_comesActs_4 : decode cX12_comesActs 4 = .ok (.iconst 5, 1) := by decide +kernel
theorem dX12_comesActs_5 : decode cX12_comesActs 5 = .ok (.if_icmp .ne 20, 3) := by decide +kernel
theorem dX12_comesActs_8 : decode cX12_comesActs 8 = .ok (.aload_n 0, 1) := by decide +kernel
theorem dX12_comesActs_9 : decode cX12_comesActs 9 = .ok (.bipush 51, 2) := by decide +kernel
theorem dX12_comesActs_11 : decode cX12_comesActs 11 = .ok (.invokevirtual 253, 3) := by decide +kernel
theorem dX12_comesActs_14 : decode cX12_comesActs 14 = .ok (.aload_n 0, 1) := by decide +kernel
theorem dX12_comesActs_15 : decode cX12_comesActs 15 = .ok (.iload_n 1, 1) := by decide +kernel
theorem dX12_comesActs_16 : decode cX12_comesActs 16 = .ok (.invokevirtual 262, 3) := by decide +kernel
theorem dX12_comesActs_19 : decode cX12_comesActs 19 = .ok (.aload_n 0, 1) := by decide +kernel
theorem dX12_comesActs_20 : decode cX12_comesActs 20 = .ok (.getfield 256, 3) := by decide +kernel
theorem dX12_comesActs_23 : decode cX12_comesActs 23 = .ok (.ixor, 1) := by decide +kernel
theorem dX12_comesActs_24 : decode cX12_comesActs 24 = .ok (.ireturn, 1) := by decide +kernel
theorem dX12_comesActs_25 : decode cX12_comesActs 25 = .ok (.aload_n 0, 1) := by decide +kernel
theorem dX12_comesActs_26 : decode cX12_comesActs 26 = .ok (.getfield 259, 3) := by decide +kernel
theorem dX12_comesActs_29 : decode cX12_comesActs 29 = .ok (.iconst 2, 1) := by decide +kernel
theorem dX12_comesActs_30 : decode cX12_comesActs 30 = .ok (.invokestatic 265, 3) := by decide +kernel
theorem dX12_comesActs_33 : decode cX12_comesActs 33 = .ok (.ifCond .eq 16, 3) := by decide +kernel
theorem dX12_comesActs_36 : decode cX12_comesActs 36 = .ok (.aload_n 0, 1) := by decide +kernel
theorem dX12_comesActs_37 : decode cX12_comesActs 37 = .ok (.bipush 21, 2) := by decide +kernel
theorem dX12_comesActs_39 : decode cX12_comesActs 39 = .ok (.invokevirtual 253, 3) := by decide +kernel
theorem dX12_comesActs_42 : decode cX12_comesActs 42 = .ok (.aload_n 0, 1) := by decide +kernel
theorem dX12_comesActs_43 : decode cX12_comesActs 43 = .ok (.iload_n 1, 1) := by decide +kernel
theorem dX12_comesActs_44 : decode cX12_comesActs 44 = .ok (.invokevirtual 262, 3) := by decide +kernel
theorem dX12_comesActs_47 : decode cX12_comesActs 47 = .ok (.ineg, 1) := by decide +kernel
theorem dX12_comesActs_48 : decode cX12_comesActs 48 = .ok (.ireturn, 1) := by decide +kernel
theorem dX12_comesActs_49 : decode cX12_comesActs 49 = .ok (.aload_n 0, 1) := by decide +kernel
theorem dX12_comesActs_50 : decode cX12_comesActs 50 = .ok (.iload_n 1, 1) := by decide +kernel
theorem dX12_comesActs_51 : decode cX12_comesActs 51 = .ok (.invokevirtual 262, 3) := by decide +kernel
theorem dX12_comesActs_54 : decode cX12_comesActs 54 = .ok (.ireturn, 1) := by decide +kernel
theorem dX12_plainDares_0 : decode cX12_plainDares 0 = .ok (.aload_n 0, 1) := by decide +kernel
theorem dX12_plainDares_1 : decode cX12_plainDares 1 = .ok (.iconst 2, 1) := by decide +kernel
theorem dX12_plainDares_2 : decode cX12_plainDares 2 = .ok (.invokevirtual 253, 3) := by decide +kernel
theorem dX12_plainDares_5 : decode cX12_plainDares 5 = .ok (.aload_n 0, 1) := by decide +kernel
theorem dX12_plainDares_6 : decode cX12_plainDares 6 = .ok (.iload_n 1, 1) := by decide +kernel
theorem dX12_plainDares_7 : decode cX12_plainDares 7 = .ok (.invokevirtual 268, 3) := by decide +kernel
theorem dX12_plainDares_10 : decode cX12_plainDares 10 = .ok (.aload_n 0, 1) := by decide +kernel
theorem dX12_plainDares_11 : decode cX12_plainDares 11 = .ok (.getfield 271, 3) := by decide +kernel
theorem dX12_plainDares_14 : decode cX12_plainDares 14 = .ok (.isub, 1) := by decide +kernel
theorem dX12_plainDares_15 : decode cX12_plainDares 15 = .ok (.ireturn, 1) := by decide +kernel
theorem dX12_daresActs_0 : decode cX12_daresActs 0 = .ok (.aload_n 0, 1) := by decide +kernel
theorem dX12_daresActs_1 : decode cX12_daresActs 1 = .ok (.getfield 259, 3) := by decide +kernel
theorem dX12_daresActs_4 : decode cX12_daresActs 4 = .ok (.iconst 1, 1) := by decide +kernel
theorem dX12_daresActs_5 : decode cX12_daresActs 5 = .ok (.if_icmp .ne 17, 3) := by decide +kernel
theorem dX12_daresActs_8 : decode cX12_daresActs 8 = .ok (.aload_n 0, 1) := by decide +kernel
theorem dX12_daresActs_9 : decode cX12_daresActs 9 = .ok (.bipush 11, 2) := by decide +kernel
theorem dX12_daresActs_11 : decode cX12_daresActs 11 = .ok (.invokevirtual 253, 3) := by decide +kernel
theorem dX12_daresActs_14 : decode cX12_daresActs 14 = .ok (.aload_n 0, 1) := by decide +kernel
theorem dX12_daresActs_15 : decode cX12_daresActs 15 = .ok (.iload_n 1, 1) := by decide +kernel
theorem dX12_daresActs_16 : decode cX12_daresActs 16 = .ok (.iconst 3, 1) := by decide +kernel
theorem dX12_daresActs_17 : decode cX12_daresActs 17 = .ok (.imul, 1) := by decide +kernel
theorem dX12_daresActs_18 : decode cX12_daresActs 18 = .ok (.invokevirtual 274, 3) := by decide +kernel
theorem dX12_daresActs_21 : decode cX12_daresActs 21 = .ok (.ireturn, 1) := by decide +kernel
theorem dX12_daresActs_22 : decode cX12_daresActs 22 = .ok (.aload_n 0, 1) := by decide +kernel
theorem dX12_daresActs_23 : decode cX12_daresActs 23 = .ok (.getfield 259, 3) := by decide +kernel
theorem dX12_daresActs_26 : decode cX12_daresActs 26 = .ok (.bipush 6, 2) := by decide +kernel
theorem dX12_daresActs_28 : decode cX12_daresActs 28 = .ok (.if_icmp .ne 20, 3) := by decide +kernel
theorem dX12_daresActs_31 : decode cX12_daresActs 31 = .ok (.aload_n 0, 1) := by decide +kernel
theorem dX12_daresActs_32 : decode cX12_daresActs 32 = .ok (.bipush 61, 2) := by decide +kernel
theorem dX12_daresActs_34 : decode cX12_daresActs 34 = .ok (.invokevirtual 253, 3) := by decide +kernel
theorem dX12_daresActs_37 : decode cX12_daresActs 37 = .ok (.aload_n 0, 1) := by decide +kernel
theorem dX12_daresActs_38 : decode cX12_daresActs 38 = .ok (.iload_n 1, 1) := by decide +kernel
theorem dX12_daresActs_39 : decode cX12_daresActs 39 = .ok (.invokevirtual 274, 3) := by decide +kernel
theorem dX12_daresActs_42 : decode cX12_daresActs 42 = .ok (.aload_n 0, 1) := by decide +kernel
theorem dX12_daresActs_43 : decode cX12_daresActs 43 = .ok (.getfield 271, 3) := by decide +kernel
theorem dX12_daresActs_46 : decode cX12_daresActs 46 = .ok (.iadd, 1) := by decide +kernel
theorem dX12_daresActs_47 : decode cX12_daresActs 47 = .ok (.ireturn, 1) := by decide +kernel
theorem dX12_daresActs_48 : decode cX12_daresActs 48 = .ok (.aload_n 0, 1) := by decide +kernel
theorem dX12_daresActs_49 : decode cX12_daresActs 49 = .ok (.iload_n 1, 1) := by decide +kernel
theorem dX12_daresActs_50 : decode cX12_daresActs 50 = .ok (.invokevirtual 274, 3) := by decide +kernel
theorem dX12_daresActs_53 : decode cX12_daresActs 53 = .ok (.ireturn, 1) := by decide +kernel
theorem dX12_plainHolds_0 : decode cX12_plainHolds 0 = .ok (.aload_n 0, 1) := by decide +kernel
theorem dX12_plainHolds_1 : decode cX12_plainHolds 1 = .ok (.iconst 3, 1) := by decide +kernel
theorem dX12_plainHolds_2 : decode cX12_plainHolds 2 = .ok (.invokevirtual 253, 3) := by decide +kernel
theorem dX12_plainHolds_5 : decode cX12_plainHolds 5 = .ok (.aload_n 0, 1) := by decide +kernel
theorem dX12_plainHolds_6 : decode cX12_plainHolds 6 = .ok (.iload_n 1, 1) := by decide +kernel
theorem dX12_plainHolds_7 : decode cX12_plainHolds 7 = .ok (.invokevirtual 277, 3) := by decide +kernel
theorem dX12_plainHolds_10 : decode cX12_plainHolds 10 = .ok (.iconst 2, 1) := by decide +kernel
theorem dX12_plainHolds_11 : decode cX12_plainHolds 11 = .ok (.imul, 1) := by decide +kernel
theorem dX12_plainHolds_12 : decode cX12_plainHolds 12 = .ok (.ireturn, 1) := by decide +kernel
theorem dX12_holdsActs_0 : decode cX12_holdsActs 0 = .ok (.aload_n 0, 1) := by decide +kernel
theorem dX12_holdsActs_1 : decode cX12_holdsActs 1 = .ok (.getfield 259, 3) := by decide +kernel
theorem dX12_holdsActs_4 : decode cX12_holdsActs 4 = .ok (.iconst 4, 1) := by decide +kernel
theorem dX12_holdsActs_5 : decode cX12_holdsActs 5 = .ok (.if_icmp .ne 25, 3) := by decide +kernel
theorem dX12_holdsActs_8 : decode cX12_holdsActs 8 = .ok (.aload_n 0, 1) := by decide +kernel
theorem dX12_holdsActs_9 : decode cX12_holdsActs 9 = .ok (.bipush 41, 2) := by decide +kernel
theorem dX12_holdsActs_11 : decode cX12_holdsActs 11 = .ok (.invokevirtual 253, 3) := by decide +kernel
theorem dX12_holdsActs_14 : decode cX12_holdsActs 14 = .ok (.aload_n 0, 1) := by decide +kernel
theorem dX12_holdsActs_15 : decode cX12_holdsActs 15 = .ok (.iload_n 1, 1) := by decide +kernel
theorem dX12_holdsActs_16 : decode cX12_holdsActs 16 = .ok (.iconst 1, 1) := by decide +kernel
theorem dX12_holdsActs_17 : decode cX12_holdsActs 17 = .ok (.isub, 1) := by decide +kernel
theorem dX12_holdsActs_18 : decode cX12_holdsActs 18 = .ok (.invokevirtual 280, 3) := by decide +kernel
theorem dX12_holdsActs_21 : decode cX12_holdsActs 21 = .ok (.istore_n 2, 1) := by decide +kernel
theorem dX12_holdsActs_22 : decode cX12_holdsActs 22 = .ok (.iload_n 2, 1) := by decide +kernel
theorem dX12_holdsActs_23 : decode cX12_holdsActs 23 = .ok (.aload_n 0, 1) := by decide +kernel
theorem dX12_holdsActs_24 : decode cX12_holdsActs 24 = .ok (.iconst 2, 1) := by decide +kernel
theorem dX12_holdsActs_25 : decode cX12_holdsActs 25 = .ok (.invokevirtual 268, 3) := by decide +kernel
theorem dX12_holdsActs_28 : decode cX12_holdsActs 28 = .ok (.iadd, 1) := by decide +kernel
theorem dX12_holdsActs_29 : decode cX12_holdsActs 29 = .ok (.ireturn, 1) := by decide +kernel
theorem dX12_holdsActs_30 : decode cX12_holdsActs 30 = .ok (.aload_n 0, 1) := by decide +kernel
theorem dX12_holdsActs_31 : decode cX12_holdsActs 31 = .ok (.getfield 259, 3) := by decide +kernel
theorem dX12_holdsActs_34 : decode cX12_holdsActs 34 = .ok (.iconst 3, 1) := by decide +kernel
theorem dX12_holdsActs_35 : decode cX12_holdsActs 35 = .ok (.invokestatic 265, 3) := by decide +kernel
theorem dX12_holdsActs_38 : decode cX12_holdsActs 38 = .ok (.ifCond .eq 18, 3) := by decide +kernel
theorem dX12_holdsActs_41 : decode cX12_holdsActs 41 = .ok (.aload_n 0, 1) := by decide +kernel
theorem dX12_holdsActs_42 : decode cX12_holdsActs 42 = .ok (.bipush 31, 2) := by decide +kernel
theorem dX12_holdsActs_44 : decode cX12_holdsActs 44 = .ok (.invokevirtual 253, 3) := by decide +kernel
theorem dX12_holdsActs_47 : decode cX12_holdsActs 47 = .ok (.aload_n 0, 1) := by decide +kernel
theorem dX12_holdsActs_48 : decode cX12_holdsActs 48 = .ok (.iload_n 1, 1) := by decide +kernel
theorem dX12_holdsActs_49 : decode cX12_holdsActs 49 = .ok (.invokevirtual 280, 3) := by decide +kernel
theorem dX12_holdsActs_52 : decode cX12_holdsActs 52 = .ok (.bipush 7, 2) := by decide +kernel
theorem dX12_holdsActs_54 : decode cX12_holdsActs 54 = .ok (.ixor, 1) := by decide +kernel
theorem dX12_holdsActs_55 : decode cX12_holdsActs 55 = .ok (.ireturn, 1) := by decide +kernel
theorem dX12_holdsActs_56 : decode cX12_holdsActs 56 = .ok (.aload_n 0, 1) := by decide +kernel
theorem dX12_holdsActs_57 : decode cX12_holdsActs 57 = .ok (.iload_n 1, 1) := by decide +kernel
theorem dX12_holdsActs_58 : decode cX12_holdsActs 58 = .ok (.invokevirtual 280, 3) := by decide +kernel
theorem dX12_holdsActs_61 : decode cX12_holdsActs 61 = .ok (.ireturn, 1) := by decide +kernel
theorem dX12_act_0 : decode cX12_act 0 = .ok (.aload_n 0, 1) := by decide +kernel
theorem dX12_act_1 : decode cX12_act 1 = .ok (.iconst 0, 1) := by decide +kernel
theorem dX12_act_2 : decode cX12_act 2 = .ok (.putfield 250, 3) := by decide +kernel
theorem dX12_act_5 : decode cX12_act 5 = .ok (.aload_n 0, 1) := by decide +kernel
theorem dX12_act_6 : decode cX12_act 6 = .ok (.iload_n 1, 1) := by decide +kernel
theorem dX12_act_7 : decode cX12_act 7 = .ok (.invokevirtual 132, 3) := by decide +kernel
theorem dX12_act_10 : decode cX12_act 10 = .ok (.ifCond .eq 12, 3) := by decide +kernel
theorem dX12_act_13 : decode cX12_act 13 = .ok (.iload_n 2, 1) := by decide +kernel
theorem dX12_act_14 : decode cX12_act 14 = .ok (.iconst 0, 1) := by decide +kernel
theorem dX12_act_15 : decode cX12_act 15 = .ok (.iconst 2, 1) := by decide +kernel
theorem dX12_act_16 : decode cX12_act 16 = .ok (.invokestatic 41, 3) := by decide +kernel
theorem dX12_act_19 : decode cX12_act 19 = .ok (.ifCond .ne 5, 3) := by decide +kernel
theorem dX12_act_22 : decode cX12_act 22 = .ok (.iconst 0, 1) := by decide +kernel
theorem dX12_act_23 : decode cX12_act 23 = .ok (.ireturn, 1) := by decide +kernel
theorem dX12_act_24 : decode cX12_act 24 = .ok (.aload_n 0, 1) := by decide +kernel
theorem dX12_act_25 : decode cX12_act 25 = .ok (.aload_n 0, 1) := by decide +kernel
theorem dX12_act_26 : decode cX12_act 26 = .ok (.getfield 9, 3) := by decide +kernel
theorem dX12_act_29 : decode cX12_act 29 = .ok (.sipush 410, 3) := by decide +kernel
theorem dX12_act_32 : decode cX12_act 32 = .ok (.iload_n 1, 1) := by decide +kernel
theorem dX12_act_33 : decode cX12_act 33 = .ok (.iadd, 1) := by decide +kernel
theorem dX12_act_34 : decode cX12_act 34 = .ok (.iaload, 1) := by decide +kernel
theorem dX12_act_35 : decode cX12_act 35 = .ok (.putfield 259, 3) := by decide +kernel
theorem dX12_act_38 : decode cX12_act 38 = .ok (.aload_n 0, 1) := by decide +kernel
theorem dX12_act_39 : decode cX12_act 39 = .ok (.iload_n 1, 1) := by decide +kernel
theorem dX12_act_40 : decode cX12_act 40 = .ok (.putfield 256, 3) := by decide +kernel
theorem dX12_act_43 : decode cX12_act 43 = .ok (.aload_n 0, 1) := by decide +kernel
theorem dX12_act_44 : decode cX12_act 44 = .ok (.aload_n 0, 1) := by decide +kernel
theorem dX12_act_45 : decode cX12_act 45 = .ok (.getfield 9, 3) := by decide +kernel
theorem dX12_act_48 : decode cX12_act 48 = .ok (.sipush 420, 3) := by decide +kernel
theorem dX12_act_51 : decode cX12_act 51 = .ok (.iload_n 1, 1) := by decide +kernel
theorem dX12_act_52 : decode cX12_act 52 = .ok (.iadd, 1) := by decide +kernel
theorem dX12_act_53 : decode cX12_act 53 = .ok (.iaload, 1) := by decide +kernel
theorem dX12_act_54 : decode cX12_act 54 = .ok (.putfield 271, 3) := by decide +kernel
theorem dX12_act_57 : decode cX12_act 57 = .ok (.iload_n 2, 1) := by decide +kernel
theorem dX12_act_58 : decode cX12_act 58 = .ok (.ifCond .ne 11, 3) := by decide +kernel
theorem dX12_act_61 : decode cX12_act 61 = .ok (.aload_n 0, 1) := by decide +kernel
theorem dX12_act_62 : decode cX12_act 62 = .ok (.iload_n 3, 1) := by decide +kernel
theorem dX12_act_63 : decode cX12_act 63 = .ok (.invokevirtual 268, 3) := by decide +kernel
theorem dX12_act_66 : decode cX12_act 66 = .ok (.goto 21, 3) := by decide +kernel
theorem dX12_act_69 : decode cX12_act 69 = .ok (.iload_n 2, 1) := by decide +kernel
theorem dX12_act_70 : decode cX12_act 70 = .ok (.iconst 1, 1) := by decide +kernel
theorem dX12_act_71 : decode cX12_act 71 = .ok (.if_icmp .ne 11, 3) := by decide +kernel
theorem dX12_act_74 : decode cX12_act 74 = .ok (.aload_n 0, 1) := by decide +kernel
theorem dX12_act_75 : decode cX12_act 75 = .ok (.iload_n 3, 1) := by decide +kernel
theorem dX12_act_76 : decode cX12_act 76 = .ok (.invokevirtual 277, 3) := by decide +kernel
theorem dX12_act_79 : decode cX12_act 79 = .ok (.goto 8, 3) := by decide +kernel
theorem dX12_act_82 : decode cX12_act 82 = .ok (.aload_n 0, 1) := by decide +kernel
theorem dX12_act_83 : decode cX12_act 83 = .ok (.iload_n 3, 1) := by decide +kernel
theorem dX12_act_84 : decode cX12_act 84 = .ok (.invokevirtual 283, 3) := by decide +kernel
theorem dX12_act_87 : decode cX12_act 87 = .ok (.ireturn, 1) := by decide +kernel
theorem dX12_trace_0 : decode cX12_trace 0 = .ok (.iload_n 1, 1) := by decide +kernel
theorem dX12_trace_1 : decode cX12_trace 1 = .ok (.iconst 0, 1) := by decide +kernel
theorem dX12_trace_2 : decode cX12_trace 2 = .ok (.aload_n 0, 1) := by decide +kernel
theorem dX12_trace_3 : decode cX12_trace 3 = .ok (.getfield 250, 3) := by decide +kernel
theorem dX12_trace_6 : decode cX12_trace 6 = .ok (.bipush 20, 2) := by decide +kernel
theorem dX12_trace_8 : decode cX12_trace 8 = .ok (.if_icmp .ge 10, 3) := by decide +kernel
theorem dX12_trace_11 : decode cX12_trace 11 = .ok (.aload_n 0, 1) := by decide +kernel
theorem dX12_trace_12 : decode cX12_trace 12 = .ok (.getfield 250, 3) := by decide +kernel
theorem dX12_trace_15 : decode cX12_trace 15 = .ok (.goto 5, 3) := by decide +kernel
theorem dX12_trace_18 : decode cX12_trace 18 = .ok (.bipush 20, 2) := by decide +kernel
theorem dX12_trace_20 : decode cX12_trace 20 = .ok (.iconst 1, 1) := by decide +kernel
theorem dX12_trace_21 : decode cX12_trace 21 = .ok (.isub, 1) := by decide +kernel
theorem dX12_trace_22 : decode cX12_trace 22 = .ok (.invokestatic 41, 3) := by decide +kernel
theorem dX12_trace_25 : decode cX12_trace 25 = .ok (.ifCond .eq 12, 3) := by decide +kernel
theorem dX12_trace_28 : decode cX12_trace 28 = .ok (.aload_n 0, 1) := by decide +kernel
theorem dX12_trace_29 : decode cX12_trace 29 = .ok (.getfield 34, 3) := by decide +kernel
theorem dX12_trace_32 : decode cX12_trace 32 = .ok (.iload_n 1, 1) := by decide +kernel
theorem dX12_trace_33 : decode cX12_trace 33 = .ok (.iaload, 1) := by decide +kernel
theorem dX12_trace_34 : decode cX12_trace 34 = .ok (.goto 4, 3) := by decide +kernel
theorem dX12_trace_37 : decode cX12_trace 37 = .ok (.iconst (-1), 1) := by decide +kernel
theorem dX12_trace_38 : decode cX12_trace 38 = .ok (.ireturn, 1) := by decide +kernel
theorem dX12_as_0 : decode cX12_as 0 = .ok (.aload_n 0, 1) := by decide +kernel
theorem dX12_as_1 : decode cX12_as 1 = .ok (.iload_n 1, 1) := by decide +kernel
theorem dX12_as_2 : decode cX12_as 2 = .ok (.invokevirtual 132, 3) := by decide +kernel
theorem dX12_as_5 : decode cX12_as 5 = .ok (.ifCond .eq 13, 3) := by decide +kernel
theorem dX12_as_8 : decode cX12_as 8 = .ok (.iload_n 2, 1) := by decide +kernel
theorem dX12_as_9 : decode cX12_as 9 = .ok (.iconst 0, 1) := by decide +kernel
theorem dX12_as_10 : decode cX12_as 10 = .ok (.bipush 6, 2) := by decide +kernel
theorem dX12_as_12 : decode cX12_as 12 = .ok (.invokestatic 41, 3) := by decide +kernel
theorem dX12_as_15 : decode cX12_as 15 = .ok (.ifCond .ne 5, 3) := by decide +kernel
theorem dX12_as_18 : decode cX12_as 18 = .ok (.iconst (-1), 1) := by decide +kernel
theorem dX12_as_19 : decode cX12_as 19 = .ok (.ireturn, 1) := by decide +kernel
theorem dX12_as_20 : decode cX12_as 20 = .ok (.aload_n 0, 1) := by decide +kernel
theorem dX12_as_21 : decode cX12_as 21 = .ok (.getfield 9, 3) := by decide +kernel
theorem dX12_as_24 : decode cX12_as 24 = .ok (.sipush 410, 3) := by decide +kernel
theorem dX12_as_27 : decode cX12_as 27 = .ok (.iload_n 1, 1) := by decide +kernel
theorem dX12_as_28 : decode cX12_as 28 = .ok (.iadd, 1) := by decide +kernel
theorem dX12_as_29 : decode cX12_as 29 = .ok (.iaload, 1) := by decide +kernel
theorem dX12_as_30 : decode cX12_as 30 = .ok (.iload_n 2, 1) := by decide +kernel
theorem dX12_as_31 : decode cX12_as 31 = .ok (.invokestatic 265, 3) := by decide +kernel
theorem dX12_as_34 : decode cX12_as 34 = .ok (.ifCond .eq 16, 3) := by decide +kernel
theorem dX12_as_37 : decode cX12_as 37 = .ok (.aload_n 0, 1) := by decide +kernel
theorem dX12_as_38 : decode cX12_as 38 = .ok (.getfield 9, 3) := by decide +kernel
theorem dX12_as_41 : decode cX12_as 41 = .ok (.sipush 420, 3) := by decide +kernel
theorem dX12_as_44 : decode cX12_as 44 = .ok (.iload_n 1, 1) := by decide +kernel
theorem dX12_as_45 : decode cX12_as 45 = .ok (.iadd, 1) := by decide +kernel
theorem dX12_as_46 : decode cX12_as 46 = .ok (.iaload, 1) := by decide +kernel
theorem dX12_as_47 : decode cX12_as 47 = .ok (.goto 5, 3) := by decide +kernel
theorem dX12_as_50 : decode cX12_as 50 = .ok (.bipush (-6), 2) := by decide +kernel
theorem dX12_as_52 : decode cX12_as 52 = .ok (.ireturn, 1) := by decide +kernel
theorem dX12_image_0 : decode cX12_image 0 = .ok (.iconst 0, 1) := by decide +kernel
theorem dX12_image_1 : decode cX12_image 1 = .ok (.istore_n 1, 1) := by decide +kernel
theorem dX12_image_2 : decode cX12_image 2 = .ok (.iload_n 1, 1) := by decide +kernel
theorem dX12_image_3 : decode cX12_image 3 = .ok (.sipush 490, 3) := by decide +kernel
theorem dX12_image_6 : decode cX12_image 6 = .ok (.if_icmp .ge 21, 3) := by decide +kernel
theorem dX12_image_9 : decode cX12_image 9 = .ok (.aload_n 0, 1) := by decide +kernel
theorem dX12_image_10 : decode cX12_image 10 = .ok (.getfield 15, 3) := by decide +kernel
theorem dX12_image_13 : decode cX12_image 13 = .ok (.iload_n 1, 1) := by decide +kernel
theorem dX12_image_14 : decode cX12_image 14 = .ok (.aload_n 0, 1) := by decide +kernel
theorem dX12_image_15 : decode cX12_image 15 = .ok (.getfield 9, 3) := by decide +kernel
theorem dX12_image_18 : decode cX12_image 18 = .ok (.iload_n 1, 1) := by decide +kernel
theorem dX12_image_19 : decode cX12_image 19 = .ok (.iaload, 1) := by decide +kernel
theorem dX12_image_20 : decode cX12_image 20 = .ok (.iastore, 1) := by decide +kernel
theorem dX12_image_21 : decode cX12_image 21 = .ok (.iinc 1 1, 3) := by decide +kernel
theorem dX12_image_24 : decode cX12_image 24 = .ok (.goto (-22), 3) := by decide +kernel
theorem dX12_image_27 : decode cX12_image 27 = .ok (.aload_n 0, 1) := by decide +kernel
theorem dX12_image_28 : decode cX12_image 28 = .ok (.iconst 1, 1) := by decide +kernel
theorem dX12_image_29 : decode cX12_image 29 = .ok (.putfield 286, 3) := by decide +kernel
theorem dX12_image_32 : decode cX12_image 32 = .ok (.aload_n 0, 1) := by decide +kernel
theorem dX12_image_33 : decode cX12_image 33 = .ok (.getfield 9, 3) := by decide +kernel
theorem dX12_image_36 : decode cX12_image 36 = .ok (.iconst 0, 1) := by decide +kernel
theorem dX12_image_37 : decode cX12_image 37 = .ok (.iaload, 1) := by decide +kernel
theorem dX12_image_38 : decode cX12_image 38 = .ok (.ireturn, 1) := by decide +kernel
theorem dX12_undo_0 : decode cX12_undo 0 = .ok (.aload_n 0, 1) := by decide +kernel
theorem dX12_undo_1 : decode cX12_undo 1 = .ok (.getfield 286, 3) := by decide +kernel
theorem dX12_undo_4 : decode cX12_undo 4 = .ok (.ifCond .ne 6, 3) := by decide +kernel
theorem dX12_undo_7 : decode cX12_undo 7 = .ok (.bipush (-3), 2) := by decide +kernel
theorem dX12_undo_9 : decode cX12_undo 9 = .ok (.ireturn, 1) := by decide +kernel
theorem dX12_undo_10 : decode cX12_undo 10 = .ok (.iconst 0, 1) := by decide +kernel
theorem dX12_undo_11 : decode cX12_undo 11 = .ok (.istore_n 1, 1) := by decide +kernel
theorem dX12_undo_12 : decode cX12_undo 12 = .ok (.iload_n 1, 1) := by decide +kernel
theorem dX12_undo_13 : decode cX12_undo 13 = .ok (.sipush 490, 3) := by decide +kernel
theorem dX12_undo_16 : decode cX12_undo 16 = .ok (.if_icmp .ge 21, 3) := by decide +kernel
theorem dX12_undo_19 : decode cX12_undo 19 = .ok (.aload_n 0, 1) := by decide +kernel
theorem dX12_undo_20 : decode cX12_undo 20 = .ok (.getfield 9, 3) := by decide +kernel
theorem dX12_undo_23 : decode cX12_undo 23 = .ok (.iload_n 1, 1) := by decide +kernel
theorem dX12_undo_24 : decode cX12_undo 24 = .ok (.aload_n 0, 1) := by decide +kernel
theorem dX12_undo_25 : decode cX12_undo 25 = .ok (.getfield 15, 3) := by decide +kernel
theorem dX12_undo_28 : decode cX12_undo 28 = .ok (.iload_n 1, 1) := by decide +kernel
theorem dX12_undo_29 : decode cX12_undo 29 = .ok (.iaload, 1) := by decide +kernel
theorem dX12_undo_30 : decode cX12_undo 30 = .ok (.iastore, 1) := by decide +kernel
theorem dX12_undo_31 : decode cX12_undo 31 = .ok (.iinc 1 1, 3) := by decide +kernel
theorem dX12_undo_34 : decode cX12_undo 34 = .ok (.goto (-22), 3) := by decide +kernel
theorem dX12_undo_37 : decode cX12_undo 37 = .ok (.aload_n 0, 1) := by decide +kernel
theorem dX12_undo_38 : decode cX12_undo 38 = .ok (.getfield 9, 3) := by decide +kernel
theorem dX12_undo_41 : decode cX12_undo 41 = .ok (.iconst 0, 1) := by decide +kernel
theorem dX12_undo_42 : decode cX12_undo 42 = .ok (.iaload, 1) := by decide +kernel
theorem dX12_undo_43 : decode cX12_undo 43 = .ok (.ireturn, 1) := by decide +kernel
theorem dX12_count_0 : decode cX12_count 0 = .ok (.iload_n 1, 1) := by decide +kernel
theorem dX12_count_1 : decode cX12_count 1 = .ok (.tableswitch 91 0 6 #[43, 50, 58, 65, 72, 79, 84], 43) := by decide +kernel
theorem dX12_count_44 : decode cX12_count 44 = .ok (.aload_n 0, 1) := by decide +kernel
theorem dX12_count_45 : decode cX12_count 45 = .ok (.getfield 9, 3) := by decide +kernel
theorem dX12_count_48 : decode cX12_count 48 = .ok (.iconst 0, 1) := by decide +kernel
theorem dX12_count_49 : decode cX12_count 49 = .ok (.iaload, 1) := by decide +kernel
theorem dX12_count_50 : decode cX12_count 50 = .ok (.ireturn, 1) := by decide +kernel
theorem dX12_count_51 : decode cX12_count 51 = .ok (.aload_n 0, 1) := by decide +kernel
theorem dX12_count_52 : decode cX12_count 52 = .ok (.invokevirtual 153, 3) := by decide +kernel
theorem dX12_count_55 : decode cX12_count 55 = .ok (.invokestatic 232, 3) := by decide +kernel
theorem dX12_count_58 : decode cX12_count 58 = .ok (.ireturn, 1) := by decide +kernel
theorem dX12_count_59 : decode cX12_count 59 = .ok (.aload_n 0, 1) := by decide +kernel
theorem dX12_count_60 : decode cX12_count 60 = .ok (.getfield 9, 3) := by decide +kernel
theorem dX12_count_63 : decode cX12_count 63 = .ok (.iconst 1, 1) := by decide +kernel
theorem dX12_count_64 : decode cX12_count 64 = .ok (.iaload, 1) := by decide +kernel
theorem dX12_count_65 : decode cX12_count 65 = .ok (.ireturn, 1) := by decide +kernel
theorem dX12_count_66 : decode cX12_count 66 = .ok (.aload_n 0, 1) := by decide +kernel
theorem dX12_count_67 : decode cX12_count 67 = .ok (.getfield 9, 3) := by decide +kernel
theorem dX12_count_70 : decode cX12_count 70 = .ok (.iconst 2, 1) := by decide +kernel
theorem dX12_count_71 : decode cX12_count 71 = .ok (.iaload, 1) := by decide +kernel
theorem dX12_count_72 : decode cX12_count 72 = .ok (.ireturn, 1) := by decide +kernel
theorem dX12_count_73 : decode cX12_count 73 = .ok (.aload_n 0, 1) := by decide +kernel
theorem dX12_count_74 : decode cX12_count 74 = .ok (.getfield 9, 3) := by decide +kernel
theorem dX12_count_77 : decode cX12_count 77 = .ok (.iconst 3, 1) := by decide +kernel
theorem dX12_count_78 : decode cX12_count 78 = .ok (.iaload, 1) := by decide +kernel
theorem dX12_count_79 : decode cX12_count 79 = .ok (.ireturn, 1) := by decide +kernel
theorem dX12_count_80 : decode cX12_count 80 = .ok (.aload_n 0, 1) := by decide +kernel
theorem dX12_count_81 : decode cX12_count 81 = .ok (.getfield 250, 3) := by decide +kernel
theorem dX12_count_84 : decode cX12_count 84 = .ok (.ireturn, 1) := by decide +kernel
theorem dX12_count_85 : decode cX12_count 85 = .ok (.aload_n 0, 1) := by decide +kernel
theorem dX12_count_86 : decode cX12_count 86 = .ok (.getfield 9, 3) := by decide +kernel
theorem dX12_count_89 : decode cX12_count 89 = .ok (.iconst 4, 1) := by decide +kernel
theorem dX12_count_90 : decode cX12_count 90 = .ok (.iaload, 1) := by decide +kernel
theorem dX12_count_91 : decode cX12_count 91 = .ok (.ireturn, 1) := by decide +kernel
theorem dX12_count_92 : decode cX12_count 92 = .ok (.iconst (-1), 1) := by decide +kernel
theorem dX12_count_93 : decode cX12_count 93 = .ok (.ireturn, 1) := by decide +kernel
theorem dJ6_bitCount_0f7a4_0 : decode cJ6_bitCount_0f7a4 0 = .ok (.iload_n 0, 1) := by decide +kernel
theorem dJ6_bitCount_0f7a4_1 : decode cJ6_bitCount_0f7a4 1 = .ok (.iload_n 0, 1) := by decide +kernel
theorem dJ6_bitCount_0f7a4_2 : decode cJ6_bitCount_0f7a4 2 = .ok (.iconst 1, 1) := by decide +kernel
theorem dJ6_bitCount_0f7a4_3 : decode cJ6_bitCount_0f7a4 3 = .ok (.iushr, 1) := by decide +kernel
theorem dJ6_bitCount_0f7a4_4 : decode cJ6_bitCount_0f7a4 4 = .ok (.ldc_w 265, 3) := by decide +kernel
theorem dJ6_bitCount_0f7a4_7 : decode cJ6_bitCount_0f7a4 7 = .ok (.iand, 1) := by decide +kernel
theorem dJ6_bitCount_0f7a4_8 : decode cJ6_bitCount_0f7a4 8 = .ok (.isub, 1) := by decide +kernel
theorem dJ6_bitCount_0f7a4_9 : decode cJ6_bitCount_0f7a4 9 = .ok (.istore_n 0, 1) := by decide +kernel
theorem dJ6_bitCount_0f7a4_10 : decode cJ6_bitCount_0f7a4 10 = .ok (.iload_n 0, 1) := by decide +kernel
theorem dJ6_bitCount_0f7a4_11 : decode cJ6_bitCount_0f7a4 11 = .ok (.ldc_w 266, 3) := by decide +kernel
theorem dJ6_bitCount_0f7a4_14 : decode cJ6_bitCount_0f7a4 14 = .ok (.iand, 1) := by decide +kernel
theorem dJ6_bitCount_0f7a4_15 : decode cJ6_bitCount_0f7a4 15 = .ok (.iload_n 0, 1) := by decide +kernel
theorem dJ6_bitCount_0f7a4_16 : decode cJ6_bitCount_0f7a4 16 = .ok (.iconst 2, 1) := by decide +kernel
theorem dJ6_bitCount_0f7a4_17 : decode cJ6_bitCount_0f7a4 17 = .ok (.iushr, 1) := by decide +kernel
theorem dJ6_bitCount_0f7a4_18 : decode cJ6_bitCount_0f7a4 18 = .ok (.ldc_w 266, 3) := by decide +kernel
theorem dJ6_bitCount_0f7a4_21 : decode cJ6_bitCount_0f7a4 21 = .ok (.iand, 1) := by decide +kernel
theorem dJ6_bitCount_0f7a4_22 : decode cJ6_bitCount_0f7a4 22 = .ok (.iadd, 1) := by decide +kernel
theorem dJ6_bitCount_0f7a4_23 : decode cJ6_bitCount_0f7a4 23 = .ok (.istore_n 0, 1) := by decide +kernel
theorem dJ6_bitCount_0f7a4_24 : decode cJ6_bitCount_0f7a4 24 = .ok (.iload_n 0, 1) := by decide +kernel
theorem dJ6_bitCount_0f7a4_25 : decode cJ6_bitCount_0f7a4 25 = .ok (.iload_n 0, 1) := by decide +kernel
theorem dJ6_bitCount_0f7a4_26 : decode cJ6_bitCount_0f7a4 26 = .ok (.iconst 4, 1) := by decide +kernel
theorem dJ6_bitCount_0f7a4_27 : decode cJ6_bitCount_0f7a4 27 = .ok (.iushr, 1) := by decide +kernel
theorem dJ6_bitCount_0f7a4_28 : decode cJ6_bitCount_0f7a4 28 = .ok (.iadd, 1) := by decide +kernel
theorem dJ6_bitCount_0f7a4_29 : decode cJ6_bitCount_0f7a4 29 = .ok (.ldc_w 267, 3) := by decide +kernel
theorem dJ6_bitCount_0f7a4_32 : decode cJ6_bitCount_0f7a4 32 = .ok (.iand, 1) := by decide +kernel
theorem dJ6_bitCount_0f7a4_33 : decode cJ6_bitCount_0f7a4 33 = .ok (.istore_n 0, 1) := by decide +kernel
theorem dJ6_bitCount_0f7a4_34 : decode cJ6_bitCount_0f7a4 34 = .ok (.iload_n 0, 1) := by decide +kernel
theorem dJ6_bitCount_0f7a4_35 : decode cJ6_bitCount_0f7a4 35 = .ok (.iload_n 0, 1) := by decide +kernel
theorem dJ6_bitCount_0f7a4_36 : decode cJ6_bitCount_0f7a4 36 = .ok (.bipush 8, 2) := by decide +kernel
theorem dJ6_bitCount_0f7a4_38 : decode cJ6_bitCount_0f7a4 38 = .ok (.iushr, 1) := by decide +kernel
theorem dJ6_bitCount_0f7a4_39 : decode cJ6_bitCount_0f7a4 39 = .ok (.iadd, 1) := by decide +kernel
theorem dJ6_bitCount_0f7a4_40 : decode cJ6_bitCount_0f7a4 40 = .ok (.istore_n 0, 1) := by decide +kernel
theorem dJ6_bitCount_0f7a4_41 : decode cJ6_bitCount_0f7a4 41 = .ok (.iload_n 0, 1) := by decide +kernel
theorem dJ6_bitCount_0f7a4_42 : decode cJ6_bitCount_0f7a4 42 = .ok (.iload_n 0, 1) := by decide +kernel
theorem dJ6_bitCount_0f7a4_43 : decode cJ6_bitCount_0f7a4 43 = .ok (.bipush 16, 2) := by decide +kernel
theorem dJ6_bitCount_0f7a4_45 : decode cJ6_bitCount_0f7a4 45 = .ok (.iushr, 1) := by decide +kernel
theorem dJ6_bitCount_0f7a4_46 : decode cJ6_bitCount_0f7a4 46 = .ok (.iadd, 1) := by decide +kernel
theorem dJ6_bitCount_0f7a4_47 : decode cJ6_bitCount_0f7a4 47 = .ok (.istore_n 0, 1) := by decide +kernel
theorem dJ6_bitCount_0f7a4_48 : decode cJ6_bitCount_0f7a4 48 = .ok (.iload_n 0, 1) := by decide +kernel
theorem dJ6_bitCount_0f7a4_49 : decode cJ6_bitCount_0f7a4 49 = .ok (.bipush 63, 2) := by decide +kernel
theorem dJ6_bitCount_0f7a4_51 : decode cJ6_bitCount_0f7a4 51 = .ok (.iand, 1) := by decide +kernel
theorem dJ6_bitCount_0f7a4_52 : decode cJ6_bitCount_0f7a4 52 = .ok (.ireturn, 1) := by decide +kernel
theorem dJ9_abs_0f7a4_0 : decode cJ9_abs_0f7a4 0 = .ok (.iload_n 0, 1) := by decide +kernel
theorem dJ9_abs_0f7a4_1 : decode cJ9_abs_0f7a4 1 = .ok (.ifCond .ge 8, 3) := by decide +kernel
theorem dJ9_abs_0f7a4_4 : decode cJ9_abs_0f7a4 4 = .ok (.iload_n 0, 1) := by decide +kernel
theorem dJ9_abs_0f7a4_5 : decode cJ9_abs_0f7a4 5 = .ok (.ineg, 1) := by decide +kernel
theorem dJ9_abs_0f7a4_6 : decode cJ9_abs_0f7a4 6 = .ok (.goto 4, 3) := by decide +kernel
theorem dJ9_abs_0f7a4_9 : decode cJ9_abs_0f7a4 9 = .ok (.iload_n 0, 1) := by decide +kernel
theorem dJ9_abs_0f7a4_10 : decode cJ9_abs_0f7a4 10 = .ok (.ireturn, 1) := by decide +kernel
theorem dJ9_max_7cf53_0 : decode cJ9_max_7cf53 0 = .ok (.iload_n 0, 1) := by decide +kernel
theorem dJ9_max_7cf53_1 : decode cJ9_max_7cf53 1 = .ok (.iload_n 1, 1) := by decide +kernel
theorem dJ9_max_7cf53_2 : decode cJ9_max_7cf53 2 = .ok (.if_icmp .lt 7, 3) := by decide +kernel
theorem dJ9_max_7cf53_5 : decode cJ9_max_7cf53 5 = .ok (.iload_n 0, 1) := by decide +kernel
theorem dJ9_max_7cf53_6 : decode cJ9_max_7cf53 6 = .ok (.goto 4, 3) := by decide +kernel
theorem dJ9_max_7cf53_9 : decode cJ9_max_7cf53 9 = .ok (.iload_n 1, 1) := by decide +kernel
theorem dJ9_max_7cf53_10 : decode cJ9_max_7cf53 10 = .ok (.ireturn, 1) := by decide +kernel
theorem dJ9_min_7cf53_0 : decode cJ9_min_7cf53 0 = .ok (.iload_n 0, 1) := by decide +kernel
theorem dJ9_min_7cf53_1 : decode cJ9_min_7cf53 1 = .ok (.iload_n 1, 1) := by decide +kernel
theorem dJ9_min_7cf53_2 : decode cJ9_min_7cf53 2 = .ok (.if_icmp .gt 7, 3) := by decide +kernel
theorem dJ9_min_7cf53_5 : decode cJ9_min_7cf53 5 = .ok (.iload_n 0, 1) := by decide +kernel
theorem dJ9_min_7cf53_6 : decode cJ9_min_7cf53 6 = .ok (.goto 4, 3) := by decide +kernel
theorem dJ9_min_7cf53_9 : decode cJ9_min_7cf53 9 = .ok (.iload_n 1, 1) := by decide +kernel
theorem dJ9_min_7cf53_10 : decode cJ9_min_7cf53 10 = .ok (.ireturn, 1) := by decide +kernel
theorem dJ0_length_8abf5_0 : decode cJ0_length_8abf5 0 = .ok (.aload_n 0, 1) := by decide +kernel
theorem dJ0_length_8abf5_1 : decode cJ0_length_8abf5 1 = .ok (.getfield 9, 3) := by decide +kernel
theorem dJ0_length_8abf5_4 : decode cJ0_length_8abf5 4 = .ok (.arraylength, 1) := by decide +kernel
theorem dJ0_length_8abf5_5 : decode cJ0_length_8abf5 5 = .ok (.aload_n 0, 1) := by decide +kernel
theorem dJ0_length_8abf5_6 : decode cJ0_length_8abf5 6 = .ok (.invokevirtual 335, 3) := by decide +kernel
theorem dJ0_length_8abf5_9 : decode cJ0_length_8abf5 9 = .ok (.ishr, 1) := by decide +kernel
theorem dJ0_length_8abf5_10 : decode cJ0_length_8abf5 10 = .ok (.ireturn, 1) := by decide +kernel
theorem dJ0_charAt_5068e_0 : decode cJ0_charAt_5068e 0 = .ok (.aload_n 0, 1) := by decide +kernel
theorem dJ0_charAt_5068e_1 : decode cJ0_charAt_5068e 1 = .ok (.invokevirtual 492, 3) := by decide +kernel
theorem dJ0_charAt_5068e_4 : decode cJ0_charAt_5068e 4 = .ok (.ifCond .eq 12, 3) := by decide +kernel
theorem dJ0_charAt_5068e_7 : decode cJ0_charAt_5068e 7 = .ok (.aload_n 0, 1) := by decide +kernel
theorem dJ0_charAt_5068e_8 : decode cJ0_charAt_5068e 8 = .ok (.getfield 9, 3) := by decide +kernel
theorem dJ0_charAt_5068e_11 : decode cJ0_charAt_5068e 11 = .ok (.iload_n 1, 1) := by decide +kernel
theorem dJ0_charAt_5068e_12 : decode cJ0_charAt_5068e 12 = .ok (.invokestatic 495, 3) := by decide +kernel
theorem dJ0_charAt_5068e_15 : decode cJ0_charAt_5068e 15 = .ok (.ireturn, 1) := by decide +kernel
theorem dJ0_charAt_5068e_16 : decode cJ0_charAt_5068e 16 = .ok (.aload_n 0, 1) := by decide +kernel
theorem dJ0_charAt_5068e_17 : decode cJ0_charAt_5068e 17 = .ok (.getfield 9, 3) := by decide +kernel
theorem dJ0_charAt_5068e_20 : decode cJ0_charAt_5068e 20 = .ok (.iload_n 1, 1) := by decide +kernel
theorem dJ0_charAt_5068e_21 : decode cJ0_charAt_5068e 21 = .ok (.invokestatic 498, 3) := by decide +kernel
theorem dJ0_charAt_5068e_24 : decode cJ0_charAt_5068e 24 = .ok (.ireturn, 1) := by decide +kernel
theorem dJ0_coder_7d493_0 : decode cJ0_coder_7d493 0 = .ok (.getstatic 38, 3) := by decide +kernel
theorem dJ0_coder_7d493_3 : decode cJ0_coder_7d493 3 = .ok (.ifCond .eq 10, 3) := by decide +kernel
theorem dJ0_coder_7d493_6 : decode cJ0_coder_7d493 6 = .ok (.aload_n 0, 1) := by decide +kernel
theorem dJ0_coder_7d493_7 : decode cJ0_coder_7d493 7 = .ok (.getfield 15, 3) := by decide +kernel
theorem dJ0_coder_7d493_10 : decode cJ0_coder_7d493 10 = .ok (.goto 4, 3) := by decide +kernel
theorem dJ0_coder_7d493_13 : decode cJ0_coder_7d493 13 = .ok (.iconst 1, 1) := by decide +kernel
theorem dJ0_coder_7d493_14 : decode cJ0_coder_7d493 14 = .ok (.ireturn, 1) := by decide +kernel
theorem dJ0_isLatin1_aae02_0 : decode cJ0_isLatin1_aae02 0 = .ok (.getstatic 38, 3) := by decide +kernel
theorem dJ0_isLatin1_aae02_3 : decode cJ0_isLatin1_aae02 3 = .ok (.ifCond .eq 14, 3) := by decide +kernel
theorem dJ0_isLatin1_aae02_6 : decode cJ0_isLatin1_aae02 6 = .ok (.aload_n 0, 1) := by decide +kernel
theorem dJ0_isLatin1_aae02_7 : decode cJ0_isLatin1_aae02 7 = .ok (.getfield 15, 3) := by decide +kernel
theorem dJ0_isLatin1_aae02_10 : decode cJ0_isLatin1_aae02 10 = .ok (.ifCond .ne 7, 3) := by decide +kernel
theorem dJ0_isLatin1_aae02_13 : decode cJ0_isLatin1_aae02 13 = .ok (.iconst 1, 1) := by decide +kernel
theorem dJ0_isLatin1_aae02_14 : decode cJ0_isLatin1_aae02 14 = .ok (.goto 4, 3) := by decide +kernel
theorem dJ0_isLatin1_aae02_17 : decode cJ0_isLatin1_aae02 17 = .ok (.iconst 0, 1) := by decide +kernel
theorem dJ0_isLatin1_aae02_18 : decode cJ0_isLatin1_aae02 18 = .ok (.ireturn, 1) := by decide +kernel
theorem dJ0_checkIndex_df160_0 : decode cJ0_checkIndex_df160 0 = .ok (.iload_n 0, 1) := by decide +kernel
theorem dJ0_checkIndex_df160_1 : decode cJ0_checkIndex_df160 1 = .ok (.iload_n 1, 1) := by decide +kernel
theorem dJ0_checkIndex_df160_2 : decode cJ0_checkIndex_df160 2 = .ok (.getstatic 1053, 3) := by decide +kernel
theorem dJ0_checkIndex_df160_5 : decode cJ0_checkIndex_df160 5 = .ok (.invokestatic 1059, 3) := by decide +kernel
theorem dJ0_checkIndex_df160_8 : decode cJ0_checkIndex_df160 8 = .ok (.pop, 1) := by decide +kernel
theorem dJ0_checkIndex_df160_9 : decode cJ0_checkIndex_df160 9 = .ok (.return_, 1) := by decide +kernel
theorem dJ1_charAt_3b067_0 : decode cJ1_charAt_3b067 0 = .ok (.iload_n 1, 1) := by decide +kernel
theorem dJ1_charAt_3b067_1 : decode cJ1_charAt_3b067 1 = .ok (.aload_n 0, 1) := by decide +kernel
theorem dJ1_charAt_3b067_2 : decode cJ1_charAt_3b067 2 = .ok (.arraylength, 1) := by decide +kernel
theorem dJ1_charAt_3b067_3 : decode cJ1_charAt_3b067 3 = .ok (.invokestatic 9, 3) := by decide +kernel
theorem dJ1_charAt_3b067_6 : decode cJ1_charAt_3b067 6 = .ok (.aload_n 0, 1) := by decide +kernel
theorem dJ1_charAt_3b067_7 : decode cJ1_charAt_3b067 7 = .ok (.iload_n 1, 1) := by decide +kernel
theorem dJ1_charAt_3b067_8 : decode cJ1_charAt_3b067 8 = .ok (.baload, 1) := by decide +kernel
theorem dJ1_charAt_3b067_9 : decode cJ1_charAt_3b067 9 = .ok (.sipush 255, 3) := by decide +kernel
theorem dJ1_charAt_3b067_12 : decode cJ1_charAt_3b067 12 = .ok (.iand, 1) := by decide +kernel
theorem dJ1_charAt_3b067_13 : decode cJ1_charAt_3b067 13 = .ok (.i2c, 1) := by decide +kernel
theorem dJ1_charAt_3b067_14 : decode cJ1_charAt_3b067 14 = .ok (.ireturn, 1) := by decide +kernel
theorem dJ2_getChar_3b067_0 : decode cJ2_getChar_3b067 0 = .ok (.getstatic 44, 3) := by decide +kernel
theorem dJ2_getChar_3b067_3 : decode cJ2_getChar_3b067 3 = .ok (.ifCond .ne 25, 3) := by decide +kernel
theorem dJ2_getChar_3b067_6 : decode cJ2_getChar_3b067 6 = .ok (.iload_n 1, 1) := by decide +kernel
theorem dJ2_getChar_3b067_7 : decode cJ2_getChar_3b067 7 = .ok (.ifCond .lt 11, 3) := by decide +kernel
theorem dJ2_getChar_3b067_10 : decode cJ2_getChar_3b067 10 = .ok (.iload_n 1, 1) := by decide +kernel
theorem dJ2_getChar_3b067_11 : decode cJ2_getChar_3b067 11 = .ok (.aload_n 0, 1) := by decide +kernel
theorem dJ2_getChar_3b067_12 : decode cJ2_getChar_3b067 12 = .ok (.invokestatic 48, 3) := by decide +kernel
theorem dJ2_getChar_3b067_15 : decode cJ2_getChar_3b067 15 = .ok (.if_icmp .lt 13, 3) := by decide +kernel
theorem dJ2_getChar_3b067_18 : decode cJ2_getChar_3b067 18 = .ok (.new 52, 3) := by decide +kernel
theorem dJ2_getChar_3b067_21 : decode cJ2_getChar_3b067 21 = .ok (.dup, 1) := by decide +kernel
theorem dJ2_getChar_3b067_22 : decode cJ2_getChar_3b067 22 = .ok (.ldc 54, 2) := by decide +kernel
theorem dJ2_getChar_3b067_24 : decode cJ2_getChar_3b067 24 = .ok (.invokespecial 56, 3) := by decide +kernel
theorem dJ2_getChar_3b067_27 : decode cJ2_getChar_3b067 27 = .ok (.athrow, 1) := by decide +kernel
theorem dJ2_getChar_3b067_28 : decode cJ2_getChar_3b067 28 = .ok (.iload_n 1, 1) := by decide +kernel
theorem dJ2_getChar_3b067_29 : decode cJ2_getChar_3b067 29 = .ok (.iconst 1, 1) := by decide +kernel
theorem dJ2_getChar_3b067_30 : decode cJ2_getChar_3b067 30 = .ok (.ishl, 1) := by decide +kernel
theorem dJ2_getChar_3b067_31 : decode cJ2_getChar_3b067 31 = .ok (.istore_n 1, 1) := by decide +kernel
theorem dJ2_getChar_3b067_32 : decode cJ2_getChar_3b067 32 = .ok (.aload_n 0, 1) := by decide +kernel
theorem dJ2_getChar_3b067_33 : decode cJ2_getChar_3b067 33 = .ok (.iload_n 1, 1) := by decide +kernel
theorem dJ2_getChar_3b067_34 : decode cJ2_getChar_3b067 34 = .ok (.iinc 1 1, 3) := by decide +kernel
theorem dJ2_getChar_3b067_37 : decode cJ2_getChar_3b067 37 = .ok (.baload, 1) := by decide +kernel
theorem dJ2_getChar_3b067_38 : decode cJ2_getChar_3b067 38 = .ok (.sipush 255, 3) := by decide +kernel
theorem dJ2_getChar_3b067_41 : decode cJ2_getChar_3b067 41 = .ok (.iand, 1) := by decide +kernel
theorem dJ2_getChar_3b067_42 : decode cJ2_getChar_3b067 42 = .ok (.getstatic 59, 3) := by decide +kernel
theorem dJ2_getChar_3b067_45 : decode cJ2_getChar_3b067 45 = .ok (.ishl, 1) := by decide +kernel
theorem dJ2_getChar_3b067_46 : decode cJ2_getChar_3b067 46 = .ok (.aload_n 0, 1) := by decide +kernel
theorem dJ2_getChar_3b067_47 : decode cJ2_getChar_3b067 47 = .ok (.iload_n 1, 1) := by decide +kernel
theorem dJ2_getChar_3b067_48 : decode cJ2_getChar_3b067 48 = .ok (.baload, 1) := by decide +kernel
theorem dJ2_getChar_3b067_49 : decode cJ2_getChar_3b067 49 = .ok (.sipush 255, 3) := by decide +kernel
theorem dJ2_getChar_3b067_52 : decode cJ2_getChar_3b067 52 = .ok (.iand, 1) := by decide +kernel
theorem dJ2_getChar_3b067_53 : decode cJ2_getChar_3b067 53 = .ok (.getstatic 63, 3) := by decide +kernel
theorem dJ2_getChar_3b067_56 : decode cJ2_getChar_3b067 56 = .ok (.ishl, 1) := by decide +kernel
theorem dJ2_getChar_3b067_57 : decode cJ2_getChar_3b067 57 = .ok (.ior, 1) := by decide +kernel
theorem dJ2_getChar_3b067_58 : decode cJ2_getChar_3b067 58 = .ok (.i2c, 1) := by decide +kernel
theorem dJ2_getChar_3b067_59 : decode cJ2_getChar_3b067 59 = .ok (.ireturn, 1) := by decide +kernel
theorem dJ2_length_9d52b_0 : decode cJ2_length_9d52b 0 = .ok (.aload_n 0, 1) := by decide +kernel
theorem dJ2_length_9d52b_1 : decode cJ2_length_9d52b 1 = .ok (.arraylength, 1) := by decide +kernel
theorem dJ2_length_9d52b_2 : decode cJ2_length_9d52b 2 = .ok (.iconst 1, 1) := by decide +kernel
theorem dJ2_length_9d52b_3 : decode cJ2_length_9d52b 3 = .ok (.ishr, 1) := by decide +kernel
theorem dJ2_length_9d52b_4 : decode cJ2_length_9d52b 4 = .ok (.ireturn, 1) := by decide +kernel
theorem dJ2_charAt_3b067_0 : decode cJ2_charAt_3b067 0 = .ok (.iload_n 1, 1) := by decide +kernel
theorem dJ2_charAt_3b067_1 : decode cJ2_charAt_3b067 1 = .ok (.aload_n 0, 1) := by decide +kernel
theorem dJ2_charAt_3b067_2 : decode cJ2_charAt_3b067 2 = .ok (.invokestatic 67, 3) := by decide +kernel
theorem dJ2_charAt_3b067_5 : decode cJ2_charAt_3b067 5 = .ok (.aload_n 0, 1) := by decide +kernel
theorem dJ2_charAt_3b067_6 : decode cJ2_charAt_3b067 6 = .ok (.iload_n 1, 1) := by decide +kernel
theorem dJ2_charAt_3b067_7 : decode cJ2_charAt_3b067 7 = .ok (.invokestatic 71, 3) := by decide +kernel
theorem dJ2_charAt_3b067_10 : decode cJ2_charAt_3b067 10 = .ok (.ireturn, 1) := by decide +kernel
theorem dJ2_checkIndex_2214a_0 : decode cJ2_checkIndex_2214a 0 = .ok (.iload_n 0, 1) := by decide +kernel
theorem dJ2_checkIndex_2214a_1 : decode cJ2_checkIndex_2214a 1 = .ok (.aload_n 1, 1) := by decide +kernel
theorem dJ2_checkIndex_2214a_2 : decode cJ2_checkIndex_2214a 2 = .ok (.invokestatic 48, 3) := by decide +kernel
theorem dJ2_checkIndex_2214a_5 : decode cJ2_checkIndex_2214a 5 = .ok (.invokestatic 414, 3) := by decide +kernel
theorem dJ2_checkIndex_2214a_8 : decode cJ2_checkIndex_2214a 8 = .ok (.return_, 1) := by decide +kernel
theorem dJ3_checkIndex_8e157_0 : decode cJ3_checkIndex_8e157 0 = .ok (.iload_n 0, 1) := by decide +kernel
theorem dJ3_checkIndex_8e157_1 : decode cJ3_checkIndex_8e157 1 = .ok (.ifCond .lt 8, 3) := by decide +kernel
theorem dJ3_checkIndex_8e157_4 : decode cJ3_checkIndex_8e157 4 = .ok (.iload_n 0, 1) := by decide +kernel
theorem dJ3_checkIndex_8e157_5 : decode cJ3_checkIndex_8e157 5 = .ok (.iload_n 1, 1) := by decide +kernel
theorem dJ3_checkIndex_8e157_6 : decode cJ3_checkIndex_8e157 6 = .ok (.if_icmp .lt 10, 3) := by decide +kernel
theorem dJ3_checkIndex_8e157_9 : decode cJ3_checkIndex_8e157 9 = .ok (.aload_n 2, 1) := by decide +kernel
theorem dJ3_checkIndex_8e157_10 : decode cJ3_checkIndex_8e157 10 = .ok (.iload_n 0, 1) := by decide +kernel
theorem dJ3_checkIndex_8e157_11 : decode cJ3_checkIndex_8e157 11 = .ok (.iload_n 1, 1) := by decide +kernel
theorem dJ3_checkIndex_8e157_12 : decode cJ3_checkIndex_8e157 12 = .ok (.invokestatic 95, 3) := by decide +kernel
theorem dJ3_checkIndex_8e157_15 : decode cJ3_checkIndex_8e157 15 = .ok (.athrow, 1) := by decide +kernel
theorem dJ3_checkIndex_8e157_16 : decode cJ3_checkIndex_8e157 16 = .ok (.iload_n 0, 1) := by decide +kernel
theorem dJ3_checkIndex_8e157_17 : decode cJ3_checkIndex_8e157 17 = .ok (.ireturn, 1) := by decide +kernel
theorem dL_law_0 : decode cL_law 0 = .ok (.new 7, 3) := by decide +kernel
theorem dL_law_3 : decode cL_law 3 = .ok (.dup, 1) := by decide +kernel
theorem dL_law_4 : decode cL_law 4 = .ok (.invokespecial 9, 3) := by decide +kernel
theorem dL_law_7 : decode cL_law 7 = .ok (.astore_n 1, 1) := by decide +kernel
theorem dL_law_8 : decode cL_law 8 = .ok (.new 10, 3) := by decide +kernel
theorem dL_law_11 : decode cL_law 11 = .ok (.dup, 1) := by decide +kernel
theorem dL_law_12 : decode cL_law 12 = .ok (.invokespecial 12, 3) := by decide +kernel
theorem dL_law_15 : decode cL_law 15 = .ok (.astore_n 2, 1) := by decide +kernel
theorem dL_law_16 : decode cL_law 16 = .ok (.iconst 0, 1) := by decide +kernel
theorem dL_law_17 : decode cL_law 17 = .ok (.istore_n 3, 1) := by decide +kernel
theorem dL_law_18 : decode cL_law 18 = .ok (.iload_n 3, 1) := by decide +kernel
theorem dL_law_19 : decode cL_law 19 = .ok (.aload_n 0, 1) := by decide +kernel
theorem dL_law_20 : decode cL_law 20 = .ok (.arraylength, 1) := by decide +kernel
theorem dL_law_21 : decode cL_law 21 = .ok (.iconst 5, 1) := by decide +kernel
theorem dL_law_22 : decode cL_law 22 = .ok (.isub, 1) := by decide +kernel
theorem dL_law_23 : decode cL_law 23 = .ok (.if_icmp .gt 1269, 3) := by decide +kernel
theorem dL_law_26 : decode cL_law 26 = .ok (.aload_n 0, 1) := by decide +kernel
theorem dL_law_27 : decode cL_law 27 = .ok (.iload_n 3, 1) := by decide +kernel
theorem dL_law_28 : decode cL_law 28 = .ok (.iaload, 1) := by decide +kernel
theorem dL_law_29 : decode cL_law 29 = .ok (.bipush 63, 2) := by decide +kernel
theorem dL_law_31 : decode cL_law 31 = .ok (.iand, 1) := by decide +kernel
theorem dL_law_32 : decode cL_law 32 = .ok (.tableswitch 1254 0 32 #[148, 181, 214, 247, 290, 333, 396, 409, 442, 475, 508, 551, 604, 658, 701, 724, 767, 790, 813, 872, 915, 938, 961, 974, 997, 1030, 1053, 1106, 1149, 1172, 1205, 1218, 1231], 148) := by decide +kernel
theorem dL_law_180 : decode cL_law 180 = .ok (.aload_n 1, 1) := by decide +kernel
theorem dL_law_181 : decode cL_law 181 = .ok (.aload_n 0, 1) := by decide +kernel
theorem dL_law_182 : decode cL_law 182 = .ok (.iload_n 3, 1) := by decide +kernel
theorem dL_law_183 : decode cL_law 183 = .ok (.iconst 1, 1) := by decide +kernel
theorem dL_law_184 : decode cL_law 184 = .ok (.iadd, 1) := by decide +kernel
theorem dL_law_185 : decode cL_law 185 = .ok (.iaload, 1) := by decide +kernel
theorem dL_law_186 : decode cL_law 186 = .ok (.aload_n 0, 1) := by decide +kernel
theorem dL_law_187 : decode cL_law 187 = .ok (.iload_n 3, 1) := by decide +kernel
theorem dL_law_188 : decode cL_law 188 = .ok (.iconst 2, 1) := by decide +kernel
theorem dL_law_189 : decode cL_law 189 = .ok (.iadd, 1) := by decide +kernel
theorem dL_law_190 : decode cL_law 190 = .ok (.iaload, 1) := by decide +kernel
theorem dL_law_191 : decode cL_law 191 = .ok (.invokevirtual 13, 3) := by decide +kernel
theorem dL_law_194 : decode cL_law 194 = .ok (.aload_n 2, 1) := by decide +kernel
theorem dL_law_195 : decode cL_law 195 = .ok (.aload_n 0, 1) := by decide +kernel
theorem dL_law_196 : decode cL_law 196 = .ok (.iload_n 3, 1) := by decide +kernel
theorem dL_law_197 : decode cL_law 197 = .ok (.iconst 1, 1) := by decide +kernel
theorem dL_law_198 : decode cL_law 198 = .ok (.iadd, 1) := by decide +kernel
theorem dL_law_199 : decode cL_law 199 = .ok (.iaload, 1) := by decide +kernel
theorem dL_law_200 : decode cL_law 200 = .ok (.aload_n 0, 1) := by decide +kernel
theorem dL_law_201 : decode cL_law 201 = .ok (.iload_n 3, 1) := by decide +kernel
theorem dL_law_202 : decode cL_law 202 = .ok (.iconst 2, 1) := by decide +kernel
theorem dL_law_203 : decode cL_law 203 = .ok (.iadd, 1) := by decide +kernel
theorem dL_law_204 : decode cL_law 204 = .ok (.iaload, 1) := by decide +kernel
theorem dL_law_205 : decode cL_law 205 = .ok (.invokevirtual 17, 3) := by decide +kernel
theorem dL_law_208 : decode cL_law 208 = .ok (.if_icmp .eq 1078, 3) := by decide +kernel
theorem dL_law_211 : decode cL_law 211 = .ok (.iconst 0, 1) := by decide +kernel
theorem dL_law_212 : decode cL_law 212 = .ok (.ireturn, 1) := by decide +kernel
theorem dL_law_213 : decode cL_law 213 = .ok (.aload_n 1, 1) := by decide +kernel
theorem dL_law_214 : decode cL_law 214 = .ok (.aload_n 0, 1) := by decide +kernel
theorem dL_law_215 : decode cL_law 215 = .ok (.iload_n 3, 1) := by decide +kernel
theorem dL_law_216 : decode cL_law 216 = .ok (.iconst 1, 1) := by decide +kernel
theorem dL_law_217 : decode cL_law 217 = .ok (.iadd, 1) := by decide +kernel
theorem dL_law_218 : decode cL_law 218 = .ok (.iaload, 1) := by decide +kernel
theorem dL_law_219 : decode cL_law 219 = .ok (.aload_n 0, 1) := by decide +kernel
theorem dL_law_220 : decode cL_law 220 = .ok (.iload_n 3, 1) := by decide +kernel
theorem dL_law_221 : decode cL_law 221 = .ok (.iconst 2, 1) := by decide +kernel
theorem dL_law_222 : decode cL_law 222 = .ok (.iadd, 1) := by decide +kernel
theorem dL_law_223 : decode cL_law 223 = .ok (.iaload, 1) := by decide +kernel
theorem dL_law_224 : decode cL_law 224 = .ok (.invokevirtual 18, 3) := by decide +kernel
theorem dL_law_227 : decode cL_law 227 = .ok (.aload_n 2, 1) := by decide +kernel
theorem dL_law_228 : decode cL_law 228 = .ok (.aload_n 0, 1) := by decide +kernel
theorem dL_law_229 : decode cL_law 229 = .ok (.iload_n 3, 1) := by decide +kernel
theorem dL_law_230 : decode cL_law 230 = .ok (.iconst 1, 1) := by decide +kernel
theorem dL_law_231 : decode cL_law 231 = .ok (.iadd, 1) := by decide +kernel
theorem dL_law_232 : decode cL_law 232 = .ok (.iaload, 1) := by decide +kernel
theorem dL_law_233 : decode cL_law 233 = .ok (.aload_n 0, 1) := by decide +kernel
theorem dL_law_234 : decode cL_law 234 = .ok (.iload_n 3, 1) := by decide +kernel
theorem dL_law_235 : decode cL_law 235 = .ok (.iconst 2, 1) := by decide +kernel
theorem dL_law_236 : decode cL_law 236 = .ok (.iadd, 1) := by decide +kernel
theorem dL_law_237 : decode cL_law 237 = .ok (.iaload, 1) := by decide +kernel
theorem dL_law_238 : decode cL_law 238 = .ok (.invokevirtual 21, 3) := by decide +kernel
theorem dL_law_241 : decode cL_law 241 = .ok (.if_icmp .eq 1045, 3) := by decide +kernel
theorem dL_law_244 : decode cL_law 244 = .ok (.iconst 0, 1) := by decide +kernel
theorem dL_law_245 : decode cL_law 245 = .ok (.ireturn, 1) := by decide +kernel
theorem dL_law_246 : decode cL_law 246 = .ok (.aload_n 1, 1) := by decide +kernel
theorem dL_law_247 : decode cL_law 247 = .ok (.aload_n 0, 1) := by decide +kernel
theorem dL_law_248 : decode cL_law 248 = .ok (.iload_n 3, 1) := by decide +kernel
theorem dL_law_249 : decode cL_law 249 = .ok (.iconst 1, 1) := by decide +kernel
theorem dL_law_250 : decode cL_law 250 = .ok (.iadd, 1) := by decide +kernel
theorem dL_law_251 : decode cL_law 251 = .ok (.iaload, 1) := by decide +kernel
theorem dL_law_252 : decode cL_law 252 = .ok (.aload_n 0, 1) := by decide +kernel
theorem dL_law_253 : decode cL_law 253 = .ok (.iload_n 3, 1) := by decide +kernel
theorem dL_law_254 : decode cL_law 254 = .ok (.iconst 2, 1) := by decide +kernel
theorem dL_law_255 : decode cL_law 255 = .ok (.iadd, 1) := by decide +kernel
theorem dL_law_256 : decode cL_law 256 = .ok (.iaload, 1) := by decide +kernel
theorem dL_law_257 : decode cL_law 257 = .ok (.invokevirtual 22, 3) := by decide +kernel
theorem dL_law_260 : decode cL_law 260 = .ok (.aload_n 2, 1) := by decide +kernel
theorem dL_law_261 : decode cL_law 261 = .ok (.aload_n 0, 1) := by decide +kernel
theorem dL_law_262 : decode cL_law 262 = .ok (.iload_n 3, 1) := by decide +kernel
theorem dL_law_263 : decode cL_law 263 = .ok (.iconst 1, 1) := by decide +kernel
theorem dL_law_264 : decode cL_law 264 = .ok (.iadd, 1) := by decide +kernel
theorem dL_law_265 : decode cL_law 265 = .ok (.iaload, 1) := by decide +kernel
theorem dL_law_266 : decode cL_law 266 = .ok (.aload_n 0, 1) := by decide +kernel
theorem dL_law_267 : decode cL_law 267 = .ok (.iload_n 3, 1) := by decide +kernel
theorem dL_law_268 : decode cL_law 268 = .ok (.iconst 2, 1) := by decide +kernel
theorem dL_law_269 : decode cL_law 269 = .ok (.iadd, 1) := by decide +kernel
theorem dL_law_270 : decode cL_law 270 = .ok (.iaload, 1) := by decide +kernel
theorem dL_law_271 : decode cL_law 271 = .ok (.invokevirtual 25, 3) := by decide +kernel
theorem dL_law_274 : decode cL_law 274 = .ok (.if_icmp .eq 1012, 3) := by decide +kernel
theorem dL_law_277 : decode cL_law 277 = .ok (.iconst 0, 1) := by decide +kernel
theorem dL_law_278 : decode cL_law 278 = .ok (.ireturn, 1) := by decide +kernel
theorem dL_law_279 : decode cL_law 279 = .ok (.aload_n 1, 1) := by decide +kernel
theorem dL_law_280 : decode cL_law 280 = .ok (.aload_n 0, 1) := by decide +kernel
theorem dL_law_281 : decode cL_law 281 = .ok (.iload_n 3, 1) := by decide +kernel
theorem dL_law_282 : decode cL_law 282 = .ok (.iconst 1, 1) := by decide +kernel
theorem dL_law_283 : decode cL_law 283 = .ok (.iadd, 1) := by decide +kernel
theorem dL_law_284 : decode cL_law 284 = .ok (.iaload, 1) := by decide +kernel
theorem dL_law_285 : decode cL_law 285 = .ok (.aload_n 0, 1) := by decide +kernel
theorem dL_law_286 : decode cL_law 286 = .ok (.iload_n 3, 1) := by decide +kernel
theorem dL_law_287 : decode cL_law 287 = .ok (.iconst 2, 1) := by decide +kernel
theorem dL_law_288 : decode cL_law 288 = .ok (.iadd, 1) := by decide +kernel
theorem dL_law_289 : decode cL_law 289 = .ok (.iaload, 1) := by decide +kernel
theorem dL_law_290 : decode cL_law 290 = .ok (.aload_n 0, 1) := by decide +kernel
theorem dL_law_291 : decode cL_law 291 = .ok (.iload_n 3, 1) := by decide +kernel
theorem dL_law_292 : decode cL_law 292 = .ok (.iconst 3, 1) := by decide +kernel
theorem dL_law_293 : decode cL_law 293 = .ok (.iadd, 1) := by decide +kernel
theorem dL_law_294 : decode cL_law 294 = .ok (.iaload, 1) := by decide +kernel
theorem dL_law_295 : decode cL_law 295 = .ok (.invokevirtual 26, 3) := by decide +kernel
theorem dL_law_298 : decode cL_law 298 = .ok (.aload_n 2, 1) := by decide +kernel
theorem dL_law_299 : decode cL_law 299 = .ok (.aload_n 0, 1) := by decide +kernel
theorem dL_law_300 : decode cL_law 300 = .ok (.iload_n 3, 1) := by decide +kernel
theorem dL_law_301 : decode cL_law 301 = .ok (.iconst 1, 1) := by decide +kernel
theorem dL_law_302 : decode cL_law 302 = .ok (.iadd, 1) := by decide +kernel
theorem dL_law_303 : decode cL_law 303 = .ok (.iaload, 1) := by decide +kernel
theorem dL_law_304 : decode cL_law 304 = .ok (.aload_n 0, 1) := by decide +kernel
theorem dL_law_305 : decode cL_law 305 = .ok (.iload_n 3, 1) := by decide +kernel
theorem dL_law_306 : decode cL_law 306 = .ok (.iconst 2, 1) := by decide +kernel
theorem dL_law_307 : decode cL_law 307 = .ok (.iadd, 1) := by decide +kernel
theorem dL_law_308 : decode cL_law 308 = .ok (.iaload, 1) := by decide +kernel
theorem dL_law_309 : decode cL_law 309 = .ok (.aload_n 0, 1) := by decide +kernel
theorem dL_law_310 : decode cL_law 310 = .ok (.iload_n 3, 1) := by decide +kernel
theorem dL_law_311 : decode cL_law 311 = .ok (.iconst 3, 1) := by decide +kernel
theorem dL_law_312 : decode cL_law 312 = .ok (.iadd, 1) := by decide +kernel
theorem dL_law_313 : decode cL_law 313 = .ok (.iaload, 1) := by decide +kernel
theorem dL_law_314 : decode cL_law 314 = .ok (.invokevirtual 30, 3) := by decide +kernel
theorem dL_law_317 : decode cL_law 317 = .ok (.if_icmp .eq 969, 3) := by decide +kernel
theorem dL_law_320 : decode cL_law 320 = .ok (.iconst 0, 1) := by decide +kernel
theorem dL_law_321 : decode cL_law 321 = .ok (.ireturn, 1) := by decide +kernel
theorem dL_law_322 : decode cL_law 322 = .ok (.aload_n 1, 1) := by decide +kernel
theorem dL_law_323 : decode cL_law 323 = .ok (.aload_n 0, 1) := by decide +kernel
theorem dL_law_324 : decode cL_law 324 = .ok (.iload_n 3, 1) := by decide +kernel
theorem dL_law_325 : decode cL_law 325 = .ok (.iconst 1, 1) := by decide +kernel
theorem dL_law_326 : decode cL_law 326 = .ok (.iadd, 1) := by decide +kernel
theorem dL_law_327 : decode cL_law 327 = .ok (.iaload, 1) := by decide +kernel
theorem dL_law_328 : decode cL_law 328 = .ok (.aload_n 0, 1) := by decide +kernel
theorem dL_law_329 : decode cL_law 329 = .ok (.iload_n 3, 1) := by decide +kernel
theorem dL_law_330 : decode cL_law 330 = .ok (.iconst 2, 1) := by decide +kernel
theorem dL_law_331 : decode cL_law 331 = .ok (.iadd, 1) := by decide +kernel
theorem dL_law_332 : decode cL_law 332 = .ok (.iaload, 1) := by decide +kernel
theorem dL_law_333 : decode cL_law 333 = .ok (.aload_n 0, 1) := by decide +kernel
theorem dL_law_334 : decode cL_law 334 = .ok (.iload_n 3, 1) := by decide +kernel
theorem dL_law_335 : decode cL_law 335 = .ok (.iconst 3, 1) := by decide +kernel
theorem dL_law_336 : decode cL_law 336 = .ok (.iadd, 1) := by decide +kernel
theorem dL_law_337 : decode cL_law 337 = .ok (.iaload, 1) := by decide +kernel
theorem dL_law_338 : decode cL_law 338 = .ok (.invokevirtual 31, 3) := by decide +kernel
theorem dL_law_341 : decode cL_law 341 = .ok (.aload_n 2, 1) := by decide +kernel
theorem dL_law_342 : decode cL_law 342 = .ok (.aload_n 0, 1) := by decide +kernel
theorem dL_law_343 : decode cL_law 343 = .ok (.iload_n 3, 1) := by decide +kernel
theorem dL_law_344 : decode cL_law 344 = .ok (.iconst 1, 1) := by decide +kernel
theorem dL_law_345 : decode cL_law 345 = .ok (.iadd, 1) := by decide +kernel
theorem dL_law_346 : decode cL_law 346 = .ok (.iaload, 1) := by decide +kernel
theorem dL_law_347 : decode cL_law 347 = .ok (.aload_n 0, 1) := by decide +kernel
theorem dL_law_348 : decode cL_law 348 = .ok (.iload_n 3, 1) := by decide +kernel
theorem dL_law_349 : decode cL_law 349 = .ok (.iconst 2, 1) := by decide +kernel
theorem dL_law_350 : decode cL_law 350 = .ok (.iadd, 1) := by decide +kernel
theorem dL_law_351 : decode cL_law 351 = .ok (.iaload, 1) := by decide +kernel
theorem dL_law_352 : decode cL_law 352 = .ok (.aload_n 0, 1) := by decide +kernel
theorem dL_law_353 : decode cL_law 353 = .ok (.iload_n 3, 1) := by decide +kernel
theorem dL_law_354 : decode cL_law 354 = .ok (.iconst 3, 1) := by decide +kernel
theorem dL_law_355 : decode cL_law 355 = .ok (.iadd, 1) := by decide +kernel
theorem dL_law_356 : decode cL_law 356 = .ok (.iaload, 1) := by decide +kernel
theorem dL_law_357 : decode cL_law 357 = .ok (.invokevirtual 34, 3) := by decide +kernel
theorem dL_law_360 : decode cL_law 360 = .ok (.if_icmp .eq 926, 3) := by decide +kernel
theorem dL_law_363 : decode cL_law 363 = .ok (.iconst 0, 1) := by decide +kernel
theorem dL_law_364 : decode cL_law 364 = .ok (.ireturn, 1) := by decide +kernel
theorem dL_law_365 : decode cL_law 365 = .ok (.aload_n 1, 1) := by decide +kernel
theorem dL_law_366 : decode cL_law 366 = .ok (.aload_n 0, 1) := by decide +kernel
theorem dL_law_367 : decode cL_law 367 = .ok (.iload_n 3, 1) := by decide +kernel
theorem dL_law_368 : decode cL_law 368 = .ok (.iconst 1, 1) := by decide +kernel
theorem dL_law_369 : decode cL_law 369 = .ok (.iadd, 1) := by decide +kernel
theorem dL_law_370 : decode cL_law 370 = .ok (.iaload, 1) := by decide +kernel
theorem dL_law_371 : decode cL_law 371 = .ok (.i2l, 1) := by decide +kernel
theorem dL_law_372 : decode cL_law 372 = .ok (.bipush 32, 2) := by decide +kernel
theorem dL_law_374 : decode cL_law 374 = .ok (.lshl, 1) := by decide +kernel
theorem dL_law_375 : decode cL_law 375 = .ok (.aload_n 0, 1) := by decide +kernel
theorem dL_law_376 : decode cL_law 376 = .ok (.iload_n 3, 1) := by decide +kernel
theorem dL_law_377 : decode cL_law 377 = .ok (.iconst 2, 1) := by decide +kernel
theorem dL_law_378 : decode cL_law 378 = .ok (.iadd, 1) := by decide +kernel
theorem dL_law_379 : decode cL_law 379 = .ok (.iaload, 1) := by decide +kernel
theorem dL_law_380 : decode cL_law 380 = .ok (.i2l, 1) := by decide +kernel
theorem dL_law_381 : decode cL_law 381 = .ok (.ldc2_w 35, 3) := by decide +kernel
theorem dL_law_384 : decode cL_law 384 = .ok (.land, 1) := by decide +kernel
theorem dL_law_385 : decode cL_law 385 = .ok (.lor, 1) := by decide +kernel
theorem dL_law_386 : decode cL_law 386 = .ok (.aload_n 0, 1) := by decide +kernel
theorem dL_law_387 : decode cL_law 387 = .ok (.iload_n 3, 1) := by decide +kernel
theorem dL_law_388 : decode cL_law 388 = .ok (.iconst 3, 1) := by decide +kernel
theorem dL_law_389 : decode cL_law 389 = .ok (.iadd, 1) := by decide +kernel
theorem dL_law_390 : decode cL_law 390 = .ok (.iaload, 1) := by decide +kernel
theorem dL_law_391 : decode cL_law 391 = .ok (.invokevirtual 37, 3) := by decide +kernel
theorem dL_law_394 : decode cL_law 394 = .ok (.aload_n 2, 1) := by decide +kernel
theorem dL_law_395 : decode cL_law 395 = .ok (.aload_n 0, 1) := by decide +kernel
theorem dL_law_396 : decode cL_law 396 = .ok (.iload_n 3, 1) := by decide +kernel
theorem dL_law_397 : decode cL_law 397 = .ok (.iconst 1, 1) := by decide +kernel
theorem dL_law_398 : decode cL_law 398 = .ok (.iadd, 1) := by decide +kernel
theorem dL_law_399 : decode cL_law 399 = .ok (.iaload, 1) := by decide +kernel
theorem dL_law_400 : decode cL_law 400 = .ok (.i2l, 1) := by decide +kernel
theorem dL_law_401 : decode cL_law 401 = .ok (.bipush 32, 2) := by decide +kernel
theorem dL_law_403 : decode cL_law 403 = .ok (.lshl, 1) := by decide +kernel
theorem dL_law_404 : decode cL_law 404 = .ok (.aload_n 0, 1) := by decide +kernel
theorem dL_law_405 : decode cL_law 405 = .ok (.iload_n 3, 1) := by decide +kernel
theorem dL_law_406 : decode cL_law 406 = .ok (.iconst 2, 1) := by decide +kernel
theorem dL_law_407 : decode cL_law 407 = .ok (.iadd, 1) := by decide +kernel
theorem dL_law_408 : decode cL_law 408 = .ok (.iaload, 1) := by decide +kernel
theorem dL_law_409 : decode cL_law 409 = .ok (.i2l, 1) := by decide +kernel
theorem dL_law_410 : decode cL_law 410 = .ok (.ldc2_w 35, 3) := by decide +kernel
theorem dL_law_413 : decode cL_law 413 = .ok (.land, 1) := by decide +kernel
theorem dL_law_414 : decode cL_law 414 = .ok (.lor, 1) := by decide +kernel
theorem dL_law_415 : decode cL_law 415 = .ok (.aload_n 0, 1) := by decide +kernel
theorem dL_law_416 : decode cL_law 416 = .ok (.iload_n 3, 1) := by decide +kernel
theorem dL_law_417 : decode cL_law 417 = .ok (.iconst 3, 1) := by decide +kernel
theorem dL_law_418 : decode cL_law 418 = .ok (.iadd, 1) := by decide +kernel
theorem dL_law_419 : decode cL_law 419 = .ok (.iaload, 1) := by decide +kernel
theorem dL_law_420 : decode cL_law 420 = .ok (.invokevirtual 41, 3) := by decide +kernel
theorem dL_law_423 : decode cL_law 423 = .ok (.if_icmp .eq 863, 3) := by decide +kernel
theorem dL_law_426 : decode cL_law 426 = .ok (.iconst 0, 1) := by decide +kernel
theorem dL_law_427 : decode cL_law 427 = .ok (.ireturn, 1) := by decide +kernel
theorem dL_law_428 : decode cL_law 428 = .ok (.aload_n 1, 1) := by decide +kernel
theorem dL_law_429 : decode cL_law 429 = .ok (.invokevirtual 42, 3) := by decide +kernel
theorem dL_law_432 : decode cL_law 432 = .ok (.aload_n 2, 1) := by decide +kernel
theorem dL_law_433 : decode cL_law 433 = .ok (.invokevirtual 46, 3) := by decide +kernel
theorem dL_law_436 : decode cL_law 436 = .ok (.if_icmp .eq 850, 3) := by decide +kernel
theorem dL_law_439 : decode cL_law 439 = .ok (.iconst 0, 1) := by decide +kernel
theorem dL_law_440 : decode cL_law 440 = .ok (.ireturn, 1) := by decide +kernel
theorem dL_law_441 : decode cL_law 441 = .ok (.aload_n 1, 1) := by decide +kernel
theorem dL_law_442 : decode cL_law 442 = .ok (.aload_n 0, 1) := by decide +kernel
theorem dL_law_443 : decode cL_law 443 = .ok (.iload_n 3, 1) := by decide +kernel
theorem dL_law_444 : decode cL_law 444 = .ok (.iconst 1, 1) := by decide +kernel
theorem dL_law_445 : decode cL_law 445 = .ok (.iadd, 1) := by decide +kernel
theorem dL_law_446 : decode cL_law 446 = .ok (.iaload, 1) := by decide +kernel
theorem dL_law_447 : decode cL_law 447 = .ok (.aload_n 0, 1) := by decide +kernel
theorem dL_law_448 : decode cL_law 448 = .ok (.iload_n 3, 1) := by decide +kernel
theorem dL_law_449 : decode cL_law 449 = .ok (.iconst 2, 1) := by decide +kernel
theorem dL_law_450 : decode cL_law 450 = .ok (.iadd, 1) := by decide +kernel
theorem dL_law_451 : decode cL_law 451 = .ok (.iaload, 1) := by decide +kernel
theorem dL_law_452 : decode cL_law 452 = .ok (.invokevirtual 47, 3) := by decide +kernel
theorem dL_law_455 : decode cL_law 455 = .ok (.aload_n 2, 1) := by decide +kernel
theorem dL_law_456 : decode cL_law 456 = .ok (.aload_n 0, 1) := by decide +kernel
theorem dL_law_457 : decode cL_law 457 = .ok (.iload_n 3, 1) := by decide +kernel
theorem dL_law_458 : decode cL_law 458 = .ok (.iconst 1, 1) := by decide +kernel
theorem dL_law_459 : decode cL_law 459 = .ok (.iadd, 1) := by decide +kernel
theorem dL_law_460 : decode cL_law 460 = .ok (.iaload, 1) := by decide +kernel
theorem dL_law_461 : decode cL_law 461 = .ok (.aload_n 0, 1) := by decide +kernel
theorem dL_law_462 : decode cL_law 462 = .ok (.iload_n 3, 1) := by decide +kernel
theorem dL_law_463 : decode cL_law 463 = .ok (.iconst 2, 1) := by decide +kernel
theorem dL_law_464 : decode cL_law 464 = .ok (.iadd, 1) := by decide +kernel
theorem dL_law_465 : decode cL_law 465 = .ok (.iaload, 1) := by decide +kernel
theorem dL_law_466 : decode cL_law 466 = .ok (.invokevirtual 50, 3) := by decide +kernel
theorem dL_law_469 : decode cL_law 469 = .ok (.if_icmp .eq 817, 3) := by decide +kernel
theorem dL_law_472 : decode cL_law 472 = .ok (.iconst 0, 1) := by decide +kernel
theorem dL_law_473 : decode cL_law 473 = .ok (.ireturn, 1) := by decide +kernel
theorem dL_law_474 : decode cL_law 474 = .ok (.aload_n 1, 1) := by decide +kernel
theorem dL_law_475 : decode cL_law 475 = .ok (.aload_n 0, 1) := by decide +kernel
theorem dL_law_476 : decode cL_law 476 = .ok (.iload_n 3, 1) := by decide +kernel
theorem dL_law_477 : decode cL_law 477 = .ok (.iconst 1, 1) := by decide +kernel
theorem dL_law_478 : decode cL_law 478 = .ok (.iadd, 1) := by decide +kernel
theorem dL_law_479 : decode cL_law 479 = .ok (.iaload, 1) := by decide +kernel
theorem dL_law_480 : decode cL_law 480 = .ok (.aload_n 0, 1) := by decide +kernel
theorem dL_law_481 : decode cL_law 481 = .ok (.iload_n 3, 1) := by decide +kernel
theorem dL_law_482 : decode cL_law 482 = .ok (.iconst 2, 1) := by decide +kernel
theorem dL_law_483 : decode cL_law 483 = .ok (.iadd, 1) := by decide +kernel
theorem dL_law_484 : decode cL_law 484 = .ok (.iaload, 1) := by decide +kernel
theorem dL_law_485 : decode cL_law 485 = .ok (.invokevirtual 51, 3) := by decide +kernel
theorem dL_law_488 : decode cL_law 488 = .ok (.aload_n 2, 1) := by decide +kernel
theorem dL_law_489 : decode cL_law 489 = .ok (.aload_n 0, 1) := by decide +kernel
theorem dL_law_490 : decode cL_law 490 = .ok (.iload_n 3, 1) := by decide +kernel
theorem dL_law_491 : decode cL_law 491 = .ok (.iconst 1, 1) := by decide +kernel
theorem dL_law_492 : decode cL_law 492 = .ok (.iadd, 1) := by decide +kernel
theorem dL_law_493 : decode cL_law 493 = .ok (.iaload, 1) := by decide +kernel
theorem dL_law_494 : decode cL_law 494 = .ok (.aload_n 0, 1) := by decide +kernel
theorem dL_law_495 : decode cL_law 495 = .ok (.iload_n 3, 1) := by decide +kernel
theorem dL_law_496 : decode cL_law 496 = .ok (.iconst 2, 1) := by decide +kernel
theorem dL_law_497 : decode cL_law 497 = .ok (.iadd, 1) := by decide +kernel
theorem dL_law_498 : decode cL_law 498 = .ok (.iaload, 1) := by decide +kernel
theorem dL_law_499 : decode cL_law 499 = .ok (.invokevirtual 54, 3) := by decide +kernel
theorem dL_law_502 : decode cL_law 502 = .ok (.if_icmp .eq 784, 3) := by decide +kernel
theorem dL_law_505 : decode cL_law 505 = .ok (.iconst 0, 1) := by decide +kernel
theorem dL_law_506 : decode cL_law 506 = .ok (.ireturn, 1) := by decide +kernel
theorem dL_law_507 : decode cL_law 507 = .ok (.aload_n 1, 1) := by decide +kernel
theorem dL_law_508 : decode cL_law 508 = .ok (.aload_n 0, 1) := by decide +kernel
theorem dL_law_509 : decode cL_law 509 = .ok (.iload_n 3, 1) := by decide +kernel
theorem dL_law_510 : decode cL_law 510 = .ok (.iconst 1, 1) := by decide +kernel
theorem dL_law_511 : decode cL_law 511 = .ok (.iadd, 1) := by decide +kernel
theorem dL_law_512 : decode cL_law 512 = .ok (.iaload, 1) := by decide +kernel
theorem dL_law_513 : decode cL_law 513 = .ok (.aload_n 0, 1) := by decide +kernel
theorem dL_law_514 : decode cL_law 514 = .ok (.iload_n 3, 1) := by decide +kernel
theorem dL_law_515 : decode cL_law 515 = .ok (.iconst 2, 1) := by decide +kernel
theorem dL_law_516 : decode cL_law 516 = .ok (.iadd, 1) := by decide +kernel
theorem dL_law_517 : decode cL_law 517 = .ok (.iaload, 1) := by decide +kernel
theorem dL_law_518 : decode cL_law 518 = .ok (.invokevirtual 55, 3) := by decide +kernel
theorem dL_law_521 : decode cL_law 521 = .ok (.aload_n 2, 1) := by decide +kernel
theorem dL_law_522 : decode cL_law 522 = .ok (.aload_n 0, 1) := by decide +kernel
theorem dL_law_523 : decode cL_law 523 = .ok (.iload_n 3, 1) := by decide +kernel
theorem dL_law_524 : decode cL_law 524 = .ok (.iconst 1, 1) := by decide +kernel
theorem dL_law_525 : decode cL_law 525 = .ok (.iadd, 1) := by decide +kernel
theorem dL_law_526 : decode cL_law 526 = .ok (.iaload, 1) := by decide +kernel
theorem dL_law_527 : decode cL_law 527 = .ok (.aload_n 0, 1) := by decide +kernel
theorem dL_law_528 : decode cL_law 528 = .ok (.iload_n 3, 1) := by decide +kernel
theorem dL_law_529 : decode cL_law 529 = .ok (.iconst 2, 1) := by decide +kernel
theorem dL_law_530 : decode cL_law 530 = .ok (.iadd, 1) := by decide +kernel
theorem dL_law_531 : decode cL_law 531 = .ok (.iaload, 1) := by decide +kernel
theorem dL_law_532 : decode cL_law 532 = .ok (.invokevirtual 58, 3) := by decide +kernel
theorem dL_law_535 : decode cL_law 535 = .ok (.if_icmp .eq 751, 3) := by decide +kernel
theorem dL_law_538 : decode cL_law 538 = .ok (.iconst 0, 1) := by decide +kernel
theorem dL_law_539 : decode cL_law 539 = .ok (.ireturn, 1) := by decide +kernel
theorem dL_law_540 : decode cL_law 540 = .ok (.aload_n 1, 1) := by decide +kernel
theorem dL_law_541 : decode cL_law 541 = .ok (.aload_n 0, 1) := by decide +kernel
theorem dL_law_542 : decode cL_law 542 = .ok (.iload_n 3, 1) := by decide +kernel
theorem dL_law_543 : decode cL_law 543 = .ok (.iconst 1, 1) := by decide +kernel
theorem dL_law_544 : decode cL_law 544 = .ok (.iadd, 1) := by decide +kernel
theorem dL_law_545 : decode cL_law 545 = .ok (.iaload, 1) := by decide +kernel
theorem dL_law_546 : decode cL_law 546 = .ok (.aload_n 0, 1) := by decide +kernel
theorem dL_law_547 : decode cL_law 547 = .ok (.iload_n 3, 1) := by decide +kernel
theorem dL_law_548 : decode cL_law 548 = .ok (.iconst 2, 1) := by decide +kernel
theorem dL_law_549 : decode cL_law 549 = .ok (.iadd, 1) := by decide +kernel
theorem dL_law_550 : decode cL_law 550 = .ok (.iaload, 1) := by decide +kernel
theorem dL_law_551 : decode cL_law 551 = .ok (.aload_n 0, 1) := by decide +kernel
theorem dL_law_552 : decode cL_law 552 = .ok (.iload_n 3, 1) := by decide +kernel
theorem dL_law_553 : decode cL_law 553 = .ok (.iconst 3, 1) := by decide +kernel
theorem dL_law_554 : decode cL_law 554 = .ok (.iadd, 1) := by decide +kernel
theorem dL_law_555 : decode cL_law 555 = .ok (.iaload, 1) := by decide +kernel
theorem dL_law_556 : decode cL_law 556 = .ok (.invokevirtual 59, 3) := by decide +kernel
theorem dL_law_559 : decode cL_law 559 = .ok (.aload_n 2, 1) := by decide +kernel
theorem dL_law_560 : decode cL_law 560 = .ok (.aload_n 0, 1) := by decide +kernel
theorem dL_law_561 : decode cL_law 561 = .ok (.iload_n 3, 1) := by decide +kernel
theorem dL_law_562 : decode cL_law 562 = .ok (.iconst 1, 1) := by decide +kernel
theorem dL_law_563 : decode cL_law 563 = .ok (.iadd, 1) := by decide +kernel
theorem dL_law_564 : decode cL_law 564 = .ok (.iaload, 1) := by decide +kernel
theorem dL_law_565 : decode cL_law 565 = .ok (.aload_n 0, 1) := by decide +kernel
theorem dL_law_566 : decode cL_law 566 = .ok (.iload_n 3, 1) := by decide +kernel
theorem dL_law_567 : decode cL_law 567 = .ok (.iconst 2, 1) := by decide +kernel
theorem dL_law_568 : decode cL_law 568 = .ok (.iadd, 1) := by decide +kernel
theorem dL_law_569 : decode cL_law 569 = .ok (.iaload, 1) := by decide +kernel
theorem dL_law_570 : decode cL_law 570 = .ok (.aload_n 0, 1) := by decide +kernel
theorem dL_law_571 : decode cL_law 571 = .ok (.iload_n 3, 1) := by decide +kernel
theorem dL_law_572 : decode cL_law 572 = .ok (.iconst 3, 1) := by decide +kernel
theorem dL_law_573 : decode cL_law 573 = .ok (.iadd, 1) := by decide +kernel
theorem dL_law_574 : decode cL_law 574 = .ok (.iaload, 1) := by decide +kernel
theorem dL_law_575 : decode cL_law 575 = .ok (.invokevirtual 62, 3) := by decide +kernel
theorem dL_law_578 : decode cL_law 578 = .ok (.if_icmp .eq 708, 3) := by decide +kernel
theorem dL_law_581 : decode cL_law 581 = .ok (.iconst 0, 1) := by decide +kernel
theorem dL_law_582 : decode cL_law 582 = .ok (.ireturn, 1) := by decide +kernel
theorem dL_law_583 : decode cL_law 583 = .ok (.aload_n 1, 1) := by decide +kernel
theorem dL_law_584 : decode cL_law 584 = .ok (.aload_n 0, 1) := by decide +kernel
theorem dL_law_585 : decode cL_law 585 = .ok (.iload_n 3, 1) := by decide +kernel
theorem dL_law_586 : decode cL_law 586 = .ok (.iconst 1, 1) := by decide +kernel
theorem dL_law_587 : decode cL_law 587 = .ok (.iadd, 1) := by decide +kernel
theorem dL_law_588 : decode cL_law 588 = .ok (.iaload, 1) := by decide +kernel
theorem dL_law_589 : decode cL_law 589 = .ok (.aload_n 0, 1) := by decide +kernel
theorem dL_law_590 : decode cL_law 590 = .ok (.iload_n 3, 1) := by decide +kernel
theorem dL_law_591 : decode cL_law 591 = .ok (.iconst 2, 1) := by decide +kernel
theorem dL_law_592 : decode cL_law 592 = .ok (.iadd, 1) := by decide +kernel
theorem dL_law_593 : decode cL_law 593 = .ok (.iaload, 1) := by decide +kernel
theorem dL_law_594 : decode cL_law 594 = .ok (.aload_n 0, 1) := by decide +kernel
theorem dL_law_595 : decode cL_law 595 = .ok (.iload_n 3, 1) := by decide +kernel
theorem dL_law_596 : decode cL_law 596 = .ok (.iconst 3, 1) := by decide +kernel
theorem dL_law_597 : decode cL_law 597 = .ok (.iadd, 1) := by decide +kernel
theorem dL_law_598 : decode cL_law 598 = .ok (.iaload, 1) := by decide +kernel
theorem dL_law_599 : decode cL_law 599 = .ok (.aload_n 0, 1) := by decide +kernel
theorem dL_law_600 : decode cL_law 600 = .ok (.iload_n 3, 1) := by decide +kernel
theorem dL_law_601 : decode cL_law 601 = .ok (.iconst 4, 1) := by decide +kernel
theorem dL_law_602 : decode cL_law 602 = .ok (.iadd, 1) := by decide +kernel
theorem dL_law_603 : decode cL_law 603 = .ok (.iaload, 1) := by decide +kernel
theorem dL_law_604 : decode cL_law 604 = .ok (.invokevirtual 63, 3) := by decide +kernel
theorem dL_law_607 : decode cL_law 607 = .ok (.aload_n 2, 1) := by decide +kernel
theorem dL_law_608 : decode cL_law 608 = .ok (.aload_n 0, 1) := by decide +kernel
theorem dL_law_609 : decode cL_law 609 = .ok (.iload_n 3, 1) := by decide +kernel
theorem dL_law_610 : decode cL_law 610 = .ok (.iconst 1, 1) := by decide +kernel
theorem dL_law_611 : decode cL_law 611 = .ok (.iadd, 1) := by decide +kernel
theorem dL_law_612 : decode cL_law 612 = .ok (.iaload, 1) := by decide +kernel
theorem dL_law_613 : decode cL_law 613 = .ok (.aload_n 0, 1) := by decide +kernel
theorem dL_law_614 : decode cL_law 614 = .ok (.iload_n 3, 1) := by decide +kernel
theorem dL_law_615 : decode cL_law 615 = .ok (.iconst 2, 1) := by decide +kernel
theorem dL_law_616 : decode cL_law 616 = .ok (.iadd, 1) := by decide +kernel
theorem dL_law_617 : decode cL_law 617 = .ok (.iaload, 1) := by decide +kernel
theorem dL_law_618 : decode cL_law 618 = .ok (.aload_n 0, 1) := by decide +kernel
theorem dL_law_619 : decode cL_law 619 = .ok (.iload_n 3, 1) := by decide +kernel
theorem dL_law_620 : decode cL_law 620 = .ok (.iconst 3, 1) := by decide +kernel
theorem dL_law_621 : decode cL_law 621 = .ok (.iadd, 1) := by decide +kernel
theorem dL_law_622 : decode cL_law 622 = .ok (.iaload, 1) := by decide +kernel
theorem dL_law_623 : decode cL_law 623 = .ok (.aload_n 0, 1) := by decide +kernel
theorem dL_law_624 : decode cL_law 624 = .ok (.iload_n 3, 1) := by decide +kernel
theorem dL_law_625 : decode cL_law 625 = .ok (.iconst 4, 1) := by decide +kernel
theorem dL_law_626 : decode cL_law 626 = .ok (.iadd, 1) := by decide +kernel
theorem dL_law_627 : decode cL_law 627 = .ok (.iaload, 1) := by decide +kernel
theorem dL_law_628 : decode cL_law 628 = .ok (.invokevirtual 67, 3) := by decide +kernel
theorem dL_law_631 : decode cL_law 631 = .ok (.if_icmp .eq 655, 3) := by decide +kernel
theorem dL_law_634 : decode cL_law 634 = .ok (.iconst 0, 1) := by decide +kernel
theorem dL_law_635 : decode cL_law 635 = .ok (.ireturn, 1) := by decide +kernel
theorem dL_law_636 : decode cL_law 636 = .ok (.aload_n 1, 1) := by decide +kernel
theorem dL_law_637 : decode cL_law 637 = .ok (.aload_n 0, 1) := by decide +kernel
theorem dL_law_638 : decode cL_law 638 = .ok (.iload_n 3, 1) := by decide +kernel
theorem dL_law_639 : decode cL_law 639 = .ok (.iconst 1, 1) := by decide +kernel
theorem dL_law_640 : decode cL_law 640 = .ok (.iadd, 1) := by decide +kernel
theorem dL_law_641 : decode cL_law 641 = .ok (.iaload, 1) := by decide +kernel
theorem dL_law_642 : decode cL_law 642 = .ok (.aload_n 0, 1) := by decide +kernel
theorem dL_law_643 : decode cL_law 643 = .ok (.iload_n 3, 1) := by decide +kernel
theorem dL_law_644 : decode cL_law 644 = .ok (.iconst 2, 1) := by decide +kernel
theorem dL_law_645 : decode cL_law 645 = .ok (.iadd, 1) := by decide +kernel
theorem dL_law_646 : decode cL_law 646 = .ok (.iaload, 1) := by decide +kernel
theorem dL_law_647 : decode cL_law 647 = .ok (.aload_n 0, 1) := by decide +kernel
theorem dL_law_648 : decode cL_law 648 = .ok (.iload_n 3, 1) := by decide +kernel
theorem dL_law_649 : decode cL_law 649 = .ok (.iconst 3, 1) := by decide +kernel
theorem dL_law_650 : decode cL_law 650 = .ok (.iadd, 1) := by decide +kernel
theorem dL_law_651 : decode cL_law 651 = .ok (.iaload, 1) := by decide +kernel
theorem dL_law_652 : decode cL_law 652 = .ok (.aload_n 0, 1) := by decide +kernel
theorem dL_law_653 : decode cL_law 653 = .ok (.iload_n 3, 1) := by decide +kernel
theorem dL_law_654 : decode cL_law 654 = .ok (.iconst 4, 1) := by decide +kernel
theorem dL_law_655 : decode cL_law 655 = .ok (.iadd, 1) := by decide +kernel
theorem dL_law_656 : decode cL_law 656 = .ok (.iaload, 1) := by decide +kernel
theorem dL_law_657 : decode cL_law 657 = .ok (.invokevirtual 68, 3) := by decide +kernel
theorem dL_law_660 : decode cL_law 660 = .ok (.aload_n 2, 1) := by decide +kernel
theorem dL_law_661 : decode cL_law 661 = .ok (.aload_n 0, 1) := by decide +kernel
theorem dL_law_662 : decode cL_law 662 = .ok (.iload_n 3, 1) := by decide +kernel
theorem dL_law_663 : decode cL_law 663 = .ok (.iconst 1, 1) := by decide +kernel
theorem dL_law_664 : decode cL_law 664 = .ok (.iadd, 1) := by decide +kernel
theorem dL_law_665 : decode cL_law 665 = .ok (.iaload, 1) := by decide +kernel
theorem dL_law_666 : decode cL_law 666 = .ok (.aload_n 0, 1) := by decide +kernel
theorem dL_law_667 : decode cL_law 667 = .ok (.iload_n 3, 1) := by decide +kernel
theorem dL_law_668 : decode cL_law 668 = .ok (.iconst 2, 1) := by decide +kernel
theorem dL_law_669 : decode cL_law 669 = .ok (.iadd, 1) := by decide +kernel
theorem dL_law_670 : decode cL_law 670 = .ok (.iaload, 1) := by decide +kernel
theorem dL_law_671 : decode cL_law 671 = .ok (.aload_n 0, 1) := by decide +kernel
theorem dL_law_672 : decode cL_law 672 = .ok (.iload_n 3, 1) := by decide +kernel
theorem dL_law_673 : decode cL_law 673 = .ok (.iconst 3, 1) := by decide +kernel
theorem dL_law_674 : decode cL_law 674 = .ok (.iadd, 1) := by decide +kernel
theorem dL_law_675 : decode cL_law 675 = .ok (.iaload, 1) := by decide +kernel
theorem dL_law_676 : decode cL_law 676 = .ok (.aload_n 0, 1) := by decide +kernel
theorem dL_law_677 : decode cL_law 677 = .ok (.iload_n 3, 1) := by decide +kernel
theorem dL_law_678 : decode cL_law 678 = .ok (.iconst 4, 1) := by decide +kernel
theorem dL_law_679 : decode cL_law 679 = .ok (.iadd, 1) := by decide +kernel
theorem dL_law_680 : decode cL_law 680 = .ok (.iaload, 1) := by decide +kernel
theorem dL_law_681 : decode cL_law 681 = .ok (.invokevirtual 72, 3) := by decide +kernel
theorem dL_law_684 : decode cL_law 684 = .ok (.lcmp, 1) := by decide +kernel
theorem dL_law_685 : decode cL_law 685 = .ok (.ifCond .eq 601, 3) := by decide +kernel
theorem dL_law_688 : decode cL_law 688 = .ok (.iconst 0, 1) := by decide +kernel
theorem dL_law_689 : decode cL_law 689 = .ok (.ireturn, 1) := by decide +kernel
theorem dL_law_690 : decode cL_law 690 = .ok (.aload_n 1, 1) := by decide +kernel
theorem dL_law_691 : decode cL_law 691 = .ok (.aload_n 0, 1) := by decide +kernel
theorem dL_law_692 : decode cL_law 692 = .ok (.iload_n 3, 1) := by decide +kernel
theorem dL_law_693 : decode cL_law 693 = .ok (.iconst 1, 1) := by decide +kernel
theorem dL_law_694 : decode cL_law 694 = .ok (.iadd, 1) := by decide +kernel
theorem dL_law_695 : decode cL_law 695 = .ok (.iaload, 1) := by decide +kernel
theorem dL_law_696 : decode cL_law 696 = .ok (.aload_n 0, 1) := by decide +kernel
theorem dL_law_697 : decode cL_law 697 = .ok (.iload_n 3, 1) := by decide +kernel
theorem dL_law_698 : decode cL_law 698 = .ok (.iconst 2, 1) := by decide +kernel
theorem dL_law_699 : decode cL_law 699 = .ok (.iadd, 1) := by decide +kernel
theorem dL_law_700 : decode cL_law 700 = .ok (.iaload, 1) := by decide +kernel
theorem dL_law_701 : decode cL_law 701 = .ok (.aload_n 0, 1) := by decide +kernel
theorem dL_law_702 : decode cL_law 702 = .ok (.iload_n 3, 1) := by decide +kernel
theorem dL_law_703 : decode cL_law 703 = .ok (.iconst 3, 1) := by decide +kernel
theorem dL_law_704 : decode cL_law 704 = .ok (.iadd, 1) := by decide +kernel
theorem dL_law_705 : decode cL_law 705 = .ok (.iaload, 1) := by decide +kernel
theorem dL_law_706 : decode cL_law 706 = .ok (.invokevirtual 73, 3) := by decide +kernel
theorem dL_law_709 : decode cL_law 709 = .ok (.aload_n 2, 1) := by decide +kernel
theorem dL_law_710 : decode cL_law 710 = .ok (.aload_n 0, 1) := by decide +kernel
theorem dL_law_711 : decode cL_law 711 = .ok (.iload_n 3, 1) := by decide +kernel
theorem dL_law_712 : decode cL_law 712 = .ok (.iconst 1, 1) := by decide +kernel
theorem dL_law_713 : decode cL_law 713 = .ok (.iadd, 1) := by decide +kernel
theorem dL_law_714 : decode cL_law 714 = .ok (.iaload, 1) := by decide +kernel
theorem dL_law_715 : decode cL_law 715 = .ok (.aload_n 0, 1) := by decide +kernel
theorem dL_law_716 : decode cL_law 716 = .ok (.iload_n 3, 1) := by decide +kernel
theorem dL_law_717 : decode cL_law 717 = .ok (.iconst 2, 1) := by decide +kernel
theorem dL_law_718 : decode cL_law 718 = .ok (.iadd, 1) := by decide +kernel
theorem dL_law_719 : decode cL_law 719 = .ok (.iaload, 1) := by decide +kernel
theorem dL_law_720 : decode cL_law 720 = .ok (.aload_n 0, 1) := by decide +kernel
theorem dL_law_721 : decode cL_law 721 = .ok (.iload_n 3, 1) := by decide +kernel
theorem dL_law_722 : decode cL_law 722 = .ok (.iconst 3, 1) := by decide +kernel
theorem dL_law_723 : decode cL_law 723 = .ok (.iadd, 1) := by decide +kernel
theorem dL_law_724 : decode cL_law 724 = .ok (.iaload, 1) := by decide +kernel
theorem dL_law_725 : decode cL_law 725 = .ok (.invokevirtual 76, 3) := by decide +kernel
theorem dL_law_728 : decode cL_law 728 = .ok (.if_icmp .eq 558, 3) := by decide +kernel
theorem dL_law_731 : decode cL_law 731 = .ok (.iconst 0, 1) := by decide +kernel
theorem dL_law_732 : decode cL_law 732 = .ok (.ireturn, 1) := by decide +kernel
theorem dL_law_733 : decode cL_law 733 = .ok (.aload_n 1, 1) := by decide +kernel
theorem dL_law_734 : decode cL_law 734 = .ok (.aload_n 0, 1) := by decide +kernel
theorem dL_law_735 : decode cL_law 735 = .ok (.iload_n 3, 1) := by decide +kernel
theorem dL_law_736 : decode cL_law 736 = .ok (.iconst 1, 1) := by decide +kernel
theorem dL_law_737 : decode cL_law 737 = .ok (.iadd, 1) := by decide +kernel
theorem dL_law_738 : decode cL_law 738 = .ok (.iaload, 1) := by decide +kernel
theorem dL_law_739 : decode cL_law 739 = .ok (.invokevirtual 77, 3) := by decide +kernel
theorem dL_law_742 : decode cL_law 742 = .ok (.aload_n 2, 1) := by decide +kernel
theorem dL_law_743 : decode cL_law 743 = .ok (.aload_n 0, 1) := by decide +kernel
theorem dL_law_744 : decode cL_law 744 = .ok (.iload_n 3, 1) := by decide +kernel
theorem dL_law_745 : decode cL_law 745 = .ok (.iconst 1, 1) := by decide +kernel
theorem dL_law_746 : decode cL_law 746 = .ok (.iadd, 1) := by decide +kernel
theorem dL_law_747 : decode cL_law 747 = .ok (.iaload, 1) := by decide +kernel
theorem dL_law_748 : decode cL_law 748 = .ok (.invokevirtual 81, 3) := by decide +kernel
theorem dL_law_751 : decode cL_law 751 = .ok (.if_icmp .eq 535, 3) := by decide +kernel
theorem dL_law_754 : decode cL_law 754 = .ok (.iconst 0, 1) := by decide +kernel
theorem dL_law_755 : decode cL_law 755 = .ok (.ireturn, 1) := by decide +kernel
theorem dL_law_756 : decode cL_law 756 = .ok (.aload_n 1, 1) := by decide +kernel
theorem dL_law_757 : decode cL_law 757 = .ok (.aload_n 0, 1) := by decide +kernel
theorem dL_law_758 : decode cL_law 758 = .ok (.iload_n 3, 1) := by decide +kernel
theorem dL_law_759 : decode cL_law 759 = .ok (.iconst 1, 1) := by decide +kernel
theorem dL_law_760 : decode cL_law 760 = .ok (.iadd, 1) := by decide +kernel
theorem dL_law_761 : decode cL_law 761 = .ok (.iaload, 1) := by decide +kernel
theorem dL_law_762 : decode cL_law 762 = .ok (.aload_n 0, 1) := by decide +kernel
theorem dL_law_763 : decode cL_law 763 = .ok (.iload_n 3, 1) := by decide +kernel
theorem dL_law_764 : decode cL_law 764 = .ok (.iconst 2, 1) := by decide +kernel
theorem dL_law_765 : decode cL_law 765 = .ok (.iadd, 1) := by decide +kernel
theorem dL_law_766 : decode cL_law 766 = .ok (.iaload, 1) := by decide +kernel
theorem dL_law_767 : decode cL_law 767 = .ok (.aload_n 0, 1) := by decide +kernel
theorem dL_law_768 : decode cL_law 768 = .ok (.iload_n 3, 1) := by decide +kernel
theorem dL_law_769 : decode cL_law 769 = .ok (.iconst 3, 1) := by decide +kernel
theorem dL_law_770 : decode cL_law 770 = .ok (.iadd, 1) := by decide +kernel
theorem dL_law_771 : decode cL_law 771 = .ok (.iaload, 1) := by decide +kernel
theorem dL_law_772 : decode cL_law 772 = .ok (.invokevirtual 82, 3) := by decide +kernel
theorem dL_law_775 : decode cL_law 775 = .ok (.aload_n 2, 1) := by decide +kernel
theorem dL_law_776 : decode cL_law 776 = .ok (.aload_n 0, 1) := by decide +kernel
theorem dL_law_777 : decode cL_law 777 = .ok (.iload_n 3, 1) := by decide +kernel
theorem dL_law_778 : decode cL_law 778 = .ok (.iconst 1, 1) := by decide +kernel
theorem dL_law_779 : decode cL_law 779 = .ok (.iadd, 1) := by decide +kernel
theorem dL_law_780 : decode cL_law 780 = .ok (.iaload, 1) := by decide +kernel
theorem dL_law_781 : decode cL_law 781 = .ok (.aload_n 0, 1) := by decide +kernel
theorem dL_law_782 : decode cL_law 782 = .ok (.iload_n 3, 1) := by decide +kernel
theorem dL_law_783 : decode cL_law 783 = .ok (.iconst 2, 1) := by decide +kernel
theorem dL_law_784 : decode cL_law 784 = .ok (.iadd, 1) := by decide +kernel
theorem dL_law_785 : decode cL_law 785 = .ok (.iaload, 1) := by decide +kernel
theorem dL_law_786 : decode cL_law 786 = .ok (.aload_n 0, 1) := by decide +kernel
theorem dL_law_787 : decode cL_law 787 = .ok (.iload_n 3, 1) := by decide +kernel
theorem dL_law_788 : decode cL_law 788 = .ok (.iconst 3, 1) := by decide +kernel
theorem dL_law_789 : decode cL_law 789 = .ok (.iadd, 1) := by decide +kernel
theorem dL_law_790 : decode cL_law 790 = .ok (.iaload, 1) := by decide +kernel
theorem dL_law_791 : decode cL_law 791 = .ok (.invokevirtual 85, 3) := by decide +kernel
theorem dL_law_794 : decode cL_law 794 = .ok (.if_icmp .eq 492, 3) := by decide +kernel
theorem dL_law_797 : decode cL_law 797 = .ok (.iconst 0, 1) := by decide +kernel
theorem dL_law_798 : decode cL_law 798 = .ok (.ireturn, 1) := by decide +kernel
theorem dL_law_799 : decode cL_law 799 = .ok (.aload_n 1, 1) := by decide +kernel
theorem dL_law_800 : decode cL_law 800 = .ok (.aload_n 0, 1) := by decide +kernel
theorem dL_law_801 : decode cL_law 801 = .ok (.iload_n 3, 1) := by decide +kernel
theorem dL_law_802 : decode cL_law 802 = .ok (.iconst 1, 1) := by decide +kernel
theorem dL_law_803 : decode cL_law 803 = .ok (.iadd, 1) := by decide +kernel
theorem dL_law_804 : decode cL_law 804 = .ok (.iaload, 1) := by decide +kernel
theorem dL_law_805 : decode cL_law 805 = .ok (.invokevirtual 86, 3) := by decide +kernel
theorem dL_law_808 : decode cL_law 808 = .ok (.aload_n 2, 1) := by decide +kernel
theorem dL_law_809 : decode cL_law 809 = .ok (.aload_n 0, 1) := by decide +kernel
theorem dL_law_810 : decode cL_law 810 = .ok (.iload_n 3, 1) := by decide +kernel
theorem dL_law_811 : decode cL_law 811 = .ok (.iconst 1, 1) := by decide +kernel
theorem dL_law_812 : decode cL_law 812 = .ok (.iadd, 1) := by decide +kernel
theorem dL_law_813 : decode cL_law 813 = .ok (.iaload, 1) := by decide +kernel
theorem dL_law_814 : decode cL_law 814 = .ok (.invokevirtual 89, 3) := by decide +kernel
theorem dL_law_817 : decode cL_law 817 = .ok (.if_icmp .eq 469, 3) := by decide +kernel
theorem dL_law_820 : decode cL_law 820 = .ok (.iconst 0, 1) := by decide +kernel
theorem dL_law_821 : decode cL_law 821 = .ok (.ireturn, 1) := by decide +kernel
theorem dL_law_822 : decode cL_law 822 = .ok (.aload_n 1, 1) := by decide +kernel
theorem dL_law_823 : decode cL_law 823 = .ok (.aload_n 0, 1) := by decide +kernel
theorem dL_law_824 : decode cL_law 824 = .ok (.iload_n 3, 1) := by decide +kernel
theorem dL_law_825 : decode cL_law 825 = .ok (.iconst 1, 1) := by decide +kernel
theorem dL_law_826 : decode cL_law 826 = .ok (.iadd, 1) := by decide +kernel
theorem dL_law_827 : decode cL_law 827 = .ok (.iaload, 1) := by decide +kernel
theorem dL_law_828 : decode cL_law 828 = .ok (.invokevirtual 90, 3) := by decide +kernel
theorem dL_law_831 : decode cL_law 831 = .ok (.aload_n 2, 1) := by decide +kernel
theorem dL_law_832 : decode cL_law 832 = .ok (.aload_n 0, 1) := by decide +kernel
theorem dL_law_833 : decode cL_law 833 = .ok (.iload_n 3, 1) := by decide +kernel
theorem dL_law_834 : decode cL_law 834 = .ok (.iconst 1, 1) := by decide +kernel
theorem dL_law_835 : decode cL_law 835 = .ok (.iadd, 1) := by decide +kernel
theorem dL_law_836 : decode cL_law 836 = .ok (.iaload, 1) := by decide +kernel
theorem dL_law_837 : decode cL_law 837 = .ok (.invokevirtual 93, 3) := by decide +kernel
theorem dL_law_840 : decode cL_law 840 = .ok (.if_icmp .eq 446, 3) := by decide +kernel
theorem dL_law_843 : decode cL_law 843 = .ok (.iconst 0, 1) := by decide +kernel
theorem dL_law_844 : decode cL_law 844 = .ok (.ireturn, 1) := by decide +kernel
theorem dL_law_845 : decode cL_law 845 = .ok (.aload_n 1, 1) := by decide +kernel
theorem dL_law_846 : decode cL_law 846 = .ok (.aload_n 0, 1) := by decide +kernel
theorem dL_law_847 : decode cL_law 847 = .ok (.iload_n 3, 1) := by decide +kernel
theorem dL_law_848 : decode cL_law 848 = .ok (.iconst 1, 1) := by decide +kernel
theorem dL_law_849 : decode cL_law 849 = .ok (.iadd, 1) := by decide +kernel
theorem dL_law_850 : decode cL_law 850 = .ok (.iaload, 1) := by decide +kernel
theorem dL_law_851 : decode cL_law 851 = .ok (.aload_n 0, 1) := by decide +kernel
theorem dL_law_852 : decode cL_law 852 = .ok (.iload_n 3, 1) := by decide +kernel
theorem dL_law_853 : decode cL_law 853 = .ok (.iconst 2, 1) := by decide +kernel
theorem dL_law_854 : decode cL_law 854 = .ok (.iadd, 1) := by decide +kernel
theorem dL_law_855 : decode cL_law 855 = .ok (.iaload, 1) := by decide +kernel
theorem dL_law_856 : decode cL_law 856 = .ok (.aload_n 0, 1) := by decide +kernel
theorem dL_law_857 : decode cL_law 857 = .ok (.iload_n 3, 1) := by decide +kernel
theorem dL_law_858 : decode cL_law 858 = .ok (.iconst 3, 1) := by decide +kernel
theorem dL_law_859 : decode cL_law 859 = .ok (.iadd, 1) := by decide +kernel
theorem dL_law_860 : decode cL_law 860 = .ok (.iaload, 1) := by decide +kernel
theorem dL_law_861 : decode cL_law 861 = .ok (.ifCond .eq 7, 3) := by decide +kernel
theorem dL_law_864 : decode cL_law 864 = .ok (.iconst 1, 1) := by decide +kernel
theorem dL_law_865 : decode cL_law 865 = .ok (.goto 4, 3) := by decide +kernel
theorem dL_law_868 : decode cL_law 868 = .ok (.iconst 0, 1) := by decide +kernel
theorem dL_law_869 : decode cL_law 869 = .ok (.invokevirtual 94, 3) := by decide +kernel
theorem dL_law_872 : decode cL_law 872 = .ok (.aload_n 2, 1) := by decide +kernel
theorem dL_law_873 : decode cL_law 873 = .ok (.aload_n 0, 1) := by decide +kernel
theorem dL_law_874 : decode cL_law 874 = .ok (.iload_n 3, 1) := by decide +kernel
theorem dL_law_875 : decode cL_law 875 = .ok (.iconst 1, 1) := by decide +kernel
theorem dL_law_876 : decode cL_law 876 = .ok (.iadd, 1) := by decide +kernel
theorem dL_law_877 : decode cL_law 877 = .ok (.iaload, 1) := by decide +kernel
theorem dL_law_878 : decode cL_law 878 = .ok (.aload_n 0, 1) := by decide +kernel
theorem dL_law_879 : decode cL_law 879 = .ok (.iload_n 3, 1) := by decide +kernel
theorem dL_law_880 : decode cL_law 880 = .ok (.iconst 2, 1) := by decide +kernel
theorem dL_law_881 : decode cL_law 881 = .ok (.iadd, 1) := by decide +kernel
theorem dL_law_882 : decode cL_law 882 = .ok (.iaload, 1) := by decide +kernel
theorem dL_law_883 : decode cL_law 883 = .ok (.aload_n 0, 1) := by decide +kernel
theorem dL_law_884 : decode cL_law 884 = .ok (.iload_n 3, 1) := by decide +kernel
theorem dL_law_885 : decode cL_law 885 = .ok (.iconst 3, 1) := by decide +kernel
theorem dL_law_886 : decode cL_law 886 = .ok (.iadd, 1) := by decide +kernel
theorem dL_law_887 : decode cL_law 887 = .ok (.iaload, 1) := by decide +kernel
theorem dL_law_888 : decode cL_law 888 = .ok (.ifCond .eq 7, 3) := by decide +kernel
theorem dL_law_891 : decode cL_law 891 = .ok (.iconst 1, 1) := by decide +kernel
theorem dL_law_892 : decode cL_law 892 = .ok (.goto 4, 3) := by decide +kernel
theorem dL_law_895 : decode cL_law 895 = .ok (.iconst 0, 1) := by decide +kernel
theorem dL_law_896 : decode cL_law 896 = .ok (.invokevirtual 98, 3) := by decide +kernel
theorem dL_law_899 : decode cL_law 899 = .ok (.if_icmp .eq 387, 3) := by decide +kernel
theorem dL_law_902 : decode cL_law 902 = .ok (.iconst 0, 1) := by decide +kernel
theorem dL_law_903 : decode cL_law 903 = .ok (.ireturn, 1) := by decide +kernel
theorem dL_law_904 : decode cL_law 904 = .ok (.aload_n 1, 1) := by decide +kernel
theorem dL_law_905 : decode cL_law 905 = .ok (.aload_n 0, 1) := by decide +kernel
theorem dL_law_906 : decode cL_law 906 = .ok (.iload_n 3, 1) := by decide +kernel
theorem dL_law_907 : decode cL_law 907 = .ok (.iconst 1, 1) := by decide +kernel
theorem dL_law_908 : decode cL_law 908 = .ok (.iadd, 1) := by decide +kernel
theorem dL_law_909 : decode cL_law 909 = .ok (.iaload, 1) := by decide +kernel
theorem dL_law_910 : decode cL_law 910 = .ok (.aload_n 0, 1) := by decide +kernel
theorem dL_law_911 : decode cL_law 911 = .ok (.iload_n 3, 1) := by decide +kernel
theorem dL_law_912 : decode cL_law 912 = .ok (.iconst 2, 1) := by decide +kernel
theorem dL_law_913 : decode cL_law 913 = .ok (.iadd, 1) := by decide +kernel
theorem dL_law_914 : decode cL_law 914 = .ok (.iaload, 1) := by decide +kernel
theorem dL_law_915 : decode cL_law 915 = .ok (.aload_n 0, 1) := by decide +kernel
theorem dL_law_916 : decode cL_law 916 = .ok (.iload_n 3, 1) := by decide +kernel
theorem dL_law_917 : decode cL_law 917 = .ok (.iconst 3, 1) := by decide +kernel
theorem dL_law_918 : decode cL_law 918 = .ok (.iadd, 1) := by decide +kernel
theorem dL_law_919 : decode cL_law 919 = .ok (.iaload, 1) := by decide +kernel
theorem dL_law_920 : decode cL_law 920 = .ok (.invokevirtual 99, 3) := by decide +kernel
theorem dL_law_923 : decode cL_law 923 = .ok (.aload_n 2, 1) := by decide +kernel
theorem dL_law_924 : decode cL_law 924 = .ok (.aload_n 0, 1) := by decide +kernel
theorem dL_law_925 : decode cL_law 925 = .ok (.iload_n 3, 1) := by decide +kernel
theorem dL_law_926 : decode cL_law 926 = .ok (.iconst 1, 1) := by decide +kernel
theorem dL_law_927 : decode cL_law 927 = .ok (.iadd, 1) := by decide +kernel
theorem dL_law_928 : decode cL_law 928 = .ok (.iaload, 1) := by decide +kernel
theorem dL_law_929 : decode cL_law 929 = .ok (.aload_n 0, 1) := by decide +kernel
theorem dL_law_930 : decode cL_law 930 = .ok (.iload_n 3, 1) := by decide +kernel
theorem dL_law_931 : decode cL_law 931 = .ok (.iconst 2, 1) := by decide +kernel
theorem dL_law_932 : decode cL_law 932 = .ok (.iadd, 1) := by decide +kernel
theorem dL_law_933 : decode cL_law 933 = .ok (.iaload, 1) := by decide +kernel
theorem dL_law_934 : decode cL_law 934 = .ok (.aload_n 0, 1) := by decide +kernel
theorem dL_law_935 : decode cL_law 935 = .ok (.iload_n 3, 1) := by decide +kernel
theorem dL_law_936 : decode cL_law 936 = .ok (.iconst 3, 1) := by decide +kernel
theorem dL_law_937 : decode cL_law 937 = .ok (.iadd, 1) := by decide +kernel
theorem dL_law_938 : decode cL_law 938 = .ok (.iaload, 1) := by decide +kernel
theorem dL_law_939 : decode cL_law 939 = .ok (.invokevirtual 102, 3) := by decide +kernel
theorem dL_law_942 : decode cL_law 942 = .ok (.if_icmp .eq 344, 3) := by decide +kernel
theorem dL_law_945 : decode cL_law 945 = .ok (.iconst 0, 1) := by decide +kernel
theorem dL_law_946 : decode cL_law 946 = .ok (.ireturn, 1) := by decide +kernel
theorem dL_law_947 : decode cL_law 947 = .ok (.aload_n 1, 1) := by decide +kernel
theorem dL_law_948 : decode cL_law 948 = .ok (.aload_n 0, 1) := by decide +kernel
theorem dL_law_949 : decode cL_law 949 = .ok (.iload_n 3, 1) := by decide +kernel
theorem dL_law_950 : decode cL_law 950 = .ok (.iconst 1, 1) := by decide +kernel
theorem dL_law_951 : decode cL_law 951 = .ok (.iadd, 1) := by decide +kernel
theorem dL_law_952 : decode cL_law 952 = .ok (.iaload, 1) := by decide +kernel
theorem dL_law_953 : decode cL_law 953 = .ok (.invokevirtual 103, 3) := by decide +kernel
theorem dL_law_956 : decode cL_law 956 = .ok (.aload_n 2, 1) := by decide +kernel
theorem dL_law_957 : decode cL_law 957 = .ok (.aload_n 0, 1) := by decide +kernel
theorem dL_law_958 : decode cL_law 958 = .ok (.iload_n 3, 1) := by decide +kernel
theorem dL_law_959 : decode cL_law 959 = .ok (.iconst 1, 1) := by decide +kernel
theorem dL_law_960 : decode cL_law 960 = .ok (.iadd, 1) := by decide +kernel
theorem dL_law_961 : decode cL_law 961 = .ok (.iaload, 1) := by decide +kernel
theorem dL_law_962 : decode cL_law 962 = .ok (.invokevirtual 106, 3) := by decide +kernel
theorem dL_law_965 : decode cL_law 965 = .ok (.if_icmp .eq 321, 3) := by decide +kernel
theorem dL_law_968 : decode cL_law 968 = .ok (.iconst 0, 1) := by decide +kernel
theorem dL_law_969 : decode cL_law 969 = .ok (.ireturn, 1) := by decide +kernel
theorem dL_law_970 : decode cL_law 970 = .ok (.aload_n 1, 1) := by decide +kernel
theorem dL_law_971 : decode cL_law 971 = .ok (.aload_n 0, 1) := by decide +kernel
theorem dL_law_972 : decode cL_law 972 = .ok (.iload_n 3, 1) := by decide +kernel
theorem dL_law_973 : decode cL_law 973 = .ok (.iconst 1, 1) := by decide +kernel
theorem dL_law_974 : decode cL_law 974 = .ok (.iadd, 1) := by decide +kernel
theorem dL_law_975 : decode cL_law 975 = .ok (.iaload, 1) := by decide +kernel
theorem dL_law_976 : decode cL_law 976 = .ok (.invokevirtual 107, 3) := by decide +kernel
theorem dL_law_979 : decode cL_law 979 = .ok (.aload_n 2, 1) := by decide +kernel
theorem dL_law_980 : decode cL_law 980 = .ok (.aload_n 0, 1) := by decide +kernel
theorem dL_law_981 : decode cL_law 981 = .ok (.iload_n 3, 1) := by decide +kernel
theorem dL_law_982 : decode cL_law 982 = .ok (.iconst 1, 1) := by decide +kernel
theorem dL_law_983 : decode cL_law 983 = .ok (.iadd, 1) := by decide +kernel
theorem dL_law_984 : decode cL_law 984 = .ok (.iaload, 1) := by decide +kernel
theorem dL_law_985 : decode cL_law 985 = .ok (.invokevirtual 110, 3) := by decide +kernel
theorem dL_law_988 : decode cL_law 988 = .ok (.if_icmp .eq 298, 3) := by decide +kernel
theorem dL_law_991 : decode cL_law 991 = .ok (.iconst 0, 1) := by decide +kernel
theorem dL_law_992 : decode cL_law 992 = .ok (.ireturn, 1) := by decide +kernel
theorem dL_law_993 : decode cL_law 993 = .ok (.aload_n 1, 1) := by decide +kernel
theorem dL_law_994 : decode cL_law 994 = .ok (.invokevirtual 111, 3) := by decide +kernel
theorem dL_law_997 : decode cL_law 997 = .ok (.aload_n 2, 1) := by decide +kernel
theorem dL_law_998 : decode cL_law 998 = .ok (.invokevirtual 114, 3) := by decide +kernel
theorem dL_law_1001 : decode cL_law 1001 = .ok (.if_icmp .eq 285, 3) := by decide +kernel
theorem dL_law_1004 : decode cL_law 1004 = .ok (.iconst 0, 1) := by decide +kernel
theorem dL_law_1005 : decode cL_law 1005 = .ok (.ireturn, 1) := by decide +kernel
theorem dL_law_1006 : decode cL_law 1006 = .ok (.aload_n 1, 1) := by decide +kernel
theorem dL_law_1007 : decode cL_law 1007 = .ok (.aload_n 0, 1) := by decide +kernel
theorem dL_law_1008 : decode cL_law 1008 = .ok (.iload_n 3, 1) := by decide +kernel
theorem dL_law_1009 : decode cL_law 1009 = .ok (.iconst 1, 1) := by decide +kernel
theorem dL_law_1010 : decode cL_law 1010 = .ok (.iadd, 1) := by decide +kernel
theorem dL_law_1011 : decode cL_law 1011 = .ok (.iaload, 1) := by decide +kernel
theorem dL_law_1012 : decode cL_law 1012 = .ok (.invokevirtual 115, 3) := by decide +kernel
theorem dL_law_1015 : decode cL_law 1015 = .ok (.aload_n 2, 1) := by decide +kernel
theorem dL_law_1016 : decode cL_law 1016 = .ok (.aload_n 0, 1) := by decide +kernel
theorem dL_law_1017 : decode cL_law 1017 = .ok (.iload_n 3, 1) := by decide +kernel
theorem dL_law_1018 : decode cL_law 1018 = .ok (.iconst 1, 1) := by decide +kernel
theorem dL_law_1019 : decode cL_law 1019 = .ok (.iadd, 1) := by decide +kernel
theorem dL_law_1020 : decode cL_law 1020 = .ok (.iaload, 1) := by decide +kernel
theorem dL_law_1021 : decode cL_law 1021 = .ok (.invokevirtual 118, 3) := by decide +kernel
theorem dL_law_1024 : decode cL_law 1024 = .ok (.if_icmp .eq 262, 3) := by decide +kernel
theorem dL_law_1027 : decode cL_law 1027 = .ok (.iconst 0, 1) := by decide +kernel
theorem dL_law_1028 : decode cL_law 1028 = .ok (.ireturn, 1) := by decide +kernel
theorem dL_law_1029 : decode cL_law 1029 = .ok (.aload_n 1, 1) := by decide +kernel
theorem dL_law_1030 : decode cL_law 1030 = .ok (.aload_n 0, 1) := by decide +kernel
theorem dL_law_1031 : decode cL_law 1031 = .ok (.iload_n 3, 1) := by decide +kernel
theorem dL_law_1032 : decode cL_law 1032 = .ok (.iconst 1, 1) := by decide +kernel
theorem dL_law_1033 : decode cL_law 1033 = .ok (.iadd, 1) := by decide +kernel
theorem dL_law_1034 : decode cL_law 1034 = .ok (.iaload, 1) := by decide +kernel
theorem dL_law_1035 : decode cL_law 1035 = .ok (.aload_n 0, 1) := by decide +kernel
theorem dL_law_1036 : decode cL_law 1036 = .ok (.iload_n 3, 1) := by decide +kernel
theorem dL_law_1037 : decode cL_law 1037 = .ok (.iconst 2, 1) := by decide +kernel
theorem dL_law_1038 : decode cL_law 1038 = .ok (.iadd, 1) := by decide +kernel
theorem dL_law_1039 : decode cL_law 1039 = .ok (.iaload, 1) := by decide +kernel
theorem dL_law_1040 : decode cL_law 1040 = .ok (.invokevirtual 119, 3) := by decide +kernel
theorem dL_law_1043 : decode cL_law 1043 = .ok (.aload_n 2, 1) := by decide +kernel
theorem dL_law_1044 : decode cL_law 1044 = .ok (.aload_n 0, 1) := by decide +kernel
theorem dL_law_1045 : decode cL_law 1045 = .ok (.iload_n 3, 1) := by decide +kernel
theorem dL_law_1046 : decode cL_law 1046 = .ok (.iconst 1, 1) := by decide +kernel
theorem dL_law_1047 : decode cL_law 1047 = .ok (.iadd, 1) := by decide +kernel
theorem dL_law_1048 : decode cL_law 1048 = .ok (.iaload, 1) := by decide +kernel
theorem dL_law_1049 : decode cL_law 1049 = .ok (.aload_n 0, 1) := by decide +kernel
theorem dL_law_1050 : decode cL_law 1050 = .ok (.iload_n 3, 1) := by decide +kernel
theorem dL_law_1051 : decode cL_law 1051 = .ok (.iconst 2, 1) := by decide +kernel
theorem dL_law_1052 : decode cL_law 1052 = .ok (.iadd, 1) := by decide +kernel
theorem dL_law_1053 : decode cL_law 1053 = .ok (.iaload, 1) := by decide +kernel
theorem dL_law_1054 : decode cL_law 1054 = .ok (.invokevirtual 122, 3) := by decide +kernel
theorem dL_law_1057 : decode cL_law 1057 = .ok (.if_icmp .eq 229, 3) := by decide +kernel
theorem dL_law_1060 : decode cL_law 1060 = .ok (.iconst 0, 1) := by decide +kernel
theorem dL_law_1061 : decode cL_law 1061 = .ok (.ireturn, 1) := by decide +kernel
theorem dL_law_1062 : decode cL_law 1062 = .ok (.aload_n 1, 1) := by decide +kernel
theorem dL_law_1063 : decode cL_law 1063 = .ok (.aload_n 0, 1) := by decide +kernel
theorem dL_law_1064 : decode cL_law 1064 = .ok (.iload_n 3, 1) := by decide +kernel
theorem dL_law_1065 : decode cL_law 1065 = .ok (.iconst 1, 1) := by decide +kernel
theorem dL_law_1066 : decode cL_law 1066 = .ok (.iadd, 1) := by decide +kernel
theorem dL_law_1067 : decode cL_law 1067 = .ok (.iaload, 1) := by decide +kernel
theorem dL_law_1068 : decode cL_law 1068 = .ok (.invokevirtual 123, 3) := by decide +kernel
theorem dL_law_1071 : decode cL_law 1071 = .ok (.aload_n 2, 1) := by decide +kernel
theorem dL_law_1072 : decode cL_law 1072 = .ok (.aload_n 0, 1) := by decide +kernel
theorem dL_law_1073 : decode cL_law 1073 = .ok (.iload_n 3, 1) := by decide +kernel
theorem dL_law_1074 : decode cL_law 1074 = .ok (.iconst 1, 1) := by decide +kernel
theorem dL_law_1075 : decode cL_law 1075 = .ok (.iadd, 1) := by decide +kernel
theorem dL_law_1076 : decode cL_law 1076 = .ok (.iaload, 1) := by decide +kernel
theorem dL_law_1077 : decode cL_law 1077 = .ok (.invokevirtual 126, 3) := by decide +kernel
theorem dL_law_1080 : decode cL_law 1080 = .ok (.if_icmp .eq 206, 3) := by decide +kernel
theorem dL_law_1083 : decode cL_law 1083 = .ok (.iconst 0, 1) := by decide +kernel
theorem dL_law_1084 : decode cL_law 1084 = .ok (.ireturn, 1) := by decide +kernel
theorem dL_law_1085 : decode cL_law 1085 = .ok (.aload_n 1, 1) := by decide +kernel
theorem dL_law_1086 : decode cL_law 1086 = .ok (.aload_n 0, 1) := by decide +kernel
theorem dL_law_1087 : decode cL_law 1087 = .ok (.iload_n 3, 1) := by decide +kernel
theorem dL_law_1088 : decode cL_law 1088 = .ok (.iconst 1, 1) := by decide +kernel
theorem dL_law_1089 : decode cL_law 1089 = .ok (.iadd, 1) := by decide +kernel
theorem dL_law_1090 : decode cL_law 1090 = .ok (.iaload, 1) := by decide +kernel
theorem dL_law_1091 : decode cL_law 1091 = .ok (.aload_n 0, 1) := by decide +kernel
theorem dL_law_1092 : decode cL_law 1092 = .ok (.iload_n 3, 1) := by decide +kernel
theorem dL_law_1093 : decode cL_law 1093 = .ok (.iconst 2, 1) := by decide +kernel
theorem dL_law_1094 : decode cL_law 1094 = .ok (.iadd, 1) := by decide +kernel
theorem dL_law_1095 : decode cL_law 1095 = .ok (.iaload, 1) := by decide +kernel
theorem dL_law_1096 : decode cL_law 1096 = .ok (.aload_n 0, 1) := by decide +kernel
theorem dL_law_1097 : decode cL_law 1097 = .ok (.iload_n 3, 1) := by decide +kernel
theorem dL_law_1098 : decode cL_law 1098 = .ok (.iconst 3, 1) := by decide +kernel
theorem dL_law_1099 : decode cL_law 1099 = .ok (.iadd, 1) := by decide +kernel
theorem dL_law_1100 : decode cL_law 1100 = .ok (.iaload, 1) := by decide +kernel
theorem dL_law_1101 : decode cL_law 1101 = .ok (.aload_n 0, 1) := by decide +kernel
theorem dL_law_1102 : decode cL_law 1102 = .ok (.iload_n 3, 1) := by decide +kernel
theorem dL_law_1103 : decode cL_law 1103 = .ok (.iconst 4, 1) := by decide +kernel
theorem dL_law_1104 : decode cL_law 1104 = .ok (.iadd, 1) := by decide +kernel
theorem dL_law_1105 : decode cL_law 1105 = .ok (.iaload, 1) := by decide +kernel
theorem dL_law_1106 : decode cL_law 1106 = .ok (.invokevirtual 127, 3) := by decide +kernel
theorem dL_law_1109 : decode cL_law 1109 = .ok (.aload_n 2, 1) := by decide +kernel
theorem dL_law_1110 : decode cL_law 1110 = .ok (.aload_n 0, 1) := by decide +kernel
theorem dL_law_1111 : decode cL_law 1111 = .ok (.iload_n 3, 1) := by decide +kernel
theorem dL_law_1112 : decode cL_law 1112 = .ok (.iconst 1, 1) := by decide +kernel
theorem dL_law_1113 : decode cL_law 1113 = .ok (.iadd, 1) := by decide +kernel
theorem dL_law_1114 : decode cL_law 1114 = .ok (.iaload, 1) := by decide +kernel
theorem dL_law_1115 : decode cL_law 1115 = .ok (.aload_n 0, 1) := by decide +kernel
theorem dL_law_1116 : decode cL_law 1116 = .ok (.iload_n 3, 1) := by decide +kernel
theorem dL_law_1117 : decode cL_law 1117 = .ok (.iconst 2, 1) := by decide +kernel
theorem dL_law_1118 : decode cL_law 1118 = .ok (.iadd, 1) := by decide +kernel
theorem dL_law_1119 : decode cL_law 1119 = .ok (.iaload, 1) := by decide +kernel
theorem dL_law_1120 : decode cL_law 1120 = .ok (.aload_n 0, 1) := by decide +kernel
theorem dL_law_1121 : decode cL_law 1121 = .ok (.iload_n 3, 1) := by decide +kernel
theorem dL_law_1122 : decode cL_law 1122 = .ok (.iconst 3, 1) := by decide +kernel
theorem dL_law_1123 : decode cL_law 1123 = .ok (.iadd, 1) := by decide +kernel
theorem dL_law_1124 : decode cL_law 1124 = .ok (.iaload, 1) := by decide +kernel
theorem dL_law_1125 : decode cL_law 1125 = .ok (.aload_n 0, 1) := by decide +kernel
theorem dL_law_1126 : decode cL_law 1126 = .ok (.iload_n 3, 1) := by decide +kernel
theorem dL_law_1127 : decode cL_law 1127 = .ok (.iconst 4, 1) := by decide +kernel
theorem dL_law_1128 : decode cL_law 1128 = .ok (.iadd, 1) := by decide +kernel
theorem dL_law_1129 : decode cL_law 1129 = .ok (.iaload, 1) := by decide +kernel
theorem dL_law_1130 : decode cL_law 1130 = .ok (.invokevirtual 130, 3) := by decide +kernel
theorem dL_law_1133 : decode cL_law 1133 = .ok (.if_icmp .eq 153, 3) := by decide +kernel
theorem dL_law_1136 : decode cL_law 1136 = .ok (.iconst 0, 1) := by decide +kernel
theorem dL_law_1137 : decode cL_law 1137 = .ok (.ireturn, 1) := by decide +kernel
theorem dL_law_1138 : decode cL_law 1138 = .ok (.aload_n 1, 1) := by decide +kernel
theorem dL_law_1139 : decode cL_law 1139 = .ok (.aload_n 0, 1) := by decide +kernel
theorem dL_law_1140 : decode cL_law 1140 = .ok (.iload_n 3, 1) := by decide +kernel
theorem dL_law_1141 : decode cL_law 1141 = .ok (.iconst 1, 1) := by decide +kernel
theorem dL_law_1142 : decode cL_law 1142 = .ok (.iadd, 1) := by decide +kernel
theorem dL_law_1143 : decode cL_law 1143 = .ok (.iaload, 1) := by decide +kernel
theorem dL_law_1144 : decode cL_law 1144 = .ok (.aload_n 0, 1) := by decide +kernel
theorem dL_law_1145 : decode cL_law 1145 = .ok (.iload_n 3, 1) := by decide +kernel
theorem dL_law_1146 : decode cL_law 1146 = .ok (.iconst 2, 1) := by decide +kernel
theorem dL_law_1147 : decode cL_law 1147 = .ok (.iadd, 1) := by decide +kernel
theorem dL_law_1148 : decode cL_law 1148 = .ok (.iaload, 1) := by decide +kernel
theorem dL_law_1149 : decode cL_law 1149 = .ok (.aload_n 0, 1) := by decide +kernel
theorem dL_law_1150 : decode cL_law 1150 = .ok (.iload_n 3, 1) := by decide +kernel
theorem dL_law_1151 : decode cL_law 1151 = .ok (.iconst 3, 1) := by decide +kernel
theorem dL_law_1152 : decode cL_law 1152 = .ok (.iadd, 1) := by decide +kernel
theorem dL_law_1153 : decode cL_law 1153 = .ok (.iaload, 1) := by decide +kernel
theorem dL_law_1154 : decode cL_law 1154 = .ok (.invokevirtual 131, 3) := by decide +kernel
theorem dL_law_1157 : decode cL_law 1157 = .ok (.aload_n 2, 1) := by decide +kernel
theorem dL_law_1158 : decode cL_law 1158 = .ok (.aload_n 0, 1) := by decide +kernel
theorem dL_law_1159 : decode cL_law 1159 = .ok (.iload_n 3, 1) := by decide +kernel
theorem dL_law_1160 : decode cL_law 1160 = .ok (.iconst 1, 1) := by decide +kernel
theorem dL_law_1161 : decode cL_law 1161 = .ok (.iadd, 1) := by decide +kernel
theorem dL_law_1162 : decode cL_law 1162 = .ok (.iaload, 1) := by decide +kernel
theorem dL_law_1163 : decode cL_law 1163 = .ok (.aload_n 0, 1) := by decide +kernel
theorem dL_law_1164 : decode cL_law 1164 = .ok (.iload_n 3, 1) := by decide +kernel
theorem dL_law_1165 : decode cL_law 1165 = .ok (.iconst 2, 1) := by decide +kernel
theorem dL_law_1166 : decode cL_law 1166 = .ok (.iadd, 1) := by decide +kernel
theorem dL_law_1167 : decode cL_law 1167 = .ok (.iaload, 1) := by decide +kernel
theorem dL_law_1168 : decode cL_law 1168 = .ok (.aload_n 0, 1) := by decide +kernel
theorem dL_law_1169 : decode cL_law 1169 = .ok (.iload_n 3, 1) := by decide +kernel
theorem dL_law_1170 : decode cL_law 1170 = .ok (.iconst 3, 1) := by decide +kernel
theorem dL_law_1171 : decode cL_law 1171 = .ok (.iadd, 1) := by decide +kernel
theorem dL_law_1172 : decode cL_law 1172 = .ok (.iaload, 1) := by decide +kernel
theorem dL_law_1173 : decode cL_law 1173 = .ok (.invokevirtual 134, 3) := by decide +kernel
theorem dL_law_1176 : decode cL_law 1176 = .ok (.if_icmp .eq 110, 3) := by decide +kernel
theorem dL_law_1179 : decode cL_law 1179 = .ok (.iconst 0, 1) := by decide +kernel
theorem dL_law_1180 : decode cL_law 1180 = .ok (.ireturn, 1) := by decide +kernel
theorem dL_law_1181 : decode cL_law 1181 = .ok (.aload_n 1, 1) := by decide +kernel
theorem dL_law_1182 : decode cL_law 1182 = .ok (.aload_n 0, 1) := by decide +kernel
theorem dL_law_1183 : decode cL_law 1183 = .ok (.iload_n 3, 1) := by decide +kernel
theorem dL_law_1184 : decode cL_law 1184 = .ok (.iconst 1, 1) := by decide +kernel
theorem dL_law_1185 : decode cL_law 1185 = .ok (.iadd, 1) := by decide +kernel
theorem dL_law_1186 : decode cL_law 1186 = .ok (.iaload, 1) := by decide +kernel
theorem dL_law_1187 : decode cL_law 1187 = .ok (.invokevirtual 135, 3) := by decide +kernel
theorem dL_law_1190 : decode cL_law 1190 = .ok (.aload_n 2, 1) := by decide +kernel
theorem dL_law_1191 : decode cL_law 1191 = .ok (.aload_n 0, 1) := by decide +kernel
theorem dL_law_1192 : decode cL_law 1192 = .ok (.iload_n 3, 1) := by decide +kernel
theorem dL_law_1193 : decode cL_law 1193 = .ok (.iconst 1, 1) := by decide +kernel
theorem dL_law_1194 : decode cL_law 1194 = .ok (.iadd, 1) := by decide +kernel
theorem dL_law_1195 : decode cL_law 1195 = .ok (.iaload, 1) := by decide +kernel
theorem dL_law_1196 : decode cL_law 1196 = .ok (.invokevirtual 138, 3) := by decide +kernel
theorem dL_law_1199 : decode cL_law 1199 = .ok (.if_icmp .eq 87, 3) := by decide +kernel
theorem dL_law_1202 : decode cL_law 1202 = .ok (.iconst 0, 1) := by decide +kernel
theorem dL_law_1203 : decode cL_law 1203 = .ok (.ireturn, 1) := by decide +kernel
theorem dL_law_1204 : decode cL_law 1204 = .ok (.aload_n 1, 1) := by decide +kernel
theorem dL_law_1205 : decode cL_law 1205 = .ok (.aload_n 0, 1) := by decide +kernel
theorem dL_law_1206 : decode cL_law 1206 = .ok (.iload_n 3, 1) := by decide +kernel
theorem dL_law_1207 : decode cL_law 1207 = .ok (.iconst 1, 1) := by decide +kernel
theorem dL_law_1208 : decode cL_law 1208 = .ok (.iadd, 1) := by decide +kernel
theorem dL_law_1209 : decode cL_law 1209 = .ok (.iaload, 1) := by decide +kernel
theorem dL_law_1210 : decode cL_law 1210 = .ok (.aload_n 0, 1) := by decide +kernel
theorem dL_law_1211 : decode cL_law 1211 = .ok (.iload_n 3, 1) := by decide +kernel
theorem dL_law_1212 : decode cL_law 1212 = .ok (.iconst 2, 1) := by decide +kernel
theorem dL_law_1213 : decode cL_law 1213 = .ok (.iadd, 1) := by decide +kernel
theorem dL_law_1214 : decode cL_law 1214 = .ok (.iaload, 1) := by decide +kernel
theorem dL_law_1215 : decode cL_law 1215 = .ok (.invokevirtual 139, 3) := by decide +kernel
theorem dL_law_1218 : decode cL_law 1218 = .ok (.aload_n 2, 1) := by decide +kernel
theorem dL_law_1219 : decode cL_law 1219 = .ok (.aload_n 0, 1) := by decide +kernel
theorem dL_law_1220 : decode cL_law 1220 = .ok (.iload_n 3, 1) := by decide +kernel
theorem dL_law_1221 : decode cL_law 1221 = .ok (.iconst 1, 1) := by decide +kernel
theorem dL_law_1222 : decode cL_law 1222 = .ok (.iadd, 1) := by decide +kernel
theorem dL_law_1223 : decode cL_law 1223 = .ok (.iaload, 1) := by decide +kernel
theorem dL_law_1224 : decode cL_law 1224 = .ok (.aload_n 0, 1) := by decide +kernel
theorem dL_law_1225 : decode cL_law 1225 = .ok (.iload_n 3, 1) := by decide +kernel
theorem dL_law_1226 : decode cL_law 1226 = .ok (.iconst 2, 1) := by decide +kernel
theorem dL_law_1227 : decode cL_law 1227 = .ok (.iadd, 1) := by decide +kernel
theorem dL_law_1228 : decode cL_law 1228 = .ok (.iaload, 1) := by decide +kernel
theorem dL_law_1229 : decode cL_law 1229 = .ok (.invokevirtual 142, 3) := by decide +kernel
theorem dL_law_1232 : decode cL_law 1232 = .ok (.if_icmp .eq 54, 3) := by decide +kernel
theorem dL_law_1235 : decode cL_law 1235 = .ok (.iconst 0, 1) := by decide +kernel
theorem dL_law_1236 : decode cL_law 1236 = .ok (.ireturn, 1) := by decide +kernel
theorem dL_law_1237 : decode cL_law 1237 = .ok (.aload_n 1, 1) := by decide +kernel
theorem dL_law_1238 : decode cL_law 1238 = .ok (.invokevirtual 143, 3) := by decide +kernel
theorem dL_law_1241 : decode cL_law 1241 = .ok (.aload_n 2, 1) := by decide +kernel
theorem dL_law_1242 : decode cL_law 1242 = .ok (.invokevirtual 146, 3) := by decide +kernel
theorem dL_law_1245 : decode cL_law 1245 = .ok (.if_icmp .eq 41, 3) := by decide +kernel
theorem dL_law_1248 : decode cL_law 1248 = .ok (.iconst 0, 1) := by decide +kernel
theorem dL_law_1249 : decode cL_law 1249 = .ok (.ireturn, 1) := by decide +kernel
theorem dL_law_1250 : decode cL_law 1250 = .ok (.aload_n 1, 1) := by decide +kernel
theorem dL_law_1251 : decode cL_law 1251 = .ok (.invokevirtual 147, 3) := by decide +kernel
theorem dL_law_1254 : decode cL_law 1254 = .ok (.aload_n 2, 1) := by decide +kernel
theorem dL_law_1255 : decode cL_law 1255 = .ok (.invokevirtual 150, 3) := by decide +kernel
theorem dL_law_1258 : decode cL_law 1258 = .ok (.if_icmp .eq 28, 3) := by decide +kernel
theorem dL_law_1261 : decode cL_law 1261 = .ok (.iconst 0, 1) := by decide +kernel
theorem dL_law_1262 : decode cL_law 1262 = .ok (.ireturn, 1) := by decide +kernel
theorem dL_law_1263 : decode cL_law 1263 = .ok (.aload_n 1, 1) := by decide +kernel
theorem dL_law_1264 : decode cL_law 1264 = .ok (.aload_n 0, 1) := by decide +kernel
theorem dL_law_1265 : decode cL_law 1265 = .ok (.iload_n 3, 1) := by decide +kernel
theorem dL_law_1266 : decode cL_law 1266 = .ok (.iconst 1, 1) := by decide +kernel
theorem dL_law_1267 : decode cL_law 1267 = .ok (.iadd, 1) := by decide +kernel
theorem dL_law_1268 : decode cL_law 1268 = .ok (.iaload, 1) := by decide +kernel
theorem dL_law_1269 : decode cL_law 1269 = .ok (.invokevirtual 151, 3) := by decide +kernel
theorem dL_law_1272 : decode cL_law 1272 = .ok (.aload_n 2, 1) := by decide +kernel
theorem dL_law_1273 : decode cL_law 1273 = .ok (.aload_n 0, 1) := by decide +kernel
theorem dL_law_1274 : decode cL_law 1274 = .ok (.iload_n 3, 1) := by decide +kernel
theorem dL_law_1275 : decode cL_law 1275 = .ok (.iconst 1, 1) := by decide +kernel
theorem dL_law_1276 : decode cL_law 1276 = .ok (.iadd, 1) := by decide +kernel
theorem dL_law_1277 : decode cL_law 1277 = .ok (.iaload, 1) := by decide +kernel
theorem dL_law_1278 : decode cL_law 1278 = .ok (.invokevirtual 154, 3) := by decide +kernel
theorem dL_law_1281 : decode cL_law 1281 = .ok (.if_icmp .eq 5, 3) := by decide +kernel
theorem dL_law_1284 : decode cL_law 1284 = .ok (.iconst 0, 1) := by decide +kernel
theorem dL_law_1285 : decode cL_law 1285 = .ok (.ireturn, 1) := by decide +kernel
theorem dL_law_1286 : decode cL_law 1286 = .ok (.iinc 3 5, 3) := by decide +kernel
theorem dL_law_1289 : decode cL_law 1289 = .ok (.goto (-1271), 3) := by decide +kernel
theorem dL_law_1292 : decode cL_law 1292 = .ok (.iconst 1, 1) := by decide +kernel
theorem dL_law_1293 : decode cL_law 1293 = .ok (.ireturn, 1) := by decide +kernel
abbrev vwCl : List vw_C := [(RX0, TX0, 2), (RX1, TX1, 2), (RX2, TX2, 2), (RX3, TX3, 14), (RX4, TX4, 2), (RX5, TX5, 2), (RX6, TX6, 3), (RX7, TX7, 2), (RX8, TX8, 3), (RX9, TX9, 2), (RX10, TX10, 11), (RX11, TX11, 7), (RX12, TX12, 32)]
