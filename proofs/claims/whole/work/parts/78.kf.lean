/-! the law's start: what stays (printed by mkkf.py) -/
abbrev gvn : Cond := Jvm.Cond.and given_1 narrow_1
def sT (i : Nat) : Term := .string (strTab.getD i ("", 0, "")).1 (strTab.getD i ("", 0, "")).2.1
theorem kf_ex : ∀ i, i < 18 → (flatC gvn)[([114, 122, 131, 147, 155, 165, 178, 191, 203, 216, 230, 248, 267, 287, 305, 328, 352, 377] : List Nat).getD i 0]? = some (Cond.exactly (sT i) "java/lang/String") := by decide +kernel
theorem kf_co : ∀ i, i < 18 → (flatC gvn)[([115, 123, 132, 148, 156, 166, 179, 192, 204, 217, 231, 249, 268, 288, 306, 329, 353, 378] : List Nat).getD i 0]? = some (Cond.eq (.field (sT i) "java/lang/String" "coder" "B") (.int 0)) := by decide +kernel
theorem kf_ar : ∀ i, i < 18 → (flatC gvn)[([116, 124, 133, 149, 157, 167, 180, 193, 205, 218, 232, 250, 269, 289, 307, 330, 354, 379] : List Nat).getD i 0]? = some (Cond.arrayOf (.field (sT i) "java/lang/String" "value" "[B") .byte) := by decide +kernel
theorem kf_le : ∀ i, i < 18 → (flatC gvn)[([117, 125, 134, 150, 158, 168, 181, 194, 206, 219, 233, 251, 270, 290, 308, 331, 355, 380] : List Nat).getD i 0]? = some (Cond.eq (.length (.field (sT i) "java/lang/String" "value" "[B")) (.int (Int32.ofNat (strLen.getD i 0)))) := by decide +kernel
theorem kf_el : ∀ i, i < 18 → ∀ j, j < strLen.getD i 0 → (flatC gvn)[(([[118, 119, 120, 121], [126, 127, 128, 129], [135, 136, 137, 138, 139, 140, 141, 142, 143, 144], [151], [159, 160], [169, 170, 171, 172], [182, 183, 184], [195], [207], [220], [234, 235, 236, 237], [252, 253, 254, 255], [271, 272, 273, 274], [291], [309, 310, 311, 312, 313], [332, 333, 334, 335, 336], [356, 357, 358, 359, 360], [381, 382, 383, 384, 385]] : List (List Nat)).getD i []).getD j 0]? = some (Cond.eq (.elem (.field (sT i) "java/lang/String" "value" "[B") (.int (Int32.ofNat j))) (.int ((strByt.getD i []).getD j 0))) := by decide +kernel
def kfN : List (List Nat) := [[0, 130, 145, 152, 161, 173, 185, 196, 208, 221, 238, 256, 275, 292, 314, 337, 361, 386], [0, 0, 146, 153, 162, 174, 186, 197, 209, 222, 239, 257, 276, 293, 315, 338, 362, 387], [0, 0, 0, 154, 163, 175, 187, 198, 210, 223, 240, 258, 277, 294, 316, 339, 363, 388], [0, 0, 0, 0, 164, 176, 188, 199, 211, 224, 241, 259, 278, 295, 317, 340, 364, 389], [0, 0, 0, 0, 0, 177, 189, 200, 212, 225, 242, 260, 279, 296, 318, 341, 365, 390], [0, 0, 0, 0, 0, 0, 190, 201, 213, 226, 243, 261, 280, 297, 319, 342, 366, 391], [0, 0, 0, 0, 0, 0, 0, 202, 214, 227, 244, 262, 281, 298, 320, 343, 367, 392], [0, 0, 0, 0, 0, 0, 0, 0, 215, 228, 245, 263, 282, 299, 321, 344, 368, 393], [0, 0, 0, 0, 0, 0, 0, 0, 0, 229, 246, 264, 283, 300, 322, 345, 369, 394], [0, 0, 0, 0, 0, 0, 0, 0, 0, 0, 247, 265, 284, 301, 323, 346, 370, 395], [0, 0, 0, 0, 0, 0, 0, 0, 0, 0, 0, 266, 285, 302, 324, 347, 371, 396], [0, 0, 0, 0, 0, 0, 0, 0, 0, 0, 0, 0, 286, 303, 325, 348, 372, 397], [0, 0, 0, 0, 0, 0, 0, 0, 0, 0, 0, 0, 0, 304, 326, 349, 373, 398], [0, 0, 0, 0, 0, 0, 0, 0, 0, 0, 0, 0, 0, 0, 327, 350, 374, 399], [0, 0, 0, 0, 0, 0, 0, 0, 0, 0, 0, 0, 0, 0, 0, 351, 375, 400], [0, 0, 0, 0, 0, 0, 0, 0, 0, 0, 0, 0, 0, 0, 0, 0, 376, 401], [0, 0, 0, 0, 0, 0, 0, 0, 0, 0, 0, 0, 0, 0, 0, 0, 0, 402], [0, 0, 0, 0, 0, 0, 0, 0, 0, 0, 0, 0, 0, 0, 0, 0, 0, 0]]
theorem kf_ne : ∀ i, i < 18 → ∀ j, j < 18 → i ≠ j → (flatC gvn)[(kfN.getD i []).getD j 0]? = some (Cond.not (Cond.eq (sT i) (sT j))) ∨ (flatC gvn)[(kfN.getD j []).getD i 0]? = some (Cond.not (Cond.eq (sT j) (sT i))) := by decide +kernel
theorem kf_nc : ∀ k, k < 33 → (flatC gvn)[([14, 16, 17, 18, 19, 20, 27, 28, 29, 30, 31, 37, 39, 40, 41, 47, 49, 50, 51, 52, 53, 59, 61, 62, 63, 64, 65, 71, 73, 74, 75, 76, 77] : List Nat).getD k 0]? = (ncTab[k]?).map (fun q => Cond.not (Cond.castable q.1 q.2)) := by decide +kernel
theorem kf_sr : ∀ i, i < 18 → tables_1[([300, 357, 370, 372, 385, 390, 391, 396, 397, 398, 399, 400, 401, 402, 1061, 1092, 1097, 1098] : List Nat).getD i 0]? = (strTab[i]?).map (fun q => Cond.stringRef q.1 q.2.1 q.2.2) := by decide +kernel
theorem kf_ca : ∀ i, i < 9 → tables_1[([1349, 1350, 1351, 1352, 1353, 1354, 1355, 1356, 1357] : List Nat).getD i 0]? = (caTab[i]?).map (fun q => Cond.castable q.1 q.2) := by decide +kernel
theorem kf_nt : ∀ i, i < 4 → tables_1[([39, 59, 181, 184] : List Nat).getD i 0]? = (nestTab[i]?).map (fun q => Cond.methodLinkNest q.1 q.2.1 q.2.2 "KingsBalance") := by decide +kernel
theorem aoa_spec {args : Array Value} {s : State} (h : (Cond.arrayOver (.array .int)).before args s = true) : ∃ comp c k, s.vm.classes[c]? = some k ∧ k.kind = .array comp (.array .int) ∧ s.vm.findClass ("[" ++ (FieldType.array .int).toString) = some c := by
  unfold Cond.before at h
  simp only [Cond.holds, Cond.value, beq_iff_eq] at h
  cases hc : s.vm.findClass (FieldType.array .int).toString with
  | none => rw [hc] at h; simp at h
  | some comp =>
    rw [hc, Option.bind_some] at h
    simp only [Option.bind_eq_some_iff, Option.map_eq_some_iff] at h
    obtain ⟨c, -, k, hk, hb⟩ := h
    cases q : k.kind with
    | array c2 ty =>
      rw [q] at hb
      simp at hb
      exact ⟨c2, c, k, hk, by rw [q, hb.1], hb.2⟩
    | _ => rw [q] at hb; simp at hb
set_option maxHeartbeats 4000000 in
theorem kf_start {p : Program} {s : State} {m : MethodId} {meth : Method} {c : Code} {b L : Nat} {xs : Nat → Int32} (C0 : lw_At p s m meth c b L xs) : ∃ g : GP, KF g s s.heap ∧ gb g = s.heap.size := by
  obtain ⟨hx, hb, hr, hml, hown, hts, hX, hbl, hlocks, hgv, -⟩ := C0
  have hT : ∀ w ∈ TT, w.before #[Value.ref b] s = true := fun w hw => hts w (List.mem_filter.mp hw).1
  have ht1 : ∀ (i : Nat) (w : Cond), tables_1[i]? = some w → w.before #[Value.ref b] s = true := fun i w h => hts w (List.mem_append_right _ (List.mem_of_getElem? h))
  have hF0 := flat_of_before gvn hgv
  have hF : ∀ (i : Nat) (w : Cond), (flatC gvn)[i]? = some w → w.before #[Value.ref b] s = true := fun i w h => hF0 w (List.mem_of_getElem? h)

  obtain ⟨c0, i0, k0⟩ := u_known (s := s) (args := #[Value.ref b]) (C := RX0) (T := TX0) (N := 2) (n := 2) hT in_X0 (hT _ w_inst_X0)
  obtain ⟨c1, i1, k1⟩ := u_known (s := s) (args := #[Value.ref b]) (C := RX1) (T := TX1) (N := 2) (n := 2) hT in_X1 (hT _ w_inst_X1)
  obtain ⟨c2, i2, k2⟩ := u_known (s := s) (args := #[Value.ref b]) (C := RX2) (T := TX2) (N := 2) (n := 2) hT in_X2 (hT _ w_inst_X2)
  obtain ⟨c3, i3, k3⟩ := u_known (s := s) (args := #[Value.ref b]) (C := RX3) (T := TX3) (N := 14) (n := 14) hT in_X3 (hT _ w_inst_X3)
  obtain ⟨c4, i4, k4⟩ := u_known (s := s) (args := #[Value.ref b]) (C := RX4) (T := TX4) (N := 2) (n := 2) hT in_X4 (hT _ w_inst_X4)
  obtain ⟨c5, i5, k5⟩ := u_known (s := s) (args := #[Value.ref b]) (C := RX5) (T := TX5) (N := 2) (n := 2) hT in_X5 (hT _ w_inst_X5)
  obtain ⟨c6, i6, k6⟩ := u_known (s := s) (args := #[Value.ref b]) (C := RX6) (T := TX6) (N := 3) (n := 3) hT in_X6 (hT _ w_inst_X6)
  obtain ⟨c7, i7, k7⟩ := u_known (s := s) (args := #[Value.ref b]) (C := RX7) (T := TX7) (N := 2) (n := 2) hT in_X7 (hT _ w_inst_X7)
  obtain ⟨c8, i8, k8⟩ := u_known (s := s) (args := #[Value.ref b]) (C := RX8) (T := TX8) (N := 3) (n := 3) hT in_X8 (hT _ w_inst_X8)
  obtain ⟨c9, i9, k9⟩ := u_known (s := s) (args := #[Value.ref b]) (C := RX9) (T := TX9) (N := 2) (n := 2) hT in_X9 (hT _ w_inst_X9)
  obtain ⟨c10, i10, k10⟩ := u_known (s := s) (args := #[Value.ref b]) (C := RX10) (T := TX10) (N := 11) (n := 11) hT in_X10 (hT _ w_inst_X10)
  obtain ⟨c11, i11, k11⟩ := u_known (s := s) (args := #[Value.ref b]) (C := RX11) (T := TX11) (N := 7) (n := 7) hT in_X11 (hT _ w_inst_X11)
  obtain ⟨c12, i12, k12⟩ := u_known (s := s) (args := #[Value.ref b]) (C := RX12) (T := TX12) (N := 32) (n := 32) hT in_X12 (hT _ w_inst_X12)
  obtain ⟨cI, kI, oI, aI1, aI2, aI3⟩ := Cond.arrayClass_spec (ht1 56 (.arrayClass .int) (by decide +kernel))
  obtain ⟨cZ, kZ, oZ, aZ1, aZ2, aZ3⟩ := Cond.arrayClass_spec (ht1 1012 (.arrayClass .boolean) (by decide +kernel))
  obtain ⟨oS, cS, kS, aS1, aS2, aS3, aS4, aS5⟩ := Cond.arrayOver_spec (ht1 102 (.arrayOver (.object RX5)) (by decide +kernel))
  have hJ := ht1 36 (.arrayOver (.array .int)) (by decide +kernel)
  obtain ⟨oJ, cJ, kJ, aJ1, aJ2, aJ3⟩ := aoa_spec hJ
  obtain ⟨adK, adV, hS, hSr⟩ := vk_Sof (args := #[Value.ref b]) (s := s) (N := 18) (tm := sT) (len := strLen) (byt := strByt) (A := fun q => s.heap.size ≤ q) (by decide) (fun i hi => hF _ _ (kf_ex i hi)) (fun i hi => hF _ _ (kf_co i hi)) (fun i hi => hF _ _ (kf_ar i hi)) (fun i hi => hF _ _ (kf_le i hi)) (fun i hi j hj => hF _ _ (kf_el i hi j hj)) (fun i j hi hj hij => (kf_ne i hi j hj hij).imp (fun e => hF _ _ e) (fun e => hF _ _ e)) (fun a ha => Nat.not_le.mpr ha)
  refine ⟨(fun k => [c0, c1, c2, c3, c4, c5, c6, c7, c8, c9, c10, c11, c12].getD k c0, fun k => [i0, i1, i2, i3, i4, i5, i6, i7, i8, i9, i10, i11, i12].getD k i0, cI, cZ, cS, cJ, s.heap.size, adK, adV), ⟨⟨fun k q hq => ?_, fun k q hq => ?_⟩, hS, fun i q hq => ?_, ?_, ?_, fun q hq => ?_, fun q hq => ?_, fun q hq => ?_, ?_, hJ, ?_⟩, rfl⟩
  · match k, hq with
    | 0, hq => cases hq; exact k0
    | 1, hq => cases hq; exact k1
    | 2, hq => cases hq; exact k2
    | 3, hq => cases hq; exact k3
    | 4, hq => cases hq; exact k4
    | 5, hq => cases hq; exact k5
    | 6, hq => cases hq; exact k6
    | 7, hq => cases hq; exact k7
    | 8, hq => cases hq; exact k8
    | 9, hq => cases hq; exact k9
    | 10, hq => cases hq; exact k10
    | 11, hq => cases hq; exact k11
    | 12, hq => cases hq; exact k12
    | k + 13, hq => simp [vwCl] at hq
  · match k, hq with
    | 0, hq => cases hq; exact ⟨fun N z => ⟨(fun k h => by cases h), kI, aI2, oI, aI3⟩, aI1⟩
    | 1, hq => cases hq; exact ⟨fun N z => ⟨(fun k h => by cases h), kZ, aZ2, oZ, aZ3⟩, aZ1⟩
    | 2, hq => cases hq; exact ⟨fun N z => ⟨(fun k h => by cases h), kS, aS3, oS, aS4⟩, kS, oS, aS3, aS4, aS1, aS5⟩
    | 3, hq => cases hq; exact ⟨fun N z => ⟨(fun k h => by cases h), kJ, aJ1, oJ, aJ2⟩, aJ3⟩
    | k + 4, hq => simp [gT] at hq
  · have hi : i < 18 := (List.getElem?_eq_some_iff.mp hq).1
    have e := kf_sr i hi
    rw [hq] at e
    have es : sT i = .string q.1 q.2.1 := by unfold sT; rw [List.getD_eq_getElem?_getD, hq]; rfl
    have h2 := hSr i hi
    rw [es] at h2
    exact vk_R.of (ht1 _ _ e) h2
  · exact va_Zof (ht1 314 _ (by decide +kernel)) (ht1 9 _ (by decide +kernel)) (va_eqt (hF 4 _ (by decide +kernel))) (fun a ha => Nat.not_le.mpr ha)
  · exact va_Zqof (ht1 330 _ (by decide +kernel)) (ht1 11 _ (by decide +kernel)) (hF 5 _ (by decide +kernel)) (fun a ha => Nat.not_le.mpr ha)
  · obtain ⟨k, hk⟩ := List.getElem?_of_mem hq
    have e := kf_nc k (List.getElem?_eq_some_iff.mp hk).1
    rw [hk] at e
    exact va_Nc.of (hF _ _ e)
  · obtain ⟨k, hk⟩ := List.getElem?_of_mem hq
    have e := kf_ca k (List.getElem?_eq_some_iff.mp hk).1
    rw [hk] at e
    exact va_Nw.of rfl (ht1 _ _ e)
  · obtain ⟨k, hk⟩ := List.getElem?_of_mem hq
    have e := kf_nt k (List.getElem?_eq_some_iff.mp hk).1
    rw [hk] at e
    exact va_Nw.of rfl (ht1 _ _ e)
  · exact va_AO.of (ht1 102 (.arrayOver (.object RX5)) (by decide +kernel))
  · exact Cond.privateMethod_at (ht1 603 (.privateMethod ⟨"KingsBalance$Standing", "gains", "(LKingsBalance$Realm;II)Z"⟩) (by decide +kernel))
