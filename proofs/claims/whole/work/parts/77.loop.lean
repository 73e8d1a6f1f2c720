/-! the law's loop -/
section LOOP
variable {g : GP} {J : JT} {b L : Nat} {xs : Nat → Int32}
theorem law_go (hL : L ≤ 320) {t : Nat} (ht : 5 * t ≤ L) (c : ¬ nI L - 5 < nI (5 * t)) : 5 * t + 5 ≤ L := by
  have e5 : (5 : Int32).toInt = 5 := by decide
  rw [fa_lt, fb_subI, nI_toInt (show L < 2 ^ 31 by omega), nI_toInt (show 5 * t < 2 ^ 31 by omega), e5] at c
  · omega
  · rw [nI_toInt (show L < 2 ^ 31 by omega), e5]; omega
  · rw [nI_toInt (show L < 2 ^ 31 by omega), e5]; omega
theorem law_loop (hJ : JL g b L xs J) (hL : L ≤ 320) : ∀ (f t : Nat) (a : Nat → Nat) (h : HT) (P : PT), t + f = 66 → 5 * t ≤ L → Inv P h → P.length ≤ t → Z g mL_law J (200 + t) (4000 + 2 * t) 18 [some (.ref b), some (.ref (a 0)), some (.ref (a 93)), some (.int (nI (5 * t)))] [] (WD g a h P)
  | 0, t, _, _, _, e, h5, _, _ => absurd h5 (by omega)
  | f + 1, t, a, h, P, e, h5, iv, hP => by
    refine Z.iload_n (n := 19) dL_law_18 rfl rfl ?_
    refine Z.aload_n (n := 20) dL_law_19 rfl rfl ?_
    refine Z.slen (n := 21) hJ dL_law_20 rfl ?_
    refine Z.iconst (n := 22) (v := 5) dL_law_21 rfl (by decide +kernel) ?_
    refine Z.isub (n := 23) dL_law_22 rfl ?_
    refine Z.icmp_gt (n := 26) (tgt := 1292) dL_law_23 (by decide +kernel) rfl (fun c => ?_) (fun c => ?_)
    · refine Z.iconst (n := 1293) (v := 1) dL_law_1292 rfl (by decide +kernel) ?_
      exact Z.lend hJ dL_law_1293 (by omega) (by omega)
    · have hi := law_go hL h5 c
      have nx : Nx g b J t (5 * t) := fun a' h' P' iv' hp' => by
        refine Z.iinc (n := 1289) (v := nI (5 * (t + 1))) dL_law_1286 rfl rfl (nI_add (5 * t) 5) (by decide) rfl ?_
        refine Z.goto (tgt := 18) dL_law_1289 (by decide +kernel) ?_
        exact law_loop hJ hL f (t + 1) a' h' P' (by omega) (by omega) iv' hp'
      refine Z.aload_n (n := 27) dL_law_26 rfl rfl ?_
      refine Z.iload_n (n := 28) dL_law_27 rfl rfl ?_
      refine Z.sld (n := 29) (j := 5 * t) hJ dL_law_28 rfl rfl (by omega) hL ?_
      refine Z.bipush (n := 31) (v := 63) dL_law_29 rfl (by decide +kernel) ?_
      refine Z.iand (n := 32) dL_law_31 rfl ?_
      generalize xs (5 * t) &&& 63 = v
      obtain ⟨K, Lw, nn, X⟩ := iv
      have tl : t < 100 := by omega
      by_cases hv : v.toInt < 0 ∨ 32 < v.toInt
      · exact Z.tswO (tgt := 1286) dL_law_32 hv (by decide +kernel) (Z.wd (by omega) (by omega) (nx a h P ⟨K, Lw, nn, X⟩ (by omega)))
      · have hj : ∃ j, j ≤ 32 ∧ v = nI j := by
          obtain ⟨j, hj, rfl⟩ := nI_of (show ¬ v < 0 by rw [fa_lt]; show ¬ v.toInt < (0 : Int32).toInt; rw [show (0 : Int32).toInt = 0 by decide]; omega)
          rw [nI_toInt hj] at hv
          exact ⟨j, by omega, rfl⟩
        obtain ⟨j, hj, rfl⟩ := hj
        have hc : j = 0 ∨ j = 1 ∨ j = 2 ∨ j = 3 ∨ j = 4 ∨ j = 5 ∨ j = 6 ∨ j = 7 ∨ j = 8 ∨ j = 9 ∨ j = 10 ∨ j = 11 ∨ j = 12 ∨ j = 13 ∨ j = 14 ∨ j = 15 ∨ j = 16 ∨ j = 17 ∨ j = 18 ∨ j = 19 ∨ j = 20 ∨ j = 21 ∨ j = 22 ∨ j = 23 ∨ j = 24 ∨ j = 25 ∨ j = 26 ∨ j = 27 ∨ j = 28 ∨ j = 29 ∨ j = 30 ∨ j = 31 ∨ j = 32 := by omega
        rcases hc with rfl | rfl | rfl | rfl | rfl | rfl | rfl | rfl | rfl | rfl | rfl | rfl | rfl | rfl | rfl | rfl | rfl | rfl | rfl | rfl | rfl | rfl | rfl | rfl | rfl | rfl | rfl | rfl | rfl | rfl | rfl | rfl | rfl
        · exact Z.tswI (c := nI 0) (off := 148) (tgt := 180) dL_law_32 rfl (by decide) (by decide) (by decide +kernel) (by decide +kernel) (arm_0 hJ hi hL X hP tl nx)
        · exact Z.tswI (c := nI 1) (off := 181) (tgt := 213) dL_law_32 rfl (by decide) (by decide) (by decide +kernel) (by decide +kernel) (arm_1 hJ hi hL X hP tl nx)
        · exact Z.tswI (c := nI 2) (off := 214) (tgt := 246) dL_law_32 rfl (by decide) (by decide) (by decide +kernel) (by decide +kernel) (arm_2 hJ hi hL X hP tl nx)
        · exact Z.tswI (c := nI 3) (off := 247) (tgt := 279) dL_law_32 rfl (by decide) (by decide) (by decide +kernel) (by decide +kernel) (arm_3 hJ hi hL X hP tl nx)
        · exact Z.tswI (c := nI 4) (off := 290) (tgt := 322) dL_law_32 rfl (by decide) (by decide) (by decide +kernel) (by decide +kernel) (arm_4 hJ hi hL X hP tl nx)
        · exact Z.tswI (c := nI 5) (off := 333) (tgt := 365) dL_law_32 rfl (by decide) (by decide) (by decide +kernel) (by decide +kernel) (arm_5 hJ hi hL X hP tl nx)
        · exact Z.tswI (c := nI 6) (off := 396) (tgt := 428) dL_law_32 rfl (by decide) (by decide) (by decide +kernel) (by decide +kernel) (arm_6 hJ hi hL X hP tl nx)
        · exact Z.tswI (c := nI 7) (off := 409) (tgt := 441) dL_law_32 rfl (by decide) (by decide) (by decide +kernel) (by decide +kernel) (arm_7 hJ hi hL X hP tl nx)
        · exact Z.tswI (c := nI 8) (off := 442) (tgt := 474) dL_law_32 rfl (by decide) (by decide) (by decide +kernel) (by decide +kernel) (arm_8 hJ hi hL X hP tl nx)
        · exact Z.tswI (c := nI 9) (off := 475) (tgt := 507) dL_law_32 rfl (by decide) (by decide) (by decide +kernel) (by decide +kernel) (arm_9 hJ hi hL X hP tl nx)
        · exact Z.tswI (c := nI 10) (off := 508) (tgt := 540) dL_law_32 rfl (by decide) (by decide) (by decide +kernel) (by decide +kernel) (arm_10 hJ hi hL X hP tl nx)
        · exact Z.tswI (c := nI 11) (off := 551) (tgt := 583) dL_law_32 rfl (by decide) (by decide) (by decide +kernel) (by decide +kernel) (arm_11 hJ hi hL X hP tl nx)
        · exact Z.tswI (c := nI 12) (off := 604) (tgt := 636) dL_law_32 rfl (by decide) (by decide) (by decide +kernel) (by decide +kernel) (arm_12 hJ hi hL X hP tl nx)
        · exact Z.tswI (c := nI 13) (off := 658) (tgt := 690) dL_law_32 rfl (by decide) (by decide) (by decide +kernel) (by decide +kernel) (arm_13 hJ hi hL X hP tl nx)
        · exact Z.tswI (c := nI 14) (off := 701) (tgt := 733) dL_law_32 rfl (by decide) (by decide) (by decide +kernel) (by decide +kernel) (arm_14 hJ hi hL X hP tl nx)
        · exact Z.tswI (c := nI 15) (off := 724) (tgt := 756) dL_law_32 rfl (by decide) (by decide) (by decide +kernel) (by decide +kernel) (arm_15 hJ hi hL X hP tl nx)
        · exact Z.tswI (c := nI 16) (off := 767) (tgt := 799) dL_law_32 rfl (by decide) (by decide) (by decide +kernel) (by decide +kernel) (arm_16 hJ hi hL X hP tl nx)
        · exact Z.tswI (c := nI 17) (off := 790) (tgt := 822) dL_law_32 rfl (by decide) (by decide) (by decide +kernel) (by decide +kernel) (arm_17 hJ hi hL X hP tl nx)
        · exact Z.tswI (c := nI 18) (off := 813) (tgt := 845) dL_law_32 rfl (by decide) (by decide) (by decide +kernel) (by decide +kernel) (arm_18 hJ hi hL X hP tl nx)
        · exact Z.tswI (c := nI 19) (off := 872) (tgt := 904) dL_law_32 rfl (by decide) (by decide) (by decide +kernel) (by decide +kernel) (arm_19 hJ hi hL X hP tl nx)
        · exact Z.tswI (c := nI 20) (off := 915) (tgt := 947) dL_law_32 rfl (by decide) (by decide) (by decide +kernel) (by decide +kernel) (arm_20 hJ hi hL X hP tl nx)
        · exact Z.tswI (c := nI 21) (off := 938) (tgt := 970) dL_law_32 rfl (by decide) (by decide) (by decide +kernel) (by decide +kernel) (arm_21 hJ hi hL X hP tl nx)
        · exact Z.tswI (c := nI 22) (off := 961) (tgt := 993) dL_law_32 rfl (by decide) (by decide) (by decide +kernel) (by decide +kernel) (arm_22 hJ hi hL X hP tl nx)
        · exact Z.tswI (c := nI 23) (off := 974) (tgt := 1006) dL_law_32 rfl (by decide) (by decide) (by decide +kernel) (by decide +kernel) (arm_23 hJ hi hL X hP tl nx)
        · exact Z.tswI (c := nI 24) (off := 997) (tgt := 1029) dL_law_32 rfl (by decide) (by decide) (by decide +kernel) (by decide +kernel) (arm_24 hJ hi hL X hP tl nx)
        · exact Z.tswI (c := nI 25) (off := 1030) (tgt := 1062) dL_law_32 rfl (by decide) (by decide) (by decide +kernel) (by decide +kernel) (arm_25 hJ hi hL X hP tl nx)
        · exact Z.tswI (c := nI 26) (off := 1053) (tgt := 1085) dL_law_32 rfl (by decide) (by decide) (by decide +kernel) (by decide +kernel) (arm_26 hJ hi hL X hP tl nx)
        · exact Z.tswI (c := nI 27) (off := 1106) (tgt := 1138) dL_law_32 rfl (by decide) (by decide) (by decide +kernel) (by decide +kernel) (arm_27 hJ hi hL X hP tl nx)
        · exact Z.tswI (c := nI 28) (off := 1149) (tgt := 1181) dL_law_32 rfl (by decide) (by decide) (by decide +kernel) (by decide +kernel) (arm_28 hJ hi hL X hP tl nx)
        · exact Z.tswI (c := nI 29) (off := 1172) (tgt := 1204) dL_law_32 rfl (by decide) (by decide) (by decide +kernel) (by decide +kernel) (arm_29 hJ hi hL X hP tl nx)
        · exact Z.tswI (c := nI 30) (off := 1205) (tgt := 1237) dL_law_32 rfl (by decide) (by decide) (by decide +kernel) (by decide +kernel) (arm_30 hJ hi hL X hP tl nx)
        · exact Z.tswI (c := nI 31) (off := 1218) (tgt := 1250) dL_law_32 rfl (by decide) (by decide) (by decide +kernel) (by decide +kernel) (arm_31 hJ hi hL X hP tl nx)
        · exact Z.tswI (c := nI 32) (off := 1231) (tgt := 1263) dL_law_32 rfl (by decide) (by decide) (by decide +kernel) (by decide +kernel) (arm_32 hJ hi hL X hP tl nx)
end LOOP
