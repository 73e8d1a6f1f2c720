/-! more facts -/
theorem fX4_23_X2 : FdOK RX4 23 2 0 := ⟨(RX2, TX2, 2), "KingsBalance$Sides", rfl, by decide, TT_o1 198 (by decide +kernel) (by decide +kernel), in_X2, Or.inr (TT_o1 199 (by decide +kernel) (by decide +kernel))⟩
theorem scX5_0 : SCX5 0 := by unfold SCX5 SC; decide
theorem scX5_1 : SCX5 1 := by unfold SCX5 SC; decide
theorem scX5_2 : SCX5 2 := by unfold SCX5 SC; decide
theorem scX5_4 : SCX5 4 := by unfold SCX5 SC; decide
theorem scX5_5 : SCX5 5 := by unfold SCX5 SC; decide
theorem scX5_7 : SCX5 7 := by unfold SCX5 SC; decide
theorem scX5_9 : SCX5 9 := by unfold SCX5 SC; decide
theorem scX4_4 : SCX4 4 := by unfold SCX4; decide
theorem scX4_2 : SCX4 2 := by unfold SCX4; decide
theorem scX9_9 : SCX9 9 := by unfold SCX9; decide
theorem scX9_1 : SCX9 1 := by unfold SCX9; decide
theorem scX9_7 : SCX9 7 := by unfold SCX9; decide
