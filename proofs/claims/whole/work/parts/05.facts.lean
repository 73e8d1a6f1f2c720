/-! the methods; what the tables say of each link (by program) -/
abbrev mX0_init : MI := (yX0_init, cX0_init, 3, none)
abbrev mX0_camps : MI := (yX0_camps, cX0_camps, 4, (some .int))
abbrev mX0_daresAct : MI := (yX0_daresAct, cX0_daresAct, 3, (some .int))
abbrev mX1_init : MI := (yX1_init, cX1_init, 3, none)
abbrev mX1_camps : MI := (yX1_camps, cX1_camps, 4, (some .int))
abbrev mX1_comesAct : MI := (yX1_comesAct, cX1_comesAct, 3, (some .int))
abbrev mX2_init : MI := (yX2_init, cX2_init, 3, none)
abbrev mX2_camps : MI := (yX2_camps, cX2_camps, 5, (some .int))
abbrev mX2_holdsAct : MI := (yX2_holdsAct, cX2_holdsAct, 3, (some .int))
abbrev mX3_init : MI := (yX3_init, cX3_init, 3, none)
abbrev mX3_become : MI := (yX3_become, cX3_become, 3, none)
abbrev mX3_has : MI := (yX3_has, cX3_has, 2, (some .boolean))
abbrev mX3_lives : MI := (yX3_lives, cX3_lives, 2, (some .boolean))
abbrev mX3_standingAt : MI := (yX3_standingAt, cX3_standingAt, 2, (some (.object "KingsBalance$Standing")))
abbrev mX3_add : MI := (yX3_add, cX3_add, 4, (some .int))
abbrev mX3_forceAt : MI := (yX3_forceAt, cX3_forceAt, 3, (some .int))
abbrev mX3_forcesAt : MI := (yX3_forcesAt, cX3_forcesAt, 5, (some .int))
abbrev mX3_strengthOf : MI := (yX3_strengthOf, cX3_strengthOf, 4, (some .int))
abbrev mX3_standsWith : MI := (yX3_standsWith, cX3_standsWith, 3, (some .boolean))
abbrev mX3_bears : MI := (yX3_bears, cX3_bears, 3, (some .boolean))
abbrev mX3_bearsOneBut : MI := (yX3_bearsOneBut, cX3_bearsOneBut, 5, (some .boolean))
abbrev mX3_turns : MI := (yX3_turns, cX3_turns, 7, (some .int))
abbrev mX3_halve : MI := (yX3_halve, cX3_halve, 3, none)
abbrev mX3_wear : MI := (yX3_wear, cX3_wear, 5, none)
abbrev mX3_fall : MI := (yX3_fall, cX3_fall, 4, none)
abbrev mX4_init : MI := (yX4_init, cX4_init, 3, none)
abbrev mX4_camps : MI := (yX4_camps, cX4_camps, 5, (some .int))
abbrev mX4_blockBits : MI := (yX4_blockBits, cX4_blockBits, 6, (some .int))
abbrev mX4_comesAct : MI := (yX4_comesAct, cX4_comesAct, 3, (some .int))
abbrev mX5_init : MI := (yX5_init, cX5_init, 3, none)
abbrev mX5_camps : MI := (yX5_camps, cX5_camps, 4, (some .int))
abbrev mX5_joined : MI := (yX5_joined, cX5_joined, 6, (some .int))
abbrev mX5_attackers : MI := (yX5_attackers, cX5_attackers, 1, (some .int))
abbrev mX5_defenders : MI := (yX5_defenders, cX5_defenders, 1, (some .int))
abbrev mX5_gains : MI := (yX5_gains, cX5_gains, 6, (some .boolean))
abbrev mX5_prey : MI := (yX5_prey, cX5_prey, 5, (some .int))
abbrev mX5_hunters : MI := (yX5_hunters, cX5_hunters, 5, (some .int))
abbrev mX5_firstWar : MI := (yX5_firstWar, cX5_firstWar, 4, (some .int))
abbrev mX5_fight : MI := (yX5_fight, cX5_fight, 9, (some .boolean))
abbrev mX5_comesAct : MI := (yX5_comesAct, cX5_comesAct, 3, (some .int))
abbrev mX5_daresAct : MI := (yX5_daresAct, cX5_daresAct, 3, (some .int))
abbrev mX5_holdsAct : MI := (yX5_holdsAct, cX5_holdsAct, 3, (some .int))
abbrev mX5_note : MI := (yX5_note, cX5_note, 2, none)
abbrev mX6_init : MI := (yX6_init, cX6_init, 1, none)
abbrev mX6_become : MI := (yX6_become, cX6_become, 2, none)
abbrev mX6_put : MI := (yX6_put, cX6_put, 2, none)
abbrev mX6_pick : MI := (yX6_pick, cX6_pick, 3, (some .int))
abbrev mX6_goesOn : MI := (yX6_goesOn, cX6_goesOn, 3, (some .boolean))
abbrev mX6_numeral : MI := (yX6_numeral, cX6_numeral, 4, (some .int))
abbrev mX7_init : MI := (yX7_init, cX7_init, 3, none)
abbrev mX7_camps : MI := (yX7_camps, cX7_camps, 5, (some .int))
abbrev mX7_keepers : MI := (yX7_keepers, cX7_keepers, 5, (some .int))
abbrev mX7_daresAct : MI := (yX7_daresAct, cX7_daresAct, 3, (some .int))
abbrev mX8_init : MI := (yX8_init, cX8_init, 1, none)
abbrev mX8_fits : MI := (yX8_fits, cX8_fits, 2, (some .boolean))
abbrev mX8_blockOf : MI := (yX8_blockOf, cX8_blockOf, 3, (some .int))
abbrev mX8_number : MI := (yX8_number, cX8_number, 6, (some .int))
abbrev mX8_find : MI := (yX8_find, cX8_find, 6, (some .boolean))
abbrev mX8_begin : MI := (yX8_begin, cX8_begin, 3, none)
abbrev mX8_advance : MI := (yX8_advance, cX8_advance, 3, (some .boolean))
abbrev mX8_highest : MI := (yX8_highest, cX8_highest, 5, (some .int))
abbrev mX8_steady : MI := (yX8_steady, cX8_steady, 9, (some .boolean))
abbrev mX9_init : MI := (yX9_init, cX9_init, 3, none)
abbrev mX9_camps : MI := (yX9_camps, cX9_camps, 11, (some .int))
abbrev mX9_holdsAct : MI := (yX9_holdsAct, cX9_holdsAct, 3, (some .int))
abbrev mX10_init : MI := (yX10_init, cX10_init, 1, none)
abbrev mX10_become : MI := (yX10_become, cX10_become, 2, none)
abbrev mX10_costOf : MI := (yX10_costOf, cX10_costOf, 10, (some .int))
abbrev mX10_read : MI := (yX10_read, cX10_read, 3, (some .int))
abbrev mX10_clause : MI := (yX10_clause, cX10_clause, 3, (some .boolean))
abbrev mX10_amount : MI := (yX10_amount, cX10_amount, 3, (some .int))
abbrev mX10_priced : MI := (yX10_priced, cX10_priced, 3, (some .boolean))
abbrev mX10_either : MI := (yX10_either, cX10_either, 4, (some .boolean))
abbrev mX10_both : MI := (yX10_both, cX10_both, 4, (some .boolean))
abbrev mX10_single : MI := (yX10_single, cX10_single, 4, (some .boolean))
abbrev mX10_test : MI := (yX10_test, cX10_test, 5, (some .boolean))
abbrev mX10_step : MI := (yX10_step, cX10_step, 4, none)
abbrev mX11_init : MI := (yX11_init, cX11_init, 1, none)
abbrev mX11_king : MI := (yX11_king, cX11_king, 3, (some .int))
abbrev mX11_of : MI := (yX11_of, cX11_of, 3, (some .int))
abbrev mX11_arm : MI := (yX11_arm, cX11_arm, 4, (some .int))
abbrev mX11_worth : MI := (yX11_worth, cX11_worth, 5, (some .int))
abbrev mX11_pact : MI := (yX11_pact, cX11_pact, 5, (some .int))
abbrev mX11_feed : MI := (yX11_feed, cX11_feed, 5, (some .int))
abbrev mX11_world : MI := (yX11_world, cX11_world, 2, (some .int))
abbrev mX11_cost : MI := (yX11_cost, cX11_cost, 3, (some .int))
abbrev mX11_force : MI := (yX11_force, cX11_force, 3, (some .int))
abbrev mX11_standing : MI := (yX11_standing, cX11_standing, 4, (some .int))
abbrev mX11_block : MI := (yX11_block, cX11_block, 5, (some .int))
abbrev mX11_comes : MI := (yX11_comes, cX11_comes, 8, (some .int))
abbrev mX11_war : MI := (yX11_war, cX11_war, 9, (some .long))
abbrev mX11_dares : MI := (yX11_dares, cX11_dares, 5, (some .int))
abbrev mX11_first : MI := (yX11_first, cX11_first, 3, (some .int))
abbrev mX11_keeps : MI := (yX11_keeps, cX11_keeps, 4, (some .int))
abbrev mX11_empty : MI := (yX11_empty, cX11_empty, 4, (some .int))
abbrev mX11_all : MI := (yX11_all, cX11_all, 2, (some .int))
abbrev mX11_quiet : MI := (yX11_quiet, cX11_quiet, 4, (some .int))
abbrev mX11_lead : MI := (yX11_lead, cX11_lead, 6, (some .int))
abbrev mX11_next : MI := (yX11_next, cX11_next, 5, (some .int))
abbrev mX11_edge : MI := (yX11_edge, cX11_edge, 2, (some .int))
abbrev mX11_courted : MI := (yX11_courted, cX11_courted, 6, (some .int))
abbrev mX11_race : MI := (yX11_race, cX11_race, 4, (some .int))
abbrev mX11_few : MI := (yX11_few, cX11_few, 6, (some .int))
abbrev mX11_guarded : MI := (yX11_guarded, cX11_guarded, 5, (some .int))
abbrev mX11_marry : MI := (yX11_marry, cX11_marry, 6, (some .int))
abbrev mX11_act : MI := (yX11_act, cX11_act, 5, (some .int))
abbrev mX11_trace : MI := (yX11_trace, cX11_trace, 2, (some .int))
abbrev mX11_as : MI := (yX11_as, cX11_as, 4, (some .int))
abbrev mX11_image : MI := (yX11_image, cX11_image, 1, (some .int))
abbrev mX11_undo : MI := (yX11_undo, cX11_undo, 1, (some .int))
abbrev mX11_count : MI := (yX11_count, cX11_count, 2, (some .int))
abbrev mX11_outside : MI := (yX11_outside, cX11_outside, 2, (some .boolean))
abbrev mX11_pairRefusal : MI := (yX11_pairRefusal, cX11_pairRefusal, 3, (some .int))
abbrev mX11_made : MI := (yX11_made, cX11_made, 3, (some (.object "KingsBalance$Standing")))
abbrev mX11_isOf : MI := (yX11_isOf, cX11_isOf, 2, (some .boolean))
abbrev mX11_armedInRound : MI := (yX11_armedInRound, cX11_armedInRound, 4, (some .boolean))
abbrev mX11_upsetBy : MI := (yX11_upsetBy, cX11_upsetBy, 6, (some .int))
abbrev mX11_married : MI := (yX11_married, cX11_married, 11, (some .int))
abbrev mX12_init : MI := (yX12_init, cX12_init, 1, none)
abbrev mX12_in : MI := (yX12_in, cX12_in, 3, (some .boolean))
abbrev mX12_isKing : MI := (yX12_isKing, cX12_isKing, 2, (some .boolean))
abbrev mX12_isAlive : MI := (yX12_isAlive, cX12_isAlive, 2, (some .boolean))
abbrev mX12_isStanding : MI := (yX12_isStanding, cX12_isStanding, 2, (some .boolean))
abbrev mX12_size : MI := (yX12_size, cX12_size, 1, (some .int))
abbrev mX12_count1 : MI := (yX12_count1, cX12_count1, 3, (some .int))
abbrev mX12_king : MI := (yX12_king, cX12_king, 5, (some .int))
abbrev mX12_of : MI := (yX12_of, cX12_of, 3, (some .int))
abbrev mX12_arm : MI := (yX12_arm, cX12_arm, 4, (some .int))
abbrev mX12_worth : MI := (yX12_worth, cX12_worth, 5, (some .int))
abbrev mX12_pact : MI := (yX12_pact, cX12_pact, 5, (some .int))
abbrev mX12_feed : MI := (yX12_feed, cX12_feed, 5, (some .int))
abbrev mX12_here : MI := (yX12_here, cX12_here, 1, (some .int))
abbrev mX12_must : MI := (yX12_must, cX12_must, 2, none)
abbrev mX12_spells : MI := (yX12_spells, cX12_spells, 3, none)
abbrev mX12_figures : MI := (yX12_figures, cX12_figures, 3, (some .int))
abbrev mX12_emits : MI := (yX12_emits, cX12_emits, 2, none)
abbrev mX12_factor : MI := (yX12_factor, cX12_factor, 4, none)
abbrev mX12_every : MI := (yX12_every, cX12_every, 1, none)
abbrev mX12_some : MI := (yX12_some, cX12_some, 1, none)
abbrev mX12_tells : MI := (yX12_tells, cX12_tells, 4, none)
abbrev mX12_clause : MI := (yX12_clause, cX12_clause, 2, none)
abbrev mX12_world : MI := (yX12_world, cX12_world, 3, (some .int))
abbrev mX12_costOf : MI := (yX12_costOf, cX12_costOf, 11, (some .int))
abbrev mX12_cost : MI := (yX12_cost, cX12_cost, 3, (some .int))
abbrev mX12_forceOf : MI := (yX12_forceOf, cX12_forceOf, 4, (some .int))
abbrev mX12_force : MI := (yX12_force, cX12_force, 3, (some .int))
abbrev mX12_standing : MI := (yX12_standing, cX12_standing, 5, (some .int))
abbrev mX12_block : MI := (yX12_block, cX12_block, 5, (some .int))
abbrev mX12_takes : MI := (yX12_takes, cX12_takes, 3, none)
abbrev mX12_blockOf : MI := (yX12_blockOf, cX12_blockOf, 4, (some .int))
abbrev mX12_alive : MI := (yX12_alive, cX12_alive, 3, (some .int))
abbrev mX12_strengths : MI := (yX12_strengths, cX12_strengths, 4, (some .int))
abbrev mX12_sides : MI := (yX12_sides, cX12_sides, 4, none)
abbrev mX12_pactOf : MI := (yX12_pactOf, cX12_pactOf, 3, (some .int))
abbrev mX12_isTrue : MI := (yX12_isTrue, cX12_isTrue, 3, (some .boolean))
abbrev mX12_web : MI := (yX12_web, cX12_web, 9, none)
abbrev mX12_comesTo : MI := (yX12_comesTo, cX12_comesTo, 4, none)
abbrev mX12_comes : MI := (yX12_comes, cX12_comes, 5, (some .int))
abbrev mX12_sums : MI := (yX12_sums, cX12_sums, 4, none)
abbrev mX12_gainOf : MI := (yX12_gainOf, cX12_gainOf, 4, (some .int))
abbrev mX12_war : MI := (yX12_war, cX12_war, 6, (some .long))
abbrev mX12_doesDare : MI := (yX12_doesDare, cX12_doesDare, 3, (some .boolean))
abbrev mX12_darers : MI := (yX12_darers, cX12_darers, 4, (some .int))
abbrev mX12_dares : MI := (yX12_dares, cX12_dares, 6, (some .int))
abbrev mX12_firstWar : MI := (yX12_firstWar, cX12_firstWar, 3, (some .int))
abbrev mX12_first : MI := (yX12_first, cX12_first, 2, (some .int))
abbrev mX12_doesKeep : MI := (yX12_doesKeep, cX12_doesKeep, 5, (some .boolean))
abbrev mX12_keeps : MI := (yX12_keeps, cX12_keeps, 4, (some .int))
abbrev mX12_empty : MI := (yX12_empty, cX12_empty, 7, (some .int))
abbrev mX12_doesDareAny : MI := (yX12_doesDareAny, cX12_doesDareAny, 4, (some .boolean))
abbrev mX12_wouldHold : MI := (yX12_wouldHold, cX12_wouldHold, 6, (some .boolean))
abbrev mX12_parts : MI := (yX12_parts, cX12_parts, 5, none)
abbrev mX12_partsAll : MI := (yX12_partsAll, cX12_partsAll, 4, none)
abbrev mX12_all : MI := (yX12_all, cX12_all, 2, (some .int))
abbrev mX12_quiet : MI := (yX12_quiet, cX12_quiet, 4, (some .int))
abbrev mX12_leads : MI := (yX12_leads, cX12_leads, 13, (some .int))
abbrev mX12_lead : MI := (yX12_lead, cX12_lead, 4, (some .int))
abbrev mX12_next : MI := (yX12_next, cX12_next, 5, (some .int))
abbrev mX12_turnsOf : MI := (yX12_turnsOf, cX12_turnsOf, 7, (some .int))
abbrev mX12_edge : MI := (yX12_edge, cX12_edge, 2, (some .int))
abbrev mX12_courted : MI := (yX12_courted, cX12_courted, 6, (some .int))
abbrev mX12_race : MI := (yX12_race, cX12_race, 6, (some .int))
abbrev mX12_isQuietWith : MI := (yX12_isQuietWith, cX12_isQuietWith, 4, (some .boolean))
abbrev mX12_few : MI := (yX12_few, cX12_few, 6, (some .int))
abbrev mX12_guarded : MI := (yX12_guarded, cX12_guarded, 4, (some .int))
abbrev mX12_marry : MI := (yX12_marry, cX12_marry, 12, (some .int))
abbrev mX12_runs : MI := (yX12_runs, cX12_runs, 2, none)
abbrev mX12_isUnder : MI := (yX12_isUnder, cX12_isUnder, 2, (some .boolean))
abbrev mX12_plainComes : MI := (yX12_plainComes, cX12_plainComes, 2, (some .int))
abbrev mX12_comesActs : MI := (yX12_comesActs, cX12_comesActs, 2, (some .int))
abbrev mX12_plainDares : MI := (yX12_plainDares, cX12_plainDares, 2, (some .int))
abbrev mX12_daresActs : MI := (yX12_daresActs, cX12_daresActs, 2, (some .int))
abbrev mX12_plainHolds : MI := (yX12_plainHolds, cX12_plainHolds, 2, (some .int))
abbrev mX12_holdsActs : MI := (yX12_holdsActs, cX12_holdsActs, 3, (some .int))
abbrev mX12_act : MI := (yX12_act, cX12_act, 4, (some .int))
abbrev mX12_trace : MI := (yX12_trace, cX12_trace, 2, (some .int))
abbrev mX12_as : MI := (yX12_as, cX12_as, 3, (some .int))
abbrev mX12_image : MI := (yX12_image, cX12_image, 2, (some .int))
abbrev mX12_undo : MI := (yX12_undo, cX12_undo, 2, (some .int))
abbrev mX12_count : MI := (yX12_count, cX12_count, 2, (some .int))
abbrev mJ6_bitCount_0f7a4 : MI := (yJ6_bitCount_0f7a4, cJ6_bitCount_0f7a4, 1, (some .int))
abbrev mJ9_abs_0f7a4 : MI := (yJ9_abs_0f7a4, cJ9_abs_0f7a4, 1, (some .int))
abbrev mJ9_max_7cf53 : MI := (yJ9_max_7cf53, cJ9_max_7cf53, 2, (some .int))
abbrev mJ9_min_7cf53 : MI := (yJ9_min_7cf53, cJ9_min_7cf53, 2, (some .int))
abbrev mJ0_length_8abf5 : MI := (yJ0_length_8abf5, cJ0_length_8abf5, 1, (some .int))
abbrev mJ0_charAt_5068e : MI := (yJ0_charAt_5068e, cJ0_charAt_5068e, 2, (some .char))
abbrev mJ0_coder_7d493 : MI := (yJ0_coder_7d493, cJ0_coder_7d493, 1, (some .byte))
abbrev mJ0_isLatin1_aae02 : MI := (yJ0_isLatin1_aae02, cJ0_isLatin1_aae02, 1, (some .boolean))
abbrev mJ0_checkIndex_df160 : MI := (yJ0_checkIndex_df160, cJ0_checkIndex_df160, 2, none)
abbrev mJ1_charAt_3b067 : MI := (yJ1_charAt_3b067, cJ1_charAt_3b067, 2, (some .char))
abbrev mJ2_getChar_3b067 : MI := (yJ2_getChar_3b067, cJ2_getChar_3b067, 2, (some .char))
abbrev mJ2_length_9d52b : MI := (yJ2_length_9d52b, cJ2_length_9d52b, 1, (some .int))
abbrev mJ2_charAt_3b067 : MI := (yJ2_charAt_3b067, cJ2_charAt_3b067, 2, (some .char))
abbrev mJ2_checkIndex_2214a : MI := (yJ2_checkIndex_2214a, cJ2_checkIndex_2214a, 2, none)
abbrev mJ3_checkIndex_8e157 : MI := (yJ3_checkIndex_8e157, cJ3_checkIndex_8e157, 3, (some .int))
abbrev mL_law : MI := (yL_law, cL_law, 4, (some .boolean))
theorem k447 : (Jvm.Cond.laysFinal "KingsBalance$Alone" "KingsBalance$Standing" "number" "I") ∈ TT := TT_o2 207 (by decide +kernel) (by decide +kernel)
theorem k448 : (Jvm.Cond.laysFinal "KingsBalance$Alone" "KingsBalance$Standing" "v" "I") ∈ TT := TT_o2 208 (by decide +kernel) (by decide +kernel)
theorem k476 : (Jvm.Cond.laysFinal "KingsBalance$Guard" "KingsBalance$Standing" "number" "I") ∈ TT := TT_o2 236 (by decide +kernel) (by decide +kernel)
theorem k477 : (Jvm.Cond.laysFinal "KingsBalance$Guard" "KingsBalance$Standing" "v" "I") ∈ TT := TT_o2 237 (by decide +kernel) (by decide +kernel)
theorem k467 : (Jvm.Cond.laysFinal "KingsBalance$League" "KingsBalance$Standing" "number" "I") ∈ TT := TT_o2 227 (by decide +kernel) (by decide +kernel)
theorem k468 : (Jvm.Cond.laysFinal "KingsBalance$League" "KingsBalance$Standing" "v" "I") ∈ TT := TT_o2 228 (by decide +kernel) (by decide +kernel)
theorem k151 : (Jvm.Cond.lays "KingsBalance$Realm" "KingsBalance$Realm" "kings" "I") ∈ TT := TT_o1 151 (by decide +kernel) (by decide +kernel)
theorem k153 : (Jvm.Cond.lays "KingsBalance$Realm" "KingsBalance$Realm" "alive" "I") ∈ TT := TT_o1 153 (by decide +kernel) (by decide +kernel)
theorem k155 : (Jvm.Cond.lays "KingsBalance$Realm" "KingsBalance$Realm" "worlds" "I") ∈ TT := TT_o1 155 (by decide +kernel) (by decide +kernel)
theorem k157 : (Jvm.Cond.lays "KingsBalance$Realm" "KingsBalance$Realm" "standings" "I") ∈ TT := TT_o1 157 (by decide +kernel) (by decide +kernel)
theorem k159 : (Jvm.Cond.lays "KingsBalance$Realm" "KingsBalance$Realm" "wars" "I") ∈ TT := TT_o1 159 (by decide +kernel) (by decide +kernel)
theorem k161 : (Jvm.Cond.laysFinal "KingsBalance$Realm" "KingsBalance$Realm" "strength" "[I") ∈ TT := TT_o1 161 (by decide +kernel) (by decide +kernel)
theorem k163 : (Jvm.Cond.laysFinal "KingsBalance$Realm" "KingsBalance$Realm" "place" "[I") ∈ TT := TT_o1 163 (by decide +kernel) (by decide +kernel)
theorem k165 : (Jvm.Cond.laysFinal "KingsBalance$Realm" "KingsBalance$Realm" "owner" "[I") ∈ TT := TT_o1 165 (by decide +kernel) (by decide +kernel)
theorem k167 : (Jvm.Cond.laysFinal "KingsBalance$Realm" "KingsBalance$Realm" "worth" "[[I") ∈ TT := TT_o1 167 (by decide +kernel) (by decide +kernel)
theorem k169 : (Jvm.Cond.laysFinal "KingsBalance$Realm" "KingsBalance$Realm" "pact" "[[I") ∈ TT := TT_o1 169 (by decide +kernel) (by decide +kernel)
theorem k171 : (Jvm.Cond.laysFinal "KingsBalance$Realm" "KingsBalance$Realm" "tape" "LKingsBalance$Tape;") ∈ TT := TT_o1 171 (by decide +kernel) (by decide +kernel)
theorem k173 : (Jvm.Cond.laysFinal "KingsBalance$Realm" "KingsBalance$Realm" "world" "LKingsBalance$World;") ∈ TT := TT_o1 173 (by decide +kernel) (by decide +kernel)
theorem k175 : (Jvm.Cond.laysFinal "KingsBalance$Realm" "KingsBalance$Realm" "standing" "[LKingsBalance$Standing;") ∈ TT := TT_o1 175 (by decide +kernel) (by decide +kernel)
theorem k177 : (Jvm.Cond.laysFinal "KingsBalance$Realm" "KingsBalance$Realm" "block" "[[I") ∈ TT := TT_o1 177 (by decide +kernel) (by decide +kernel)
theorem k208 : (Jvm.Cond.laysFinal "KingsBalance$Sides" "KingsBalance$Standing" "number" "I") ∈ TT := TT_o1 208 (by decide +kernel) (by decide +kernel)
theorem k210 : (Jvm.Cond.laysFinal "KingsBalance$Sides" "KingsBalance$Standing" "v" "I") ∈ TT := TT_o1 210 (by decide +kernel) (by decide +kernel)
theorem k491 : (Jvm.Cond.laysFinal "KingsBalance$Standing" "KingsBalance$Standing" "number" "I") ∈ TT := TT_o3 11 (by decide +kernel) (by decide +kernel)
theorem k492 : (Jvm.Cond.laysFinal "KingsBalance$Standing" "KingsBalance$Standing" "v" "I") ∈ TT := TT_o3 12 (by decide +kernel) (by decide +kernel)
theorem k49 : (Jvm.Cond.laysFinal "KingsBalance$Tape" "KingsBalance$Tape" "bytes" "[I") ∈ TT := TT_o1 49 (by decide +kernel) (by decide +kernel)
theorem k51 : (Jvm.Cond.lays "KingsBalance$Tape" "KingsBalance$Tape" "size" "I") ∈ TT := TT_o1 51 (by decide +kernel) (by decide +kernel)
theorem k53 : (Jvm.Cond.lays "KingsBalance$Tape" "KingsBalance$Tape" "at" "I") ∈ TT := TT_o1 53 (by decide +kernel) (by decide +kernel)
theorem k485 : (Jvm.Cond.laysFinal "KingsBalance$True" "KingsBalance$Standing" "number" "I") ∈ TT := TT_o3 5 (by decide +kernel) (by decide +kernel)
theorem k486 : (Jvm.Cond.laysFinal "KingsBalance$True" "KingsBalance$Standing" "v" "I") ∈ TT := TT_o3 6 (by decide +kernel) (by decide +kernel)
theorem k216 : (Jvm.Cond.laysFinal "KingsBalance$Ways" "KingsBalance$Ways" "sides" "LKingsBalance$Sides;") ∈ TT := TT_o1 216 (by decide +kernel) (by decide +kernel)
theorem k218 : (Jvm.Cond.laysFinal "KingsBalance$Ways" "KingsBalance$Ways" "members" "[I") ∈ TT := TT_o1 218 (by decide +kernel) (by decide +kernel)
theorem k220 : (Jvm.Cond.lays "KingsBalance$Ways" "KingsBalance$Ways" "size" "I") ∈ TT := TT_o1 220 (by decide +kernel) (by decide +kernel)
theorem k458 : (Jvm.Cond.laysFinal "KingsBalance$Web" "KingsBalance$Standing" "number" "I") ∈ TT := TT_o2 218 (by decide +kernel) (by decide +kernel)
theorem k459 : (Jvm.Cond.laysFinal "KingsBalance$Web" "KingsBalance$Standing" "v" "I") ∈ TT := TT_o2 219 (by decide +kernel) (by decide +kernel)
theorem k78 : (Jvm.Cond.lays "KingsBalance$World" "KingsBalance$World" "word" "I") ∈ TT := TT_o1 78 (by decide +kernel) (by decide +kernel)
theorem k80 : (Jvm.Cond.lays "KingsBalance$World" "KingsBalance$World" "less" "I") ∈ TT := TT_o1 80 (by decide +kernel) (by decide +kernel)
theorem k82 : (Jvm.Cond.lays "KingsBalance$World" "KingsBalance$World" "take" "I") ∈ TT := TT_o1 82 (by decide +kernel) (by decide +kernel)
theorem k84 : (Jvm.Cond.lays "KingsBalance$World" "KingsBalance$World" "costs" "I") ∈ TT := TT_o1 84 (by decide +kernel) (by decide +kernel)
theorem k86 : (Jvm.Cond.lays "KingsBalance$World" "KingsBalance$World" "steps" "I") ∈ TT := TT_o1 86 (by decide +kernel) (by decide +kernel)
theorem k88 : (Jvm.Cond.laysFinal "KingsBalance$World" "KingsBalance$World" "price" "[I") ∈ TT := TT_o1 88 (by decide +kernel) (by decide +kernel)
theorem k90 : (Jvm.Cond.laysFinal "KingsBalance$World" "KingsBalance$World" "end" "[I") ∈ TT := TT_o1 90 (by decide +kernel) (by decide +kernel)
theorem k92 : (Jvm.Cond.laysFinal "KingsBalance$World" "KingsBalance$World" "what" "[I") ∈ TT := TT_o1 92 (by decide +kernel) (by decide +kernel)
theorem k94 : (Jvm.Cond.laysFinal "KingsBalance$World" "KingsBalance$World" "sign" "[I") ∈ TT := TT_o1 94 (by decide +kernel) (by decide +kernel)
theorem k96 : (Jvm.Cond.laysFinal "KingsBalance$World" "KingsBalance$World" "number" "[I") ∈ TT := TT_o1 96 (by decide +kernel) (by decide +kernel)
theorem k98 : (Jvm.Cond.laysFinal "KingsBalance$World" "KingsBalance$World" "facts" "[I") ∈ TT := TT_o1 98 (by decide +kernel) (by decide +kernel)
theorem k230 : (Jvm.Cond.laysFinal "KingsBalance" "KingsBalance" "realm" "LKingsBalance$Realm;") ∈ TT := TT_o1 230 (by decide +kernel) (by decide +kernel)
theorem k232 : (Jvm.Cond.laysFinal "KingsBalance" "KingsBalance" "kept" "LKingsBalance$Realm;") ∈ TT := TT_o1 232 (by decide +kernel) (by decide +kernel)
theorem k234 : (Jvm.Cond.lays "KingsBalance" "KingsBalance" "hasImage" "Z") ∈ TT := TT_o1 234 (by decide +kernel) (by decide +kernel)
theorem k236 : (Jvm.Cond.laysFinal "KingsBalance" "KingsBalance" "draft" "LKingsBalance$World;") ∈ TT := TT_o1 236 (by decide +kernel) (by decide +kernel)
theorem k238 : (Jvm.Cond.laysFinal "KingsBalance" "KingsBalance" "ways" "LKingsBalance$Ways;") ∈ TT := TT_o1 238 (by decide +kernel) (by decide +kernel)
theorem k240 : (Jvm.Cond.laysFinal "KingsBalance" "KingsBalance" "bodies" "[I") ∈ TT := TT_o2 0 (by decide +kernel) (by decide +kernel)
theorem k242 : (Jvm.Cond.laysFinal "KingsBalance" "KingsBalance" "daredNow" "[I") ∈ TT := TT_o2 2 (by decide +kernel) (by decide +kernel)
theorem k947 : (Jvm.Cond.lays "KingsBalanceModel" "KingsBalanceModel" "thrown" "I") ∈ TT := TT_o4 227 (by decide +kernel) (by decide +kernel)
theorem k949 : (Jvm.Cond.laysFinal "KingsBalanceModel" "KingsBalanceModel" "s" "[I") ∈ TT := TT_o4 229 (by decide +kernel) (by decide +kernel)
theorem k951 : (Jvm.Cond.laysFinal "KingsBalanceModel" "KingsBalanceModel" "image" "[I") ∈ TT := TT_o4 231 (by decide +kernel) (by decide +kernel)
theorem k953 : (Jvm.Cond.lays "KingsBalanceModel" "KingsBalanceModel" "hasImage" "Z") ∈ TT := TT_o4 233 (by decide +kernel) (by decide +kernel)
theorem k955 : (Jvm.Cond.lays "KingsBalanceModel" "KingsBalanceModel" "spot" "I") ∈ TT := TT_o4 235 (by decide +kernel) (by decide +kernel)
theorem k957 : (Jvm.Cond.lays "KingsBalanceModel" "KingsBalanceModel" "end" "I") ∈ TT := TT_o4 237 (by decide +kernel) (by decide +kernel)
theorem k959 : (Jvm.Cond.lays "KingsBalanceModel" "KingsBalanceModel" "isWrong" "Z") ∈ TT := TT_o4 239 (by decide +kernel) (by decide +kernel)
theorem k961 : (Jvm.Cond.lays "KingsBalanceModel" "KingsBalanceModel" "open" "I") ∈ TT := TT_o5 1 (by decide +kernel) (by decide +kernel)
theorem k963 : (Jvm.Cond.laysFinal "KingsBalanceModel" "KingsBalanceModel" "read" "[I") ∈ TT := TT_o5 3 (by decide +kernel) (by decide +kernel)
theorem k965 : (Jvm.Cond.laysFinal "KingsBalanceModel" "KingsBalanceModel" "values" "[I") ∈ TT := TT_o5 5 (by decide +kernel) (by decide +kernel)
theorem k967 : (Jvm.Cond.lays "KingsBalanceModel" "KingsBalanceModel" "readMany" "I") ∈ TT := TT_o5 7 (by decide +kernel) (by decide +kernel)
theorem k969 : (Jvm.Cond.laysFinal "KingsBalanceModel" "KingsBalanceModel" "truths" "[Z") ∈ TT := TT_o5 9 (by decide +kernel) (by decide +kernel)
theorem k971 : (Jvm.Cond.laysFinal "KingsBalanceModel" "KingsBalanceModel" "blocks" "[I") ∈ TT := TT_o5 11 (by decide +kernel) (by decide +kernel)
theorem k973 : (Jvm.Cond.lays "KingsBalanceModel" "KingsBalanceModel" "kind" "I") ∈ TT := TT_o5 13 (by decide +kernel) (by decide +kernel)
theorem k975 : (Jvm.Cond.lays "KingsBalanceModel" "KingsBalanceModel" "v" "I") ∈ TT := TT_o5 15 (by decide +kernel) (by decide +kernel)
theorem k977 : (Jvm.Cond.lays "KingsBalanceModel" "KingsBalanceModel" "withA" "I") ∈ TT := TT_o5 17 (by decide +kernel) (by decide +kernel)
theorem k979 : (Jvm.Cond.lays "KingsBalanceModel" "KingsBalanceModel" "withB" "I") ∈ TT := TT_o5 19 (by decide +kernel) (by decide +kernel)
theorem k981 : (Jvm.Cond.lays "KingsBalanceModel" "KingsBalanceModel" "sumA" "I") ∈ TT := TT_o5 21 (by decide +kernel) (by decide +kernel)
theorem k983 : (Jvm.Cond.lays "KingsBalanceModel" "KingsBalanceModel" "sumB" "I") ∈ TT := TT_o5 23 (by decide +kernel) (by decide +kernel)
theorem k985 : (Jvm.Cond.lays "KingsBalanceModel" "KingsBalanceModel" "allMany" "I") ∈ TT := TT_o5 25 (by decide +kernel) (by decide +kernel)
theorem k987 : (Jvm.Cond.lays "KingsBalanceModel" "KingsBalanceModel" "quietMany" "I") ∈ TT := TT_o5 27 (by decide +kernel) (by decide +kernel)
theorem k989 : (Jvm.Cond.lays "KingsBalanceModel" "KingsBalanceModel" "holdMany" "I") ∈ TT := TT_o5 29 (by decide +kernel) (by decide +kernel)
theorem k991 : (Jvm.Cond.lays "KingsBalanceModel" "KingsBalanceModel" "wanted" "I") ∈ TT := TT_o5 31 (by decide +kernel) (by decide +kernel)
theorem k993 : (Jvm.Cond.lays "KingsBalanceModel" "KingsBalanceModel" "wantedKing" "I") ∈ TT := TT_o5 33 (by decide +kernel) (by decide +kernel)
theorem k995 : (Jvm.Cond.lays "KingsBalanceModel" "KingsBalanceModel" "wantsHold" "Z") ∈ TT := TT_o5 35 (by decide +kernel) (by decide +kernel)
theorem k997 : (Jvm.Cond.lays "KingsBalanceModel" "KingsBalanceModel" "found" "I") ∈ TT := TT_o5 37 (by decide +kernel) (by decide +kernel)
theorem k999 : (Jvm.Cond.laysFinal "KingsBalanceModel" "KingsBalanceModel" "daredBy" "[I") ∈ TT := TT_o5 39 (by decide +kernel) (by decide +kernel)
theorem k1001 : (Jvm.Cond.laysFinal "KingsBalanceModel" "KingsBalanceModel" "bodies" "[I") ∈ TT := TT_o5 41 (by decide +kernel) (by decide +kernel)
theorem k1003 : (Jvm.Cond.lays "KingsBalanceModel" "KingsBalanceModel" "ran" "I") ∈ TT := TT_o5 43 (by decide +kernel) (by decide +kernel)
theorem k1005 : (Jvm.Cond.lays "KingsBalanceModel" "KingsBalanceModel" "kindNow" "I") ∈ TT := TT_o5 45 (by decide +kernel) (by decide +kernel)
theorem k1007 : (Jvm.Cond.lays "KingsBalanceModel" "KingsBalanceModel" "who" "I") ∈ TT := TT_o5 47 (by decide +kernel) (by decide +kernel)
theorem k1009 : (Jvm.Cond.lays "KingsBalanceModel" "KingsBalanceModel" "tellsV" "I") ∈ TT := TT_o5 49 (by decide +kernel) (by decide +kernel)
theorem k26 : (Jvm.Cond.methodLink "KingsBalance" (3 : Nat) ({ cls := "java/lang/Object", name := "<init>", desc := "()V" } : Jvm.MethodName)) ∈ TT := TT_o1 26 (by decide +kernel) (by decide +kernel)
theorem k29 : (Jvm.Cond.classLink "KingsBalance" (9 : Nat) "KingsBalance$Realm") ∈ TT := TT_o1 29 (by decide +kernel) (by decide +kernel)
theorem k2 : (Jvm.Cond.initialized "KingsBalance$Realm") ∈ TT := TT_o1 2 (by decide +kernel) (by decide +kernel)
theorem k33 : (Jvm.Cond.code ({ cls := "KingsBalance$Realm", name := "<init>", desc := "()V" } : Jvm.MethodName) prog_5_method_1_code (3 : Nat) (Option.none : Option Jvm.ClassFile.FieldType)) ∈ TT := TT_o1 33 (by decide +kernel) (by decide +kernel)
theorem k31 : (Jvm.Cond.methodLink "KingsBalance" (11 : Nat) ({ cls := "KingsBalance$Realm", name := "<init>", desc := "()V" } : Jvm.MethodName)) ∈ TT := TT_o1 31 (by decide +kernel) (by decide +kernel)
theorem k32 : (Jvm.Cond.instanceMethod ({ cls := "KingsBalance$Realm", name := "<init>", desc := "()V" } : Jvm.MethodName)) ∈ TT := TT_o1 32 (by decide +kernel) (by decide +kernel)
theorem k223 : (Jvm.Cond.fieldLink "KingsBalance" (12 : Nat) "KingsBalance" "realm" "LKingsBalance$Realm;") ∈ TT := TT_o1 223 (by decide +kernel) (by decide +kernel)
theorem k224 : (Jvm.Cond.fieldLink "KingsBalance" (18 : Nat) "KingsBalance" "kept" "LKingsBalance$Realm;") ∈ TT := TT_o1 224 (by decide +kernel) (by decide +kernel)
theorem k225 : (Jvm.Cond.fieldLink "KingsBalance" (21 : Nat) "KingsBalance" "hasImage" "Z") ∈ TT := TT_o1 225 (by decide +kernel) (by decide +kernel)
theorem k180 : (Jvm.Cond.classLink "KingsBalance" (25 : Nat) "KingsBalance$World") ∈ TT := TT_o1 180 (by decide +kernel) (by decide +kernel)
theorem k4 : (Jvm.Cond.initialized "KingsBalance$World") ∈ TT := TT_o1 4 (by decide +kernel) (by decide +kernel)
theorem k61 : (Jvm.Cond.code ({ cls := "KingsBalance$World", name := "<init>", desc := "()V" } : Jvm.MethodName) prog_12_method_1_code (1 : Nat) (Option.none : Option Jvm.ClassFile.FieldType)) ∈ TT := TT_o1 61 (by decide +kernel) (by decide +kernel)
theorem k60 : (Jvm.Cond.instanceMethod ({ cls := "KingsBalance$World", name := "<init>", desc := "()V" } : Jvm.MethodName)) ∈ TT := TT_o1 60 (by decide +kernel) (by decide +kernel)
theorem k226 : (Jvm.Cond.fieldLink "KingsBalance" (28 : Nat) "KingsBalance" "draft" "LKingsBalance$World;") ∈ TT := TT_o1 226 (by decide +kernel) (by decide +kernel)
theorem k182 : (Jvm.Cond.classLink "KingsBalance" (32 : Nat) "KingsBalance$Ways") ∈ TT := TT_o1 182 (by decide +kernel) (by decide +kernel)
theorem k5 : (Jvm.Cond.initialized "KingsBalance$Ways") ∈ TT := TT_o1 5 (by decide +kernel) (by decide +kernel)
theorem k186 : (Jvm.Cond.code ({ cls := "KingsBalance$Ways", name := "<init>", desc := "()V" } : Jvm.MethodName) prog_10_method_1_code (1 : Nat) (Option.none : Option Jvm.ClassFile.FieldType)) ∈ TT := TT_o1 186 (by decide +kernel) (by decide +kernel)
theorem k185 : (Jvm.Cond.instanceMethod ({ cls := "KingsBalance$Ways", name := "<init>", desc := "()V" } : Jvm.MethodName)) ∈ TT := TT_o1 185 (by decide +kernel) (by decide +kernel)
theorem k227 : (Jvm.Cond.fieldLink "KingsBalance" (35 : Nat) "KingsBalance" "ways" "LKingsBalance$Ways;") ∈ TT := TT_o1 227 (by decide +kernel) (by decide +kernel)
theorem k228 : (Jvm.Cond.fieldLink "KingsBalance" (39 : Nat) "KingsBalance" "bodies" "[I") ∈ TT := TT_o1 228 (by decide +kernel) (by decide +kernel)
theorem k229 : (Jvm.Cond.fieldLink "KingsBalance" (43 : Nat) "KingsBalance" "daredNow" "[I") ∈ TT := TT_o1 229 (by decide +kernel) (by decide +kernel)
theorem k1 : (Jvm.Cond.initialized "KingsBalance") ∈ TT := TT_o1 1 (by decide +kernel) (by decide +kernel)
theorem k251 : (Jvm.Cond.code ({ cls := "KingsBalance", name := "outside", desc := "(II)Z" } : Jvm.MethodName) prog_1_method_35_code (2 : Nat) (Option.some Jvm.ClassFile.FieldType.boolean)) ∈ TT := TT_o2 11 (by decide +kernel) (by decide +kernel)
theorem k249 : (Jvm.Cond.methodLink "KingsBalance" (46 : Nat) ({ cls := "KingsBalance", name := "outside", desc := "(II)Z" } : Jvm.MethodName)) ∈ TT := TT_o2 9 (by decide +kernel) (by decide +kernel)
theorem k250 : (Jvm.Cond.static ({ cls := "KingsBalance", name := "outside", desc := "(II)Z" } : Jvm.MethodName)) ∈ TT := TT_o2 10 (by decide +kernel) (by decide +kernel)
theorem k105 : (Jvm.Cond.fieldLink "KingsBalance" (50 : Nat) "KingsBalance$Realm" "kings" "I") ∈ TT := TT_o1 105 (by decide +kernel) (by decide +kernel)
theorem k255 : (Jvm.Cond.code ({ cls := "KingsBalance$Realm", name := "add", desc := "(II)I" } : Jvm.MethodName) prog_5_method_6_code (4 : Nat) (Option.some Jvm.ClassFile.FieldType.int)) ∈ TT := TT_o2 15 (by decide +kernel) (by decide +kernel)
theorem k252 : (Jvm.Cond.methodLink "KingsBalance" (54 : Nat) ({ cls := "KingsBalance$Realm", name := "add", desc := "(II)I" } : Jvm.MethodName)) ∈ TT := TT_o2 12 (by decide +kernel) (by decide +kernel)
theorem k253 : (Jvm.Cond.instanceMethod ({ cls := "KingsBalance$Realm", name := "add", desc := "(II)I" } : Jvm.MethodName)) ∈ TT := TT_o2 13 (by decide +kernel) (by decide +kernel)
theorem k254 : (Jvm.Cond.selects "KingsBalance$Realm" ({ cls := "KingsBalance$Realm", name := "add", desc := "(II)I" } : Jvm.MethodName) ({ cls := "KingsBalance$Realm", name := "add", desc := "(II)I" } : Jvm.MethodName)) ∈ TT := TT_o2 14 (by decide +kernel) (by decide +kernel)
theorem k263 : (Jvm.Cond.code ({ cls := "KingsBalance$Realm", name := "has", desc := "(I)Z" } : Jvm.MethodName) prog_5_method_3_code (2 : Nat) (Option.some Jvm.ClassFile.FieldType.boolean)) ∈ TT := TT_o2 23 (by decide +kernel) (by decide +kernel)
theorem k260 : (Jvm.Cond.methodLink "KingsBalance" (58 : Nat) ({ cls := "KingsBalance$Realm", name := "has", desc := "(I)Z" } : Jvm.MethodName)) ∈ TT := TT_o2 20 (by decide +kernel) (by decide +kernel)
theorem k261 : (Jvm.Cond.instanceMethod ({ cls := "KingsBalance$Realm", name := "has", desc := "(I)Z" } : Jvm.MethodName)) ∈ TT := TT_o2 21 (by decide +kernel) (by decide +kernel)
theorem k262 : (Jvm.Cond.selects "KingsBalance$Realm" ({ cls := "KingsBalance$Realm", name := "has", desc := "(I)Z" } : Jvm.MethodName) ({ cls := "KingsBalance$Realm", name := "has", desc := "(I)Z" } : Jvm.MethodName)) ∈ TT := TT_o2 22 (by decide +kernel) (by decide +kernel)
theorem k125 : (Jvm.Cond.fieldLink "KingsBalance" (62 : Nat) "KingsBalance$Realm" "strength" "[I") ∈ TT := TT_o1 125 (by decide +kernel) (by decide +kernel)
theorem k129 : (Jvm.Cond.fieldLink "KingsBalance" (65 : Nat) "KingsBalance$Realm" "place" "[I") ∈ TT := TT_o1 129 (by decide +kernel) (by decide +kernel)
theorem k267 : (Jvm.Cond.code ({ cls := "KingsBalance$Realm", name := "lives", desc := "(I)Z" } : Jvm.MethodName) prog_5_method_4_code (2 : Nat) (Option.some Jvm.ClassFile.FieldType.boolean)) ∈ TT := TT_o2 27 (by decide +kernel) (by decide +kernel)
theorem k264 : (Jvm.Cond.methodLink "KingsBalance" (68 : Nat) ({ cls := "KingsBalance$Realm", name := "lives", desc := "(I)Z" } : Jvm.MethodName)) ∈ TT := TT_o2 24 (by decide +kernel) (by decide +kernel)
theorem k265 : (Jvm.Cond.instanceMethod ({ cls := "KingsBalance$Realm", name := "lives", desc := "(I)Z" } : Jvm.MethodName)) ∈ TT := TT_o2 25 (by decide +kernel) (by decide +kernel)
theorem k266 : (Jvm.Cond.selects "KingsBalance$Realm" ({ cls := "KingsBalance$Realm", name := "lives", desc := "(I)Z" } : Jvm.MethodName) ({ cls := "KingsBalance$Realm", name := "lives", desc := "(I)Z" } : Jvm.MethodName)) ∈ TT := TT_o2 26 (by decide +kernel) (by decide +kernel)
theorem k132 : (Jvm.Cond.fieldLink "KingsBalance" (71 : Nat) "KingsBalance$Realm" "owner" "[I") ∈ TT := TT_o1 132 (by decide +kernel) (by decide +kernel)
theorem k134 : (Jvm.Cond.fieldLink "KingsBalance" (74 : Nat) "KingsBalance$Realm" "worth" "[[I") ∈ TT := TT_o1 134 (by decide +kernel) (by decide +kernel)
theorem k138 : (Jvm.Cond.fieldLink "KingsBalance" (78 : Nat) "KingsBalance$Realm" "pact" "[[I") ∈ TT := TT_o1 138 (by decide +kernel) (by decide +kernel)
theorem k140 : (Jvm.Cond.fieldLink "KingsBalance" (81 : Nat) "KingsBalance$Realm" "tape" "LKingsBalance$Tape;") ∈ TT := TT_o1 140 (by decide +kernel) (by decide +kernel)
theorem k46 : (Jvm.Cond.fieldLink "KingsBalance" (85 : Nat) "KingsBalance$Tape" "size" "I") ∈ TT := TT_o1 46 (by decide +kernel) (by decide +kernel)
theorem k3 : (Jvm.Cond.initialized "KingsBalance$Tape") ∈ TT := TT_o1 3 (by decide +kernel) (by decide +kernel)
theorem k287 : (Jvm.Cond.code ({ cls := "KingsBalance$Tape", name := "put", desc := "(I)V" } : Jvm.MethodName) prog_8_method_3_code (2 : Nat) (Option.none : Option Jvm.ClassFile.FieldType)) ∈ TT := TT_o2 47 (by decide +kernel) (by decide +kernel)
theorem k284 : (Jvm.Cond.methodLink "KingsBalance" (90 : Nat) ({ cls := "KingsBalance$Tape", name := "put", desc := "(I)V" } : Jvm.MethodName)) ∈ TT := TT_o2 44 (by decide +kernel) (by decide +kernel)
theorem k285 : (Jvm.Cond.instanceMethod ({ cls := "KingsBalance$Tape", name := "put", desc := "(I)V" } : Jvm.MethodName)) ∈ TT := TT_o2 45 (by decide +kernel) (by decide +kernel)
theorem k286 : (Jvm.Cond.selects "KingsBalance$Tape" ({ cls := "KingsBalance$Tape", name := "put", desc := "(I)V" } : Jvm.MethodName) ({ cls := "KingsBalance$Tape", name := "put", desc := "(I)V" } : Jvm.MethodName)) ∈ TT := TT_o2 46 (by decide +kernel) (by decide +kernel)
theorem k295 : (Jvm.Cond.code ({ cls := "KingsBalance$World", name := "read", desc := "(LKingsBalance$Tape;)I" } : Jvm.MethodName) prog_12_method_4_code (3 : Nat) (Option.some Jvm.ClassFile.FieldType.int)) ∈ TT := TT_o2 55 (by decide +kernel) (by decide +kernel)
theorem k292 : (Jvm.Cond.methodLink "KingsBalance" (94 : Nat) ({ cls := "KingsBalance$World", name := "read", desc := "(LKingsBalance$Tape;)I" } : Jvm.MethodName)) ∈ TT := TT_o2 52 (by decide +kernel) (by decide +kernel)
theorem k293 : (Jvm.Cond.instanceMethod ({ cls := "KingsBalance$World", name := "read", desc := "(LKingsBalance$Tape;)I" } : Jvm.MethodName)) ∈ TT := TT_o2 53 (by decide +kernel) (by decide +kernel)
theorem k294 : (Jvm.Cond.selects "KingsBalance$World" ({ cls := "KingsBalance$World", name := "read", desc := "(LKingsBalance$Tape;)I" } : Jvm.MethodName) ({ cls := "KingsBalance$World", name := "read", desc := "(LKingsBalance$Tape;)I" } : Jvm.MethodName)) ∈ TT := TT_o2 54 (by decide +kernel) (by decide +kernel)
theorem k144 : (Jvm.Cond.fieldLink "KingsBalance" (98 : Nat) "KingsBalance$Realm" "world" "LKingsBalance$World;") ∈ TT := TT_o1 144 (by decide +kernel) (by decide +kernel)
theorem k406 : (Jvm.Cond.code ({ cls := "KingsBalance$World", name := "become", desc := "(LKingsBalance$World;)V" } : Jvm.MethodName) prog_12_method_2_code (2 : Nat) (Option.none : Option Jvm.ClassFile.FieldType)) ∈ TT := TT_o2 166 (by decide +kernel) (by decide +kernel)
theorem k403 : (Jvm.Cond.methodLink "KingsBalance" (101 : Nat) ({ cls := "KingsBalance$World", name := "become", desc := "(LKingsBalance$World;)V" } : Jvm.MethodName)) ∈ TT := TT_o2 163 (by decide +kernel) (by decide +kernel)
theorem k404 : (Jvm.Cond.instanceMethod ({ cls := "KingsBalance$World", name := "become", desc := "(LKingsBalance$World;)V" } : Jvm.MethodName)) ∈ TT := TT_o2 164 (by decide +kernel) (by decide +kernel)
theorem k405 : (Jvm.Cond.selects "KingsBalance$World" ({ cls := "KingsBalance$World", name := "become", desc := "(LKingsBalance$World;)V" } : Jvm.MethodName) ({ cls := "KingsBalance$World", name := "become", desc := "(LKingsBalance$World;)V" } : Jvm.MethodName)) ∈ TT := TT_o2 165 (by decide +kernel) (by decide +kernel)
theorem k117 : (Jvm.Cond.fieldLink "KingsBalance" (105 : Nat) "KingsBalance$Realm" "worlds" "I") ∈ TT := TT_o1 117 (by decide +kernel) (by decide +kernel)
theorem k418 : (Jvm.Cond.code ({ cls := "KingsBalance$World", name := "costOf", desc := "(LKingsBalance$Realm;II)I" } : Jvm.MethodName) prog_12_method_3_code (10 : Nat) (Option.some Jvm.ClassFile.FieldType.int)) ∈ TT := TT_o2 178 (by decide +kernel) (by decide +kernel)
theorem k415 : (Jvm.Cond.methodLink "KingsBalance" (108 : Nat) ({ cls := "KingsBalance$World", name := "costOf", desc := "(LKingsBalance$Realm;II)I" } : Jvm.MethodName)) ∈ TT := TT_o2 175 (by decide +kernel) (by decide +kernel)
theorem k416 : (Jvm.Cond.instanceMethod ({ cls := "KingsBalance$World", name := "costOf", desc := "(LKingsBalance$Realm;II)I" } : Jvm.MethodName)) ∈ TT := TT_o2 176 (by decide +kernel) (by decide +kernel)
theorem k417 : (Jvm.Cond.selects "KingsBalance$World" ({ cls := "KingsBalance$World", name := "costOf", desc := "(LKingsBalance$Realm;II)I" } : Jvm.MethodName) ({ cls := "KingsBalance$World", name := "costOf", desc := "(LKingsBalance$Realm;II)I" } : Jvm.MethodName)) ∈ TT := TT_o2 177 (by decide +kernel) (by decide +kernel)
theorem k429 : (Jvm.Cond.code ({ cls := "KingsBalance$Realm", name := "forceAt", desc := "(II)I" } : Jvm.MethodName) prog_5_method_7_code (3 : Nat) (Option.some Jvm.ClassFile.FieldType.int)) ∈ TT := TT_o2 189 (by decide +kernel) (by decide +kernel)
theorem k426 : (Jvm.Cond.methodLink "KingsBalance" (112 : Nat) ({ cls := "KingsBalance$Realm", name := "forceAt", desc := "(II)I" } : Jvm.MethodName)) ∈ TT := TT_o2 186 (by decide +kernel) (by decide +kernel)
theorem k427 : (Jvm.Cond.instanceMethod ({ cls := "KingsBalance$Realm", name := "forceAt", desc := "(II)I" } : Jvm.MethodName)) ∈ TT := TT_o2 187 (by decide +kernel) (by decide +kernel)
theorem k428 : (Jvm.Cond.selects "KingsBalance$Realm" ({ cls := "KingsBalance$Realm", name := "forceAt", desc := "(II)I" } : Jvm.MethodName) ({ cls := "KingsBalance$Realm", name := "forceAt", desc := "(II)I" } : Jvm.MethodName)) ∈ TT := TT_o2 188 (by decide +kernel) (by decide +kernel)
theorem k119 : (Jvm.Cond.fieldLink "KingsBalance" (115 : Nat) "KingsBalance$Realm" "standings" "I") ∈ TT := TT_o1 119 (by decide +kernel) (by decide +kernel)
theorem k146 : (Jvm.Cond.fieldLink "KingsBalance" (118 : Nat) "KingsBalance$Realm" "standing" "[LKingsBalance$Standing;") ∈ TT := TT_o1 146 (by decide +kernel) (by decide +kernel)
theorem k440 : (Jvm.Cond.code ({ cls := "KingsBalance", name := "made", desc := "(III)LKingsBalance$Standing;" } : Jvm.MethodName) prog_1_method_37_code (3 : Nat) (Option.some (Jvm.ClassFile.FieldType.object "KingsBalance$Standing"))) ∈ TT := TT_o2 200 (by decide +kernel) (by decide +kernel)
theorem k438 : (Jvm.Cond.methodLink "KingsBalance" (122 : Nat) ({ cls := "KingsBalance", name := "made", desc := "(III)LKingsBalance$Standing;" } : Jvm.MethodName)) ∈ TT := TT_o2 198 (by decide +kernel) (by decide +kernel)
theorem k439 : (Jvm.Cond.static ({ cls := "KingsBalance", name := "made", desc := "(III)LKingsBalance$Standing;" } : Jvm.MethodName)) ∈ TT := TT_o2 199 (by decide +kernel) (by decide +kernel)
theorem k501 : (Jvm.Cond.code ({ cls := "KingsBalance$Realm", name := "standingAt", desc := "(I)LKingsBalance$Standing;" } : Jvm.MethodName) prog_5_method_5_code (2 : Nat) (Option.some (Jvm.ClassFile.FieldType.object "KingsBalance$Standing"))) ∈ TT := TT_o3 21 (by decide +kernel) (by decide +kernel)
theorem k498 : (Jvm.Cond.methodLink "KingsBalance" (126 : Nat) ({ cls := "KingsBalance$Realm", name := "standingAt", desc := "(I)LKingsBalance$Standing;" } : Jvm.MethodName)) ∈ TT := TT_o3 18 (by decide +kernel) (by decide +kernel)
theorem k499 : (Jvm.Cond.instanceMethod ({ cls := "KingsBalance$Realm", name := "standingAt", desc := "(I)LKingsBalance$Standing;" } : Jvm.MethodName)) ∈ TT := TT_o3 19 (by decide +kernel) (by decide +kernel)
theorem k500 : (Jvm.Cond.selects "KingsBalance$Realm" ({ cls := "KingsBalance$Realm", name := "standingAt", desc := "(I)LKingsBalance$Standing;" } : Jvm.MethodName) ({ cls := "KingsBalance$Realm", name := "standingAt", desc := "(I)LKingsBalance$Standing;" } : Jvm.MethodName)) ∈ TT := TT_o3 20 (by decide +kernel) (by decide +kernel)
theorem k150 : (Jvm.Cond.fieldLink "KingsBalance" (130 : Nat) "KingsBalance$Realm" "block" "[[I") ∈ TT := TT_o1 150 (by decide +kernel) (by decide +kernel)
theorem k509 : (Jvm.Cond.code ({ cls := "KingsBalance", name := "pairRefusal", desc := "(II)I" } : Jvm.MethodName) prog_1_method_36_code (3 : Nat) (Option.some Jvm.ClassFile.FieldType.int)) ∈ TT := TT_o3 29 (by decide +kernel) (by decide +kernel)
theorem k506 : (Jvm.Cond.methodLink "KingsBalance" (133 : Nat) ({ cls := "KingsBalance", name := "pairRefusal", desc := "(II)I" } : Jvm.MethodName)) ∈ TT := TT_o3 26 (by decide +kernel) (by decide +kernel)
theorem k508 : (Jvm.Cond.instanceMethod ({ cls := "KingsBalance", name := "pairRefusal", desc := "(II)I" } : Jvm.MethodName)) ∈ TT := TT_o3 28 (by decide +kernel) (by decide +kernel)
theorem s8 : (Cond.selects "KingsBalance" ⟨"KingsBalance", "pairRefusal", "(II)I"⟩ ⟨"KingsBalance", "pairRefusal", "(II)I"⟩) ∈ TT := TT_sel 8 (by decide +kernel) (by decide +kernel)
theorem k6 : (Jvm.Cond.initialized "KingsBalance$Standing") ∈ TT := TT_o1 6 (by decide +kernel) (by decide +kernel)
theorem k572 : (Jvm.Cond.code ({ cls := "KingsBalance$Standing", name := "camps", desc := "(LKingsBalance$Realm;II)I" } : Jvm.MethodName) prog_7_method_2_code (4 : Nat) (Option.some Jvm.ClassFile.FieldType.int)) ∈ TT := TT_o3 92 (by decide +kernel) (by decide +kernel)
theorem k510 : (Jvm.Cond.methodLink "KingsBalance" (136 : Nat) ({ cls := "KingsBalance$Standing", name := "camps", desc := "(LKingsBalance$Realm;II)I" } : Jvm.MethodName)) ∈ TT := TT_o3 30 (by decide +kernel) (by decide +kernel)
theorem k513 : (Jvm.Cond.sameMethod "KingsBalance$Standing" "KingsBalance$Standing" "camps" "(LKingsBalance$Realm;II)I") ∈ TT := TT_o3 33 (by decide +kernel) (by decide +kernel)
theorem k511 : (Jvm.Cond.instanceMethod ({ cls := "KingsBalance$Standing", name := "camps", desc := "(LKingsBalance$Realm;II)I" } : Jvm.MethodName)) ∈ TT := TT_o3 31 (by decide +kernel) (by decide +kernel)
theorem k512 : (Jvm.Cond.selects "KingsBalance$Standing" ({ cls := "KingsBalance$Standing", name := "camps", desc := "(LKingsBalance$Realm;II)I" } : Jvm.MethodName) ({ cls := "KingsBalance$Standing", name := "camps", desc := "(LKingsBalance$Realm;II)I" } : Jvm.MethodName)) ∈ TT := TT_o3 32 (by decide +kernel) (by decide +kernel)
theorem k15 : (Jvm.Cond.initialized "KingsBalance$Alone") ∈ TT := TT_o1 15 (by decide +kernel) (by decide +kernel)
theorem k516 : (Jvm.Cond.code ({ cls := "KingsBalance$Alone", name := "camps", desc := "(LKingsBalance$Realm;II)I" } : Jvm.MethodName) prog_2_method_2_code (4 : Nat) (Option.some Jvm.ClassFile.FieldType.int)) ∈ TT := TT_o3 36 (by decide +kernel) (by decide +kernel)
theorem k514 : (Jvm.Cond.selects "KingsBalance$Alone" ({ cls := "KingsBalance$Standing", name := "camps", desc := "(LKingsBalance$Realm;II)I" } : Jvm.MethodName) ({ cls := "KingsBalance$Alone", name := "camps", desc := "(LKingsBalance$Realm;II)I" } : Jvm.MethodName)) ∈ TT := TT_o3 34 (by decide +kernel) (by decide +kernel)
theorem k515 : (Jvm.Cond.instanceMethod ({ cls := "KingsBalance$Alone", name := "camps", desc := "(LKingsBalance$Realm;II)I" } : Jvm.MethodName)) ∈ TT := TT_o3 35 (by decide +kernel) (by decide +kernel)
theorem k18 : (Jvm.Cond.initialized "KingsBalance$Guard") ∈ TT := TT_o1 18 (by decide +kernel) (by decide +kernel)
theorem k523 : (Jvm.Cond.code ({ cls := "KingsBalance$Guard", name := "camps", desc := "(LKingsBalance$Realm;II)I" } : Jvm.MethodName) prog_3_method_2_code (4 : Nat) (Option.some Jvm.ClassFile.FieldType.int)) ∈ TT := TT_o3 43 (by decide +kernel) (by decide +kernel)
theorem k521 : (Jvm.Cond.selects "KingsBalance$Guard" ({ cls := "KingsBalance$Standing", name := "camps", desc := "(LKingsBalance$Realm;II)I" } : Jvm.MethodName) ({ cls := "KingsBalance$Guard", name := "camps", desc := "(LKingsBalance$Realm;II)I" } : Jvm.MethodName)) ∈ TT := TT_o3 41 (by decide +kernel) (by decide +kernel)
theorem k522 : (Jvm.Cond.instanceMethod ({ cls := "KingsBalance$Guard", name := "camps", desc := "(LKingsBalance$Realm;II)I" } : Jvm.MethodName)) ∈ TT := TT_o3 42 (by decide +kernel) (by decide +kernel)
theorem k17 : (Jvm.Cond.initialized "KingsBalance$League") ∈ TT := TT_o1 17 (by decide +kernel) (by decide +kernel)
theorem k533 : (Jvm.Cond.code ({ cls := "KingsBalance$League", name := "camps", desc := "(LKingsBalance$Realm;II)I" } : Jvm.MethodName) prog_4_method_2_code (5 : Nat) (Option.some Jvm.ClassFile.FieldType.int)) ∈ TT := TT_o3 53 (by decide +kernel) (by decide +kernel)
theorem k531 : (Jvm.Cond.selects "KingsBalance$League" ({ cls := "KingsBalance$Standing", name := "camps", desc := "(LKingsBalance$Realm;II)I" } : Jvm.MethodName) ({ cls := "KingsBalance$League", name := "camps", desc := "(LKingsBalance$Realm;II)I" } : Jvm.MethodName)) ∈ TT := TT_o3 51 (by decide +kernel) (by decide +kernel)
theorem k532 : (Jvm.Cond.instanceMethod ({ cls := "KingsBalance$League", name := "camps", desc := "(LKingsBalance$Realm;II)I" } : Jvm.MethodName)) ∈ TT := TT_o3 52 (by decide +kernel) (by decide +kernel)
theorem k7 : (Jvm.Cond.initialized "KingsBalance$Sides") ∈ TT := TT_o1 7 (by decide +kernel) (by decide +kernel)
theorem k546 : (Jvm.Cond.code ({ cls := "KingsBalance$Sides", name := "camps", desc := "(LKingsBalance$Realm;II)I" } : Jvm.MethodName) prog_6_method_2_code (5 : Nat) (Option.some Jvm.ClassFile.FieldType.int)) ∈ TT := TT_o3 66 (by decide +kernel) (by decide +kernel)
theorem k552 : (Jvm.Cond.selects "KingsBalance$Sides" ({ cls := "KingsBalance$Standing", name := "camps", desc := "(LKingsBalance$Realm;II)I" } : Jvm.MethodName) ({ cls := "KingsBalance$Sides", name := "camps", desc := "(LKingsBalance$Realm;II)I" } : Jvm.MethodName)) ∈ TT := TT_o3 72 (by decide +kernel) (by decide +kernel)
theorem k545 : (Jvm.Cond.instanceMethod ({ cls := "KingsBalance$Sides", name := "camps", desc := "(LKingsBalance$Realm;II)I" } : Jvm.MethodName)) ∈ TT := TT_o3 65 (by decide +kernel) (by decide +kernel)
theorem k19 : (Jvm.Cond.initialized "KingsBalance$True") ∈ TT := TT_o1 19 (by decide +kernel) (by decide +kernel)
theorem k555 : (Jvm.Cond.code ({ cls := "KingsBalance$True", name := "camps", desc := "(LKingsBalance$Realm;II)I" } : Jvm.MethodName) prog_9_method_2_code (5 : Nat) (Option.some Jvm.ClassFile.FieldType.int)) ∈ TT := TT_o3 75 (by decide +kernel) (by decide +kernel)
theorem k553 : (Jvm.Cond.selects "KingsBalance$True" ({ cls := "KingsBalance$Standing", name := "camps", desc := "(LKingsBalance$Realm;II)I" } : Jvm.MethodName) ({ cls := "KingsBalance$True", name := "camps", desc := "(LKingsBalance$Realm;II)I" } : Jvm.MethodName)) ∈ TT := TT_o3 73 (by decide +kernel) (by decide +kernel)
theorem k554 : (Jvm.Cond.instanceMethod ({ cls := "KingsBalance$True", name := "camps", desc := "(LKingsBalance$Realm;II)I" } : Jvm.MethodName)) ∈ TT := TT_o3 74 (by decide +kernel) (by decide +kernel)
theorem k16 : (Jvm.Cond.initialized "KingsBalance$Web") ∈ TT := TT_o1 16 (by decide +kernel) (by decide +kernel)
theorem k528 : (Jvm.Cond.code ({ cls := "KingsBalance$Web", name := "camps", desc := "(LKingsBalance$Realm;II)I" } : Jvm.MethodName) prog_11_method_2_code (11 : Nat) (Option.some Jvm.ClassFile.FieldType.int)) ∈ TT := TT_o3 48 (by decide +kernel) (by decide +kernel)
theorem k571 : (Jvm.Cond.selects "KingsBalance$Web" ({ cls := "KingsBalance$Standing", name := "camps", desc := "(LKingsBalance$Realm;II)I" } : Jvm.MethodName) ({ cls := "KingsBalance$Web", name := "camps", desc := "(LKingsBalance$Realm;II)I" } : Jvm.MethodName)) ∈ TT := TT_o3 91 (by decide +kernel) (by decide +kernel)
theorem k527 : (Jvm.Cond.instanceMethod ({ cls := "KingsBalance$Web", name := "camps", desc := "(LKingsBalance$Realm;II)I" } : Jvm.MethodName)) ∈ TT := TT_o3 47 (by decide +kernel) (by decide +kernel)
theorem k488 : (Jvm.Cond.classLink "KingsBalance" (137 : Nat) "KingsBalance$Standing") ∈ TT := TT_o3 8 (by decide +kernel) (by decide +kernel)
theorem k560 : (Jvm.Cond.code ({ cls := "KingsBalance$Standing", name := "attackers", desc := "(I)I" } : Jvm.MethodName) prog_7_method_4_code (1 : Nat) (Option.some Jvm.ClassFile.FieldType.int)) ∈ TT := TT_o3 80 (by decide +kernel) (by decide +kernel)
theorem k574 : (Jvm.Cond.methodLink "KingsBalance" (141 : Nat) ({ cls := "KingsBalance$Standing", name := "attackers", desc := "(I)I" } : Jvm.MethodName)) ∈ TT := TT_o3 94 (by decide +kernel) (by decide +kernel)
theorem k559 : (Jvm.Cond.static ({ cls := "KingsBalance$Standing", name := "attackers", desc := "(I)I" } : Jvm.MethodName)) ∈ TT := TT_o3 79 (by decide +kernel) (by decide +kernel)
theorem k568 : (Jvm.Cond.code ({ cls := "KingsBalance$Standing", name := "defenders", desc := "(I)I" } : Jvm.MethodName) prog_7_method_5_code (1 : Nat) (Option.some Jvm.ClassFile.FieldType.int)) ∈ TT := TT_o3 88 (by decide +kernel) (by decide +kernel)
theorem k575 : (Jvm.Cond.methodLink "KingsBalance" (145 : Nat) ({ cls := "KingsBalance$Standing", name := "defenders", desc := "(I)I" } : Jvm.MethodName)) ∈ TT := TT_o3 95 (by decide +kernel) (by decide +kernel)
theorem k567 : (Jvm.Cond.static ({ cls := "KingsBalance$Standing", name := "defenders", desc := "(I)I" } : Jvm.MethodName)) ∈ TT := TT_o3 87 (by decide +kernel) (by decide +kernel)
theorem k584 : (Jvm.Cond.code ({ cls := "KingsBalance$Realm", name := "forcesAt", desc := "(II)I" } : Jvm.MethodName) prog_5_method_8_code (5 : Nat) (Option.some Jvm.ClassFile.FieldType.int)) ∈ TT := TT_o3 104 (by decide +kernel) (by decide +kernel)
theorem k581 : (Jvm.Cond.methodLink "KingsBalance" (150 : Nat) ({ cls := "KingsBalance$Realm", name := "forcesAt", desc := "(II)I" } : Jvm.MethodName)) ∈ TT := TT_o3 101 (by decide +kernel) (by decide +kernel)
theorem k582 : (Jvm.Cond.instanceMethod ({ cls := "KingsBalance$Realm", name := "forcesAt", desc := "(II)I" } : Jvm.MethodName)) ∈ TT := TT_o3 102 (by decide +kernel) (by decide +kernel)
theorem k583 : (Jvm.Cond.selects "KingsBalance$Realm" ({ cls := "KingsBalance$Realm", name := "forcesAt", desc := "(II)I" } : Jvm.MethodName) ({ cls := "KingsBalance$Realm", name := "forcesAt", desc := "(II)I" } : Jvm.MethodName)) ∈ TT := TT_o3 103 (by decide +kernel) (by decide +kernel)
theorem k600 : (Jvm.Cond.code ({ cls := "KingsBalance$Standing", name := "prey", desc := "(LKingsBalance$Realm;I)I" } : Jvm.MethodName) prog_7_method_7_code (5 : Nat) (Option.some Jvm.ClassFile.FieldType.int)) ∈ TT := TT_o3 120 (by decide +kernel) (by decide +kernel)
theorem k590 : (Jvm.Cond.methodLink "KingsBalance" (153 : Nat) ({ cls := "KingsBalance$Standing", name := "prey", desc := "(LKingsBalance$Realm;I)I" } : Jvm.MethodName)) ∈ TT := TT_o3 110 (by decide +kernel) (by decide +kernel)
theorem k593 : (Jvm.Cond.sameMethod "KingsBalance$Standing" "KingsBalance$Standing" "prey" "(LKingsBalance$Realm;I)I") ∈ TT := TT_o3 113 (by decide +kernel) (by decide +kernel)
theorem k591 : (Jvm.Cond.instanceMethod ({ cls := "KingsBalance$Standing", name := "prey", desc := "(LKingsBalance$Realm;I)I" } : Jvm.MethodName)) ∈ TT := TT_o3 111 (by decide +kernel) (by decide +kernel)
theorem k592 : (Jvm.Cond.selects "KingsBalance$Standing" ({ cls := "KingsBalance$Standing", name := "prey", desc := "(LKingsBalance$Realm;I)I" } : Jvm.MethodName) ({ cls := "KingsBalance$Standing", name := "prey", desc := "(LKingsBalance$Realm;I)I" } : Jvm.MethodName)) ∈ TT := TT_o3 112 (by decide +kernel) (by decide +kernel)
theorem k594 : (Jvm.Cond.selects "KingsBalance$Alone" ({ cls := "KingsBalance$Standing", name := "prey", desc := "(LKingsBalance$Realm;I)I" } : Jvm.MethodName) ({ cls := "KingsBalance$Standing", name := "prey", desc := "(LKingsBalance$Realm;I)I" } : Jvm.MethodName)) ∈ TT := TT_o3 114 (by decide +kernel) (by decide +kernel)
theorem k595 : (Jvm.Cond.selects "KingsBalance$Guard" ({ cls := "KingsBalance$Standing", name := "prey", desc := "(LKingsBalance$Realm;I)I" } : Jvm.MethodName) ({ cls := "KingsBalance$Standing", name := "prey", desc := "(LKingsBalance$Realm;I)I" } : Jvm.MethodName)) ∈ TT := TT_o3 115 (by decide +kernel) (by decide +kernel)
theorem k596 : (Jvm.Cond.selects "KingsBalance$League" ({ cls := "KingsBalance$Standing", name := "prey", desc := "(LKingsBalance$Realm;I)I" } : Jvm.MethodName) ({ cls := "KingsBalance$Standing", name := "prey", desc := "(LKingsBalance$Realm;I)I" } : Jvm.MethodName)) ∈ TT := TT_o3 116 (by decide +kernel) (by decide +kernel)
theorem k597 : (Jvm.Cond.selects "KingsBalance$Sides" ({ cls := "KingsBalance$Standing", name := "prey", desc := "(LKingsBalance$Realm;I)I" } : Jvm.MethodName) ({ cls := "KingsBalance$Standing", name := "prey", desc := "(LKingsBalance$Realm;I)I" } : Jvm.MethodName)) ∈ TT := TT_o3 117 (by decide +kernel) (by decide +kernel)
theorem k598 : (Jvm.Cond.selects "KingsBalance$True" ({ cls := "KingsBalance$Standing", name := "prey", desc := "(LKingsBalance$Realm;I)I" } : Jvm.MethodName) ({ cls := "KingsBalance$Standing", name := "prey", desc := "(LKingsBalance$Realm;I)I" } : Jvm.MethodName)) ∈ TT := TT_o3 118 (by decide +kernel) (by decide +kernel)
theorem k599 : (Jvm.Cond.selects "KingsBalance$Web" ({ cls := "KingsBalance$Standing", name := "prey", desc := "(LKingsBalance$Realm;I)I" } : Jvm.MethodName) ({ cls := "KingsBalance$Standing", name := "prey", desc := "(LKingsBalance$Realm;I)I" } : Jvm.MethodName)) ∈ TT := TT_o3 119 (by decide +kernel) (by decide +kernel)
theorem k621 : (Jvm.Cond.code ({ cls := "KingsBalance$Standing", name := "hunters", desc := "(LKingsBalance$Realm;I)I" } : Jvm.MethodName) prog_7_method_8_code (5 : Nat) (Option.some Jvm.ClassFile.FieldType.int)) ∈ TT := TT_o3 141 (by decide +kernel) (by decide +kernel)
theorem k611 : (Jvm.Cond.methodLink "KingsBalance" (157 : Nat) ({ cls := "KingsBalance$Standing", name := "hunters", desc := "(LKingsBalance$Realm;I)I" } : Jvm.MethodName)) ∈ TT := TT_o3 131 (by decide +kernel) (by decide +kernel)
theorem k614 : (Jvm.Cond.sameMethod "KingsBalance$Standing" "KingsBalance$Standing" "hunters" "(LKingsBalance$Realm;I)I") ∈ TT := TT_o3 134 (by decide +kernel) (by decide +kernel)
theorem k612 : (Jvm.Cond.instanceMethod ({ cls := "KingsBalance$Standing", name := "hunters", desc := "(LKingsBalance$Realm;I)I" } : Jvm.MethodName)) ∈ TT := TT_o3 132 (by decide +kernel) (by decide +kernel)
theorem k613 : (Jvm.Cond.selects "KingsBalance$Standing" ({ cls := "KingsBalance$Standing", name := "hunters", desc := "(LKingsBalance$Realm;I)I" } : Jvm.MethodName) ({ cls := "KingsBalance$Standing", name := "hunters", desc := "(LKingsBalance$Realm;I)I" } : Jvm.MethodName)) ∈ TT := TT_o3 133 (by decide +kernel) (by decide +kernel)
theorem k615 : (Jvm.Cond.selects "KingsBalance$Alone" ({ cls := "KingsBalance$Standing", name := "hunters", desc := "(LKingsBalance$Realm;I)I" } : Jvm.MethodName) ({ cls := "KingsBalance$Standing", name := "hunters", desc := "(LKingsBalance$Realm;I)I" } : Jvm.MethodName)) ∈ TT := TT_o3 135 (by decide +kernel) (by decide +kernel)
theorem k616 : (Jvm.Cond.selects "KingsBalance$Guard" ({ cls := "KingsBalance$Standing", name := "hunters", desc := "(LKingsBalance$Realm;I)I" } : Jvm.MethodName) ({ cls := "KingsBalance$Standing", name := "hunters", desc := "(LKingsBalance$Realm;I)I" } : Jvm.MethodName)) ∈ TT := TT_o3 136 (by decide +kernel) (by decide +kernel)
theorem k617 : (Jvm.Cond.selects "KingsBalance$League" ({ cls := "KingsBalance$Standing", name := "hunters", desc := "(LKingsBalance$Realm;I)I" } : Jvm.MethodName) ({ cls := "KingsBalance$Standing", name := "hunters", desc := "(LKingsBalance$Realm;I)I" } : Jvm.MethodName)) ∈ TT := TT_o3 137 (by decide +kernel) (by decide +kernel)
theorem k618 : (Jvm.Cond.selects "KingsBalance$Sides" ({ cls := "KingsBalance$Standing", name := "hunters", desc := "(LKingsBalance$Realm;I)I" } : Jvm.MethodName) ({ cls := "KingsBalance$Standing", name := "hunters", desc := "(LKingsBalance$Realm;I)I" } : Jvm.MethodName)) ∈ TT := TT_o3 138 (by decide +kernel) (by decide +kernel)
theorem k619 : (Jvm.Cond.selects "KingsBalance$True" ({ cls := "KingsBalance$Standing", name := "hunters", desc := "(LKingsBalance$Realm;I)I" } : Jvm.MethodName) ({ cls := "KingsBalance$Standing", name := "hunters", desc := "(LKingsBalance$Realm;I)I" } : Jvm.MethodName)) ∈ TT := TT_o3 139 (by decide +kernel) (by decide +kernel)
theorem k620 : (Jvm.Cond.selects "KingsBalance$Web" ({ cls := "KingsBalance$Standing", name := "hunters", desc := "(LKingsBalance$Realm;I)I" } : Jvm.MethodName) ({ cls := "KingsBalance$Standing", name := "hunters", desc := "(LKingsBalance$Realm;I)I" } : Jvm.MethodName)) ∈ TT := TT_o3 140 (by decide +kernel) (by decide +kernel)
theorem k636 : (Jvm.Cond.code ({ cls := "KingsBalance$Standing", name := "firstWar", desc := "(LKingsBalance$Realm;)I" } : Jvm.MethodName) prog_7_method_9_code (4 : Nat) (Option.some Jvm.ClassFile.FieldType.int)) ∈ TT := TT_o3 156 (by decide +kernel) (by decide +kernel)
theorem k626 : (Jvm.Cond.methodLink "KingsBalance" (160 : Nat) ({ cls := "KingsBalance$Standing", name := "firstWar", desc := "(LKingsBalance$Realm;)I" } : Jvm.MethodName)) ∈ TT := TT_o3 146 (by decide +kernel) (by decide +kernel)
theorem k629 : (Jvm.Cond.sameMethod "KingsBalance$Standing" "KingsBalance$Standing" "firstWar" "(LKingsBalance$Realm;)I") ∈ TT := TT_o3 149 (by decide +kernel) (by decide +kernel)
theorem k627 : (Jvm.Cond.instanceMethod ({ cls := "KingsBalance$Standing", name := "firstWar", desc := "(LKingsBalance$Realm;)I" } : Jvm.MethodName)) ∈ TT := TT_o3 147 (by decide +kernel) (by decide +kernel)
theorem k628 : (Jvm.Cond.selects "KingsBalance$Standing" ({ cls := "KingsBalance$Standing", name := "firstWar", desc := "(LKingsBalance$Realm;)I" } : Jvm.MethodName) ({ cls := "KingsBalance$Standing", name := "firstWar", desc := "(LKingsBalance$Realm;)I" } : Jvm.MethodName)) ∈ TT := TT_o3 148 (by decide +kernel) (by decide +kernel)
theorem k630 : (Jvm.Cond.selects "KingsBalance$Alone" ({ cls := "KingsBalance$Standing", name := "firstWar", desc := "(LKingsBalance$Realm;)I" } : Jvm.MethodName) ({ cls := "KingsBalance$Standing", name := "firstWar", desc := "(LKingsBalance$Realm;)I" } : Jvm.MethodName)) ∈ TT := TT_o3 150 (by decide +kernel) (by decide +kernel)
theorem k631 : (Jvm.Cond.selects "KingsBalance$Guard" ({ cls := "KingsBalance$Standing", name := "firstWar", desc := "(LKingsBalance$Realm;)I" } : Jvm.MethodName) ({ cls := "KingsBalance$Standing", name := "firstWar", desc := "(LKingsBalance$Realm;)I" } : Jvm.MethodName)) ∈ TT := TT_o3 151 (by decide +kernel) (by decide +kernel)
theorem k632 : (Jvm.Cond.selects "KingsBalance$League" ({ cls := "KingsBalance$Standing", name := "firstWar", desc := "(LKingsBalance$Realm;)I" } : Jvm.MethodName) ({ cls := "KingsBalance$Standing", name := "firstWar", desc := "(LKingsBalance$Realm;)I" } : Jvm.MethodName)) ∈ TT := TT_o3 152 (by decide +kernel) (by decide +kernel)
theorem k633 : (Jvm.Cond.selects "KingsBalance$Sides" ({ cls := "KingsBalance$Standing", name := "firstWar", desc := "(LKingsBalance$Realm;)I" } : Jvm.MethodName) ({ cls := "KingsBalance$Standing", name := "firstWar", desc := "(LKingsBalance$Realm;)I" } : Jvm.MethodName)) ∈ TT := TT_o3 153 (by decide +kernel) (by decide +kernel)
theorem k634 : (Jvm.Cond.selects "KingsBalance$True" ({ cls := "KingsBalance$Standing", name := "firstWar", desc := "(LKingsBalance$Realm;)I" } : Jvm.MethodName) ({ cls := "KingsBalance$Standing", name := "firstWar", desc := "(LKingsBalance$Realm;)I" } : Jvm.MethodName)) ∈ TT := TT_o3 154 (by decide +kernel) (by decide +kernel)
theorem k635 : (Jvm.Cond.selects "KingsBalance$Web" ({ cls := "KingsBalance$Standing", name := "firstWar", desc := "(LKingsBalance$Realm;)I" } : Jvm.MethodName) ({ cls := "KingsBalance$Standing", name := "firstWar", desc := "(LKingsBalance$Realm;)I" } : Jvm.MethodName)) ∈ TT := TT_o3 155 (by decide +kernel) (by decide +kernel)
theorem k644 : (Jvm.Cond.code ({ cls := "KingsBalance$Realm", name := "standsWith", desc := "(II)Z" } : Jvm.MethodName) prog_5_method_10_code (3 : Nat) (Option.some Jvm.ClassFile.FieldType.boolean)) ∈ TT := TT_o3 164 (by decide +kernel) (by decide +kernel)
theorem k641 : (Jvm.Cond.methodLink "KingsBalance" (164 : Nat) ({ cls := "KingsBalance$Realm", name := "standsWith", desc := "(II)Z" } : Jvm.MethodName)) ∈ TT := TT_o3 161 (by decide +kernel) (by decide +kernel)
theorem k642 : (Jvm.Cond.instanceMethod ({ cls := "KingsBalance$Realm", name := "standsWith", desc := "(II)Z" } : Jvm.MethodName)) ∈ TT := TT_o3 162 (by decide +kernel) (by decide +kernel)
theorem k643 : (Jvm.Cond.selects "KingsBalance$Realm" ({ cls := "KingsBalance$Realm", name := "standsWith", desc := "(II)Z" } : Jvm.MethodName) ({ cls := "KingsBalance$Realm", name := "standsWith", desc := "(II)Z" } : Jvm.MethodName)) ∈ TT := TT_o3 163 (by decide +kernel) (by decide +kernel)
theorem k648 : (Jvm.Cond.code ({ cls := "KingsBalance$Realm", name := "bears", desc := "(II)Z" } : Jvm.MethodName) prog_5_method_11_code (3 : Nat) (Option.some Jvm.ClassFile.FieldType.boolean)) ∈ TT := TT_o3 168 (by decide +kernel) (by decide +kernel)
theorem k645 : (Jvm.Cond.methodLink "KingsBalance" (167 : Nat) ({ cls := "KingsBalance$Realm", name := "bears", desc := "(II)Z" } : Jvm.MethodName)) ∈ TT := TT_o3 165 (by decide +kernel) (by decide +kernel)
theorem k646 : (Jvm.Cond.instanceMethod ({ cls := "KingsBalance$Realm", name := "bears", desc := "(II)Z" } : Jvm.MethodName)) ∈ TT := TT_o3 166 (by decide +kernel) (by decide +kernel)
theorem k647 : (Jvm.Cond.selects "KingsBalance$Realm" ({ cls := "KingsBalance$Realm", name := "bears", desc := "(II)Z" } : Jvm.MethodName) ({ cls := "KingsBalance$Realm", name := "bears", desc := "(II)Z" } : Jvm.MethodName)) ∈ TT := TT_o3 167 (by decide +kernel) (by decide +kernel)
theorem k657 : (Jvm.Cond.code ({ cls := "KingsBalance$Realm", name := "bearsOneBut", desc := "(II)Z" } : Jvm.MethodName) prog_5_method_12_code (5 : Nat) (Option.some Jvm.ClassFile.FieldType.boolean)) ∈ TT := TT_o3 177 (by decide +kernel) (by decide +kernel)
theorem k654 : (Jvm.Cond.methodLink "KingsBalance" (170 : Nat) ({ cls := "KingsBalance$Realm", name := "bearsOneBut", desc := "(II)Z" } : Jvm.MethodName)) ∈ TT := TT_o3 174 (by decide +kernel) (by decide +kernel)
theorem k655 : (Jvm.Cond.instanceMethod ({ cls := "KingsBalance$Realm", name := "bearsOneBut", desc := "(II)Z" } : Jvm.MethodName)) ∈ TT := TT_o3 175 (by decide +kernel) (by decide +kernel)
theorem k656 : (Jvm.Cond.selects "KingsBalance$Realm" ({ cls := "KingsBalance$Realm", name := "bearsOneBut", desc := "(II)Z" } : Jvm.MethodName) ({ cls := "KingsBalance$Realm", name := "bearsOneBut", desc := "(II)Z" } : Jvm.MethodName)) ∈ TT := TT_o3 176 (by decide +kernel) (by decide +kernel)
theorem k666 : (Jvm.Cond.code ({ cls := "KingsBalance$Ways", name := "fits", desc := "(LKingsBalance$Realm;)Z" } : Jvm.MethodName) prog_10_method_2_code (2 : Nat) (Option.some Jvm.ClassFile.FieldType.boolean)) ∈ TT := TT_o3 186 (by decide +kernel) (by decide +kernel)
theorem k663 : (Jvm.Cond.methodLink "KingsBalance" (173 : Nat) ({ cls := "KingsBalance$Ways", name := "fits", desc := "(LKingsBalance$Realm;)Z" } : Jvm.MethodName)) ∈ TT := TT_o3 183 (by decide +kernel) (by decide +kernel)
theorem k664 : (Jvm.Cond.instanceMethod ({ cls := "KingsBalance$Ways", name := "fits", desc := "(LKingsBalance$Realm;)Z" } : Jvm.MethodName)) ∈ TT := TT_o3 184 (by decide +kernel) (by decide +kernel)
theorem k665 : (Jvm.Cond.selects "KingsBalance$Ways" ({ cls := "KingsBalance$Ways", name := "fits", desc := "(LKingsBalance$Realm;)Z" } : Jvm.MethodName) ({ cls := "KingsBalance$Ways", name := "fits", desc := "(LKingsBalance$Realm;)Z" } : Jvm.MethodName)) ∈ TT := TT_o3 185 (by decide +kernel) (by decide +kernel)
theorem k676 : (Jvm.Cond.code ({ cls := "KingsBalance$Ways", name := "number", desc := "(LKingsBalance$Realm;ZZ)I" } : Jvm.MethodName) prog_10_method_4_code (6 : Nat) (Option.some Jvm.ClassFile.FieldType.int)) ∈ TT := TT_o3 196 (by decide +kernel) (by decide +kernel)
theorem k673 : (Jvm.Cond.methodLink "KingsBalance" (177 : Nat) ({ cls := "KingsBalance$Ways", name := "number", desc := "(LKingsBalance$Realm;ZZ)I" } : Jvm.MethodName)) ∈ TT := TT_o3 193 (by decide +kernel) (by decide +kernel)
theorem k674 : (Jvm.Cond.instanceMethod ({ cls := "KingsBalance$Ways", name := "number", desc := "(LKingsBalance$Realm;ZZ)I" } : Jvm.MethodName)) ∈ TT := TT_o3 194 (by decide +kernel) (by decide +kernel)
theorem k675 : (Jvm.Cond.selects "KingsBalance$Ways" ({ cls := "KingsBalance$Ways", name := "number", desc := "(LKingsBalance$Realm;ZZ)I" } : Jvm.MethodName) ({ cls := "KingsBalance$Ways", name := "number", desc := "(LKingsBalance$Realm;ZZ)I" } : Jvm.MethodName)) ∈ TT := TT_o3 195 (by decide +kernel) (by decide +kernel)
theorem k712 : (Jvm.Cond.code ({ cls := "KingsBalance$Ways", name := "find", desc := "(LKingsBalance$Realm;IZ)Z" } : Jvm.MethodName) prog_10_method_5_code (6 : Nat) (Option.some Jvm.ClassFile.FieldType.boolean)) ∈ TT := TT_o3 232 (by decide +kernel) (by decide +kernel)
theorem k709 : (Jvm.Cond.methodLink "KingsBalance" (181 : Nat) ({ cls := "KingsBalance$Ways", name := "find", desc := "(LKingsBalance$Realm;IZ)Z" } : Jvm.MethodName)) ∈ TT := TT_o3 229 (by decide +kernel) (by decide +kernel)
theorem k710 : (Jvm.Cond.instanceMethod ({ cls := "KingsBalance$Ways", name := "find", desc := "(LKingsBalance$Realm;IZ)Z" } : Jvm.MethodName)) ∈ TT := TT_o3 230 (by decide +kernel) (by decide +kernel)
theorem k711 : (Jvm.Cond.selects "KingsBalance$Ways" ({ cls := "KingsBalance$Ways", name := "find", desc := "(LKingsBalance$Realm;IZ)Z" } : Jvm.MethodName) ({ cls := "KingsBalance$Ways", name := "find", desc := "(LKingsBalance$Realm;IZ)Z" } : Jvm.MethodName)) ∈ TT := TT_o3 231 (by decide +kernel) (by decide +kernel)
theorem k716 : (Jvm.Cond.code ({ cls := "KingsBalance$Ways", name := "blockOf", desc := "(LKingsBalance$Realm;I)I" } : Jvm.MethodName) prog_10_method_3_code (3 : Nat) (Option.some Jvm.ClassFile.FieldType.int)) ∈ TT := TT_o3 236 (by decide +kernel) (by decide +kernel)
theorem k713 : (Jvm.Cond.methodLink "KingsBalance" (185 : Nat) ({ cls := "KingsBalance$Ways", name := "blockOf", desc := "(LKingsBalance$Realm;I)I" } : Jvm.MethodName)) ∈ TT := TT_o3 233 (by decide +kernel) (by decide +kernel)
theorem k714 : (Jvm.Cond.instanceMethod ({ cls := "KingsBalance$Ways", name := "blockOf", desc := "(LKingsBalance$Realm;I)I" } : Jvm.MethodName)) ∈ TT := TT_o3 234 (by decide +kernel) (by decide +kernel)
theorem k715 : (Jvm.Cond.selects "KingsBalance$Ways" ({ cls := "KingsBalance$Ways", name := "blockOf", desc := "(LKingsBalance$Realm;I)I" } : Jvm.MethodName) ({ cls := "KingsBalance$Ways", name := "blockOf", desc := "(LKingsBalance$Realm;I)I" } : Jvm.MethodName)) ∈ TT := TT_o3 235 (by decide +kernel) (by decide +kernel)
theorem k731 : (Jvm.Cond.code ({ cls := "KingsBalance$Standing", name := "fight", desc := "(LKingsBalance$Realm;II)Z" } : Jvm.MethodName) prog_7_method_10_code (9 : Nat) (Option.some Jvm.ClassFile.FieldType.boolean)) ∈ TT := TT_o4 11 (by decide +kernel) (by decide +kernel)
theorem k721 : (Jvm.Cond.methodLink "KingsBalance" (188 : Nat) ({ cls := "KingsBalance$Standing", name := "fight", desc := "(LKingsBalance$Realm;II)Z" } : Jvm.MethodName)) ∈ TT := TT_o4 1 (by decide +kernel) (by decide +kernel)
theorem k724 : (Jvm.Cond.sameMethod "KingsBalance$Standing" "KingsBalance$Standing" "fight" "(LKingsBalance$Realm;II)Z") ∈ TT := TT_o4 4 (by decide +kernel) (by decide +kernel)
theorem k722 : (Jvm.Cond.instanceMethod ({ cls := "KingsBalance$Standing", name := "fight", desc := "(LKingsBalance$Realm;II)Z" } : Jvm.MethodName)) ∈ TT := TT_o4 2 (by decide +kernel) (by decide +kernel)
theorem k723 : (Jvm.Cond.selects "KingsBalance$Standing" ({ cls := "KingsBalance$Standing", name := "fight", desc := "(LKingsBalance$Realm;II)Z" } : Jvm.MethodName) ({ cls := "KingsBalance$Standing", name := "fight", desc := "(LKingsBalance$Realm;II)Z" } : Jvm.MethodName)) ∈ TT := TT_o4 3 (by decide +kernel) (by decide +kernel)
theorem k725 : (Jvm.Cond.selects "KingsBalance$Alone" ({ cls := "KingsBalance$Standing", name := "fight", desc := "(LKingsBalance$Realm;II)Z" } : Jvm.MethodName) ({ cls := "KingsBalance$Standing", name := "fight", desc := "(LKingsBalance$Realm;II)Z" } : Jvm.MethodName)) ∈ TT := TT_o4 5 (by decide +kernel) (by decide +kernel)
theorem k726 : (Jvm.Cond.selects "KingsBalance$Guard" ({ cls := "KingsBalance$Standing", name := "fight", desc := "(LKingsBalance$Realm;II)Z" } : Jvm.MethodName) ({ cls := "KingsBalance$Standing", name := "fight", desc := "(LKingsBalance$Realm;II)Z" } : Jvm.MethodName)) ∈ TT := TT_o4 6 (by decide +kernel) (by decide +kernel)
theorem k727 : (Jvm.Cond.selects "KingsBalance$League" ({ cls := "KingsBalance$Standing", name := "fight", desc := "(LKingsBalance$Realm;II)Z" } : Jvm.MethodName) ({ cls := "KingsBalance$Standing", name := "fight", desc := "(LKingsBalance$Realm;II)Z" } : Jvm.MethodName)) ∈ TT := TT_o4 7 (by decide +kernel) (by decide +kernel)
theorem k728 : (Jvm.Cond.selects "KingsBalance$Sides" ({ cls := "KingsBalance$Standing", name := "fight", desc := "(LKingsBalance$Realm;II)Z" } : Jvm.MethodName) ({ cls := "KingsBalance$Standing", name := "fight", desc := "(LKingsBalance$Realm;II)Z" } : Jvm.MethodName)) ∈ TT := TT_o4 8 (by decide +kernel) (by decide +kernel)
theorem k729 : (Jvm.Cond.selects "KingsBalance$True" ({ cls := "KingsBalance$Standing", name := "fight", desc := "(LKingsBalance$Realm;II)Z" } : Jvm.MethodName) ({ cls := "KingsBalance$Standing", name := "fight", desc := "(LKingsBalance$Realm;II)Z" } : Jvm.MethodName)) ∈ TT := TT_o4 9 (by decide +kernel) (by decide +kernel)
theorem k730 : (Jvm.Cond.selects "KingsBalance$Web" ({ cls := "KingsBalance$Standing", name := "fight", desc := "(LKingsBalance$Realm;II)Z" } : Jvm.MethodName) ({ cls := "KingsBalance$Standing", name := "fight", desc := "(LKingsBalance$Realm;II)Z" } : Jvm.MethodName)) ∈ TT := TT_o4 10 (by decide +kernel) (by decide +kernel)
theorem k758 : (Jvm.Cond.code ({ cls := "KingsBalance$Realm", name := "turns", desc := "(I)I" } : Jvm.MethodName) prog_5_method_13_code (7 : Nat) (Option.some Jvm.ClassFile.FieldType.int)) ∈ TT := TT_o4 38 (by decide +kernel) (by decide +kernel)
theorem k755 : (Jvm.Cond.methodLink "KingsBalance" (192 : Nat) ({ cls := "KingsBalance$Realm", name := "turns", desc := "(I)I" } : Jvm.MethodName)) ∈ TT := TT_o4 35 (by decide +kernel) (by decide +kernel)
theorem k756 : (Jvm.Cond.instanceMethod ({ cls := "KingsBalance$Realm", name := "turns", desc := "(I)I" } : Jvm.MethodName)) ∈ TT := TT_o4 36 (by decide +kernel) (by decide +kernel)
theorem k757 : (Jvm.Cond.selects "KingsBalance$Realm" ({ cls := "KingsBalance$Realm", name := "turns", desc := "(I)I" } : Jvm.MethodName) ({ cls := "KingsBalance$Realm", name := "turns", desc := "(I)I" } : Jvm.MethodName)) ∈ TT := TT_o4 37 (by decide +kernel) (by decide +kernel)
theorem k771 : (Jvm.Cond.code ({ cls := "KingsBalance", name := "armedInRound", desc := "(LKingsBalance$Standing;)Z" } : Jvm.MethodName) prog_1_method_39_code (4 : Nat) (Option.some Jvm.ClassFile.FieldType.boolean)) ∈ TT := TT_o4 51 (by decide +kernel) (by decide +kernel)
theorem k768 : (Jvm.Cond.methodLink "KingsBalance" (195 : Nat) ({ cls := "KingsBalance", name := "armedInRound", desc := "(LKingsBalance$Standing;)Z" } : Jvm.MethodName)) ∈ TT := TT_o4 48 (by decide +kernel) (by decide +kernel)
theorem k770 : (Jvm.Cond.instanceMethod ({ cls := "KingsBalance", name := "armedInRound", desc := "(LKingsBalance$Standing;)Z" } : Jvm.MethodName)) ∈ TT := TT_o4 50 (by decide +kernel) (by decide +kernel)
theorem s14 : (Cond.selects "KingsBalance" ⟨"KingsBalance", "armedInRound", "(LKingsBalance$Standing;)Z"⟩ ⟨"KingsBalance", "armedInRound", "(LKingsBalance$Standing;)Z"⟩) ∈ TT := TT_sel 14 (by decide +kernel) (by decide +kernel)
theorem k779 : (Jvm.Cond.code ({ cls := "KingsBalance", name := "upsetBy", desc := "(LKingsBalance$Standing;I)I" } : Jvm.MethodName) prog_1_method_40_code (6 : Nat) (Option.some Jvm.ClassFile.FieldType.int)) ∈ TT := TT_o4 59 (by decide +kernel) (by decide +kernel)
theorem k776 : (Jvm.Cond.methodLink "KingsBalance" (199 : Nat) ({ cls := "KingsBalance", name := "upsetBy", desc := "(LKingsBalance$Standing;I)I" } : Jvm.MethodName)) ∈ TT := TT_o4 56 (by decide +kernel) (by decide +kernel)
theorem k778 : (Jvm.Cond.instanceMethod ({ cls := "KingsBalance", name := "upsetBy", desc := "(LKingsBalance$Standing;I)I" } : Jvm.MethodName)) ∈ TT := TT_o4 58 (by decide +kernel) (by decide +kernel)
theorem s15 : (Cond.selects "KingsBalance" ⟨"KingsBalance", "upsetBy", "(LKingsBalance$Standing;I)I"⟩ ⟨"KingsBalance", "upsetBy", "(LKingsBalance$Standing;I)I"⟩) ∈ TT := TT_sel 15 (by decide +kernel) (by decide +kernel)
theorem k791 : (Jvm.Cond.code ({ cls := "KingsBalance", name := "married", desc := "(LKingsBalance$Standing;IIZ)I" } : Jvm.MethodName) prog_1_method_41_code (11 : Nat) (Option.some Jvm.ClassFile.FieldType.int)) ∈ TT := TT_o4 71 (by decide +kernel) (by decide +kernel)
theorem k788 : (Jvm.Cond.methodLink "KingsBalance" (203 : Nat) ({ cls := "KingsBalance", name := "married", desc := "(LKingsBalance$Standing;IIZ)I" } : Jvm.MethodName)) ∈ TT := TT_o4 68 (by decide +kernel) (by decide +kernel)
theorem k790 : (Jvm.Cond.instanceMethod ({ cls := "KingsBalance", name := "married", desc := "(LKingsBalance$Standing;IIZ)I" } : Jvm.MethodName)) ∈ TT := TT_o4 70 (by decide +kernel) (by decide +kernel)
theorem s16 : (Cond.selects "KingsBalance" ⟨"KingsBalance", "married", "(LKingsBalance$Standing;IIZ)I"⟩ ⟨"KingsBalance", "married", "(LKingsBalance$Standing;IIZ)I"⟩) ∈ TT := TT_sel 16 (by decide +kernel) (by decide +kernel)
theorem k822 : (Jvm.Cond.code ({ cls := "KingsBalance$Standing", name := "comesAct", desc := "([II)I" } : Jvm.MethodName) prog_7_method_11_code (3 : Nat) (Option.some Jvm.ClassFile.FieldType.int)) ∈ TT := TT_o4 102 (by decide +kernel) (by decide +kernel)
theorem k798 : (Jvm.Cond.methodLink "KingsBalance" (207 : Nat) ({ cls := "KingsBalance$Standing", name := "comesAct", desc := "([II)I" } : Jvm.MethodName)) ∈ TT := TT_o4 78 (by decide +kernel) (by decide +kernel)
theorem k801 : (Jvm.Cond.sameMethod "KingsBalance$Standing" "KingsBalance$Standing" "comesAct" "([II)I") ∈ TT := TT_o4 81 (by decide +kernel) (by decide +kernel)
theorem k799 : (Jvm.Cond.instanceMethod ({ cls := "KingsBalance$Standing", name := "comesAct", desc := "([II)I" } : Jvm.MethodName)) ∈ TT := TT_o4 79 (by decide +kernel) (by decide +kernel)
theorem k800 : (Jvm.Cond.selects "KingsBalance$Standing" ({ cls := "KingsBalance$Standing", name := "comesAct", desc := "([II)I" } : Jvm.MethodName) ({ cls := "KingsBalance$Standing", name := "comesAct", desc := "([II)I" } : Jvm.MethodName)) ∈ TT := TT_o4 80 (by decide +kernel) (by decide +kernel)
theorem k802 : (Jvm.Cond.selects "KingsBalance$Alone" ({ cls := "KingsBalance$Standing", name := "comesAct", desc := "([II)I" } : Jvm.MethodName) ({ cls := "KingsBalance$Standing", name := "comesAct", desc := "([II)I" } : Jvm.MethodName)) ∈ TT := TT_o4 82 (by decide +kernel) (by decide +kernel)
theorem k805 : (Jvm.Cond.code ({ cls := "KingsBalance$Guard", name := "comesAct", desc := "([II)I" } : Jvm.MethodName) prog_3_method_3_code (3 : Nat) (Option.some Jvm.ClassFile.FieldType.int)) ∈ TT := TT_o4 85 (by decide +kernel) (by decide +kernel)
theorem k803 : (Jvm.Cond.selects "KingsBalance$Guard" ({ cls := "KingsBalance$Standing", name := "comesAct", desc := "([II)I" } : Jvm.MethodName) ({ cls := "KingsBalance$Guard", name := "comesAct", desc := "([II)I" } : Jvm.MethodName)) ∈ TT := TT_o4 83 (by decide +kernel) (by decide +kernel)
theorem k804 : (Jvm.Cond.instanceMethod ({ cls := "KingsBalance$Guard", name := "comesAct", desc := "([II)I" } : Jvm.MethodName)) ∈ TT := TT_o4 84 (by decide +kernel) (by decide +kernel)
theorem k815 : (Jvm.Cond.code ({ cls := "KingsBalance$Sides", name := "comesAct", desc := "([II)I" } : Jvm.MethodName) prog_6_method_4_code (3 : Nat) (Option.some Jvm.ClassFile.FieldType.int)) ∈ TT := TT_o4 95 (by decide +kernel) (by decide +kernel)
theorem k813 : (Jvm.Cond.selects "KingsBalance$League" ({ cls := "KingsBalance$Standing", name := "comesAct", desc := "([II)I" } : Jvm.MethodName) ({ cls := "KingsBalance$Sides", name := "comesAct", desc := "([II)I" } : Jvm.MethodName)) ∈ TT := TT_o4 93 (by decide +kernel) (by decide +kernel)
theorem k814 : (Jvm.Cond.instanceMethod ({ cls := "KingsBalance$Sides", name := "comesAct", desc := "([II)I" } : Jvm.MethodName)) ∈ TT := TT_o4 94 (by decide +kernel) (by decide +kernel)
theorem k819 : (Jvm.Cond.selects "KingsBalance$Sides" ({ cls := "KingsBalance$Standing", name := "comesAct", desc := "([II)I" } : Jvm.MethodName) ({ cls := "KingsBalance$Sides", name := "comesAct", desc := "([II)I" } : Jvm.MethodName)) ∈ TT := TT_o4 99 (by decide +kernel) (by decide +kernel)
theorem k820 : (Jvm.Cond.selects "KingsBalance$True" ({ cls := "KingsBalance$Standing", name := "comesAct", desc := "([II)I" } : Jvm.MethodName) ({ cls := "KingsBalance$Standing", name := "comesAct", desc := "([II)I" } : Jvm.MethodName)) ∈ TT := TT_o4 100 (by decide +kernel) (by decide +kernel)
theorem k821 : (Jvm.Cond.selects "KingsBalance$Web" ({ cls := "KingsBalance$Standing", name := "comesAct", desc := "([II)I" } : Jvm.MethodName) ({ cls := "KingsBalance$Standing", name := "comesAct", desc := "([II)I" } : Jvm.MethodName)) ∈ TT := TT_o4 101 (by decide +kernel) (by decide +kernel)
theorem k846 : (Jvm.Cond.code ({ cls := "KingsBalance$Standing", name := "daresAct", desc := "([II)I" } : Jvm.MethodName) prog_7_method_12_code (3 : Nat) (Option.some Jvm.ClassFile.FieldType.int)) ∈ TT := TT_o4 126 (by decide +kernel) (by decide +kernel)
theorem k824 : (Jvm.Cond.methodLink "KingsBalance" (211 : Nat) ({ cls := "KingsBalance$Standing", name := "daresAct", desc := "([II)I" } : Jvm.MethodName)) ∈ TT := TT_o4 104 (by decide +kernel) (by decide +kernel)
theorem k827 : (Jvm.Cond.sameMethod "KingsBalance$Standing" "KingsBalance$Standing" "daresAct" "([II)I") ∈ TT := TT_o4 107 (by decide +kernel) (by decide +kernel)
theorem k825 : (Jvm.Cond.instanceMethod ({ cls := "KingsBalance$Standing", name := "daresAct", desc := "([II)I" } : Jvm.MethodName)) ∈ TT := TT_o4 105 (by decide +kernel) (by decide +kernel)
theorem k826 : (Jvm.Cond.selects "KingsBalance$Standing" ({ cls := "KingsBalance$Standing", name := "daresAct", desc := "([II)I" } : Jvm.MethodName) ({ cls := "KingsBalance$Standing", name := "daresAct", desc := "([II)I" } : Jvm.MethodName)) ∈ TT := TT_o4 106 (by decide +kernel) (by decide +kernel)
theorem k830 : (Jvm.Cond.code ({ cls := "KingsBalance$Alone", name := "daresAct", desc := "([II)I" } : Jvm.MethodName) prog_2_method_3_code (3 : Nat) (Option.some Jvm.ClassFile.FieldType.int)) ∈ TT := TT_o4 110 (by decide +kernel) (by decide +kernel)
theorem k828 : (Jvm.Cond.selects "KingsBalance$Alone" ({ cls := "KingsBalance$Standing", name := "daresAct", desc := "([II)I" } : Jvm.MethodName) ({ cls := "KingsBalance$Alone", name := "daresAct", desc := "([II)I" } : Jvm.MethodName)) ∈ TT := TT_o4 108 (by decide +kernel) (by decide +kernel)
theorem k829 : (Jvm.Cond.instanceMethod ({ cls := "KingsBalance$Alone", name := "daresAct", desc := "([II)I" } : Jvm.MethodName)) ∈ TT := TT_o4 109 (by decide +kernel) (by decide +kernel)
theorem k834 : (Jvm.Cond.selects "KingsBalance$Guard" ({ cls := "KingsBalance$Standing", name := "daresAct", desc := "([II)I" } : Jvm.MethodName) ({ cls := "KingsBalance$Standing", name := "daresAct", desc := "([II)I" } : Jvm.MethodName)) ∈ TT := TT_o4 114 (by decide +kernel) (by decide +kernel)
theorem k835 : (Jvm.Cond.selects "KingsBalance$League" ({ cls := "KingsBalance$Standing", name := "daresAct", desc := "([II)I" } : Jvm.MethodName) ({ cls := "KingsBalance$Standing", name := "daresAct", desc := "([II)I" } : Jvm.MethodName)) ∈ TT := TT_o4 115 (by decide +kernel) (by decide +kernel)
theorem k836 : (Jvm.Cond.selects "KingsBalance$Sides" ({ cls := "KingsBalance$Standing", name := "daresAct", desc := "([II)I" } : Jvm.MethodName) ({ cls := "KingsBalance$Standing", name := "daresAct", desc := "([II)I" } : Jvm.MethodName)) ∈ TT := TT_o4 116 (by decide +kernel) (by decide +kernel)
theorem k839 : (Jvm.Cond.code ({ cls := "KingsBalance$True", name := "daresAct", desc := "([II)I" } : Jvm.MethodName) prog_9_method_4_code (3 : Nat) (Option.some Jvm.ClassFile.FieldType.int)) ∈ TT := TT_o4 119 (by decide +kernel) (by decide +kernel)
theorem k837 : (Jvm.Cond.selects "KingsBalance$True" ({ cls := "KingsBalance$Standing", name := "daresAct", desc := "([II)I" } : Jvm.MethodName) ({ cls := "KingsBalance$True", name := "daresAct", desc := "([II)I" } : Jvm.MethodName)) ∈ TT := TT_o4 117 (by decide +kernel) (by decide +kernel)
theorem k838 : (Jvm.Cond.instanceMethod ({ cls := "KingsBalance$True", name := "daresAct", desc := "([II)I" } : Jvm.MethodName)) ∈ TT := TT_o4 118 (by decide +kernel) (by decide +kernel)
theorem k845 : (Jvm.Cond.selects "KingsBalance$Web" ({ cls := "KingsBalance$Standing", name := "daresAct", desc := "([II)I" } : Jvm.MethodName) ({ cls := "KingsBalance$Standing", name := "daresAct", desc := "([II)I" } : Jvm.MethodName)) ∈ TT := TT_o4 125 (by decide +kernel) (by decide +kernel)
theorem k874 : (Jvm.Cond.code ({ cls := "KingsBalance$Standing", name := "holdsAct", desc := "([II)I" } : Jvm.MethodName) prog_7_method_13_code (3 : Nat) (Option.some Jvm.ClassFile.FieldType.int)) ∈ TT := TT_o4 154 (by decide +kernel) (by decide +kernel)
theorem k848 : (Jvm.Cond.methodLink "KingsBalance" (214 : Nat) ({ cls := "KingsBalance$Standing", name := "holdsAct", desc := "([II)I" } : Jvm.MethodName)) ∈ TT := TT_o4 128 (by decide +kernel) (by decide +kernel)
theorem k851 : (Jvm.Cond.sameMethod "KingsBalance$Standing" "KingsBalance$Standing" "holdsAct" "([II)I") ∈ TT := TT_o4 131 (by decide +kernel) (by decide +kernel)
theorem k849 : (Jvm.Cond.instanceMethod ({ cls := "KingsBalance$Standing", name := "holdsAct", desc := "([II)I" } : Jvm.MethodName)) ∈ TT := TT_o4 129 (by decide +kernel) (by decide +kernel)
theorem k850 : (Jvm.Cond.selects "KingsBalance$Standing" ({ cls := "KingsBalance$Standing", name := "holdsAct", desc := "([II)I" } : Jvm.MethodName) ({ cls := "KingsBalance$Standing", name := "holdsAct", desc := "([II)I" } : Jvm.MethodName)) ∈ TT := TT_o4 130 (by decide +kernel) (by decide +kernel)
theorem k852 : (Jvm.Cond.selects "KingsBalance$Alone" ({ cls := "KingsBalance$Standing", name := "holdsAct", desc := "([II)I" } : Jvm.MethodName) ({ cls := "KingsBalance$Standing", name := "holdsAct", desc := "([II)I" } : Jvm.MethodName)) ∈ TT := TT_o4 132 (by decide +kernel) (by decide +kernel)
theorem k855 : (Jvm.Cond.code ({ cls := "KingsBalance$Web", name := "holdsAct", desc := "([II)I" } : Jvm.MethodName) prog_11_method_3_code (3 : Nat) (Option.some Jvm.ClassFile.FieldType.int)) ∈ TT := TT_o4 135 (by decide +kernel) (by decide +kernel)
theorem k853 : (Jvm.Cond.selects "KingsBalance$Guard" ({ cls := "KingsBalance$Standing", name := "holdsAct", desc := "([II)I" } : Jvm.MethodName) ({ cls := "KingsBalance$Web", name := "holdsAct", desc := "([II)I" } : Jvm.MethodName)) ∈ TT := TT_o4 133 (by decide +kernel) (by decide +kernel)
theorem k854 : (Jvm.Cond.instanceMethod ({ cls := "KingsBalance$Web", name := "holdsAct", desc := "([II)I" } : Jvm.MethodName)) ∈ TT := TT_o4 134 (by decide +kernel) (by decide +kernel)
theorem k861 : (Jvm.Cond.code ({ cls := "KingsBalance$League", name := "holdsAct", desc := "([II)I" } : Jvm.MethodName) prog_4_method_3_code (3 : Nat) (Option.some Jvm.ClassFile.FieldType.int)) ∈ TT := TT_o4 141 (by decide +kernel) (by decide +kernel)
theorem k859 : (Jvm.Cond.selects "KingsBalance$League" ({ cls := "KingsBalance$Standing", name := "holdsAct", desc := "([II)I" } : Jvm.MethodName) ({ cls := "KingsBalance$League", name := "holdsAct", desc := "([II)I" } : Jvm.MethodName)) ∈ TT := TT_o4 139 (by decide +kernel) (by decide +kernel)
theorem k860 : (Jvm.Cond.instanceMethod ({ cls := "KingsBalance$League", name := "holdsAct", desc := "([II)I" } : Jvm.MethodName)) ∈ TT := TT_o4 140 (by decide +kernel) (by decide +kernel)
theorem k871 : (Jvm.Cond.selects "KingsBalance$Sides" ({ cls := "KingsBalance$Standing", name := "holdsAct", desc := "([II)I" } : Jvm.MethodName) ({ cls := "KingsBalance$Standing", name := "holdsAct", desc := "([II)I" } : Jvm.MethodName)) ∈ TT := TT_o4 151 (by decide +kernel) (by decide +kernel)
theorem k872 : (Jvm.Cond.selects "KingsBalance$True" ({ cls := "KingsBalance$Standing", name := "holdsAct", desc := "([II)I" } : Jvm.MethodName) ({ cls := "KingsBalance$Web", name := "holdsAct", desc := "([II)I" } : Jvm.MethodName)) ∈ TT := TT_o4 152 (by decide +kernel) (by decide +kernel)
theorem k873 : (Jvm.Cond.selects "KingsBalance$Web" ({ cls := "KingsBalance$Standing", name := "holdsAct", desc := "([II)I" } : Jvm.MethodName) ({ cls := "KingsBalance$Web", name := "holdsAct", desc := "([II)I" } : Jvm.MethodName)) ∈ TT := TT_o4 153 (by decide +kernel) (by decide +kernel)
theorem k886 : (Jvm.Cond.code ({ cls := "KingsBalance", name := "isOf", desc := "(LKingsBalance$Standing;I)Z" } : Jvm.MethodName) prog_1_method_38_code (2 : Nat) (Option.some Jvm.ClassFile.FieldType.boolean)) ∈ TT := TT_o4 166 (by decide +kernel) (by decide +kernel)
theorem k884 : (Jvm.Cond.methodLink "KingsBalance" (217 : Nat) ({ cls := "KingsBalance", name := "isOf", desc := "(LKingsBalance$Standing;I)Z" } : Jvm.MethodName)) ∈ TT := TT_o4 164 (by decide +kernel) (by decide +kernel)
theorem k885 : (Jvm.Cond.static ({ cls := "KingsBalance", name := "isOf", desc := "(LKingsBalance$Standing;I)Z" } : Jvm.MethodName)) ∈ TT := TT_o4 165 (by decide +kernel) (by decide +kernel)
theorem k207 : (Jvm.Cond.fieldLink "KingsBalance" (221 : Nat) "KingsBalance$Standing" "v" "I") ∈ TT := TT_o1 207 (by decide +kernel) (by decide +kernel)
theorem k894 : (Jvm.Cond.code ({ cls := "KingsBalance$Realm", name := "become", desc := "(LKingsBalance$Realm;)V" } : Jvm.MethodName) prog_5_method_2_code (3 : Nat) (Option.none : Option Jvm.ClassFile.FieldType)) ∈ TT := TT_o4 174 (by decide +kernel) (by decide +kernel)
theorem k891 : (Jvm.Cond.methodLink "KingsBalance" (224 : Nat) ({ cls := "KingsBalance$Realm", name := "become", desc := "(LKingsBalance$Realm;)V" } : Jvm.MethodName)) ∈ TT := TT_o4 171 (by decide +kernel) (by decide +kernel)
theorem k892 : (Jvm.Cond.instanceMethod ({ cls := "KingsBalance$Realm", name := "become", desc := "(LKingsBalance$Realm;)V" } : Jvm.MethodName)) ∈ TT := TT_o4 172 (by decide +kernel) (by decide +kernel)
theorem k893 : (Jvm.Cond.selects "KingsBalance$Realm" ({ cls := "KingsBalance$Realm", name := "become", desc := "(LKingsBalance$Realm;)V" } : Jvm.MethodName) ({ cls := "KingsBalance$Realm", name := "become", desc := "(LKingsBalance$Realm;)V" } : Jvm.MethodName)) ∈ TT := TT_o4 173 (by decide +kernel) (by decide +kernel)
theorem k115 : (Jvm.Cond.fieldLink "KingsBalance" (227 : Nat) "KingsBalance$Realm" "alive" "I") ∈ TT := TT_o1 115 (by decide +kernel) (by decide +kernel)
theorem k20 : (Jvm.Cond.initialized "java/lang/Integer") ∈ TT := TT_o1 20 (by decide +kernel) (by decide +kernel)
theorem k669 : (Jvm.Cond.code ({ cls := "java/lang/Integer", name := "bitCount", desc := "(I)I" } : Jvm.MethodName) prog_15_method_49_code (1 : Nat) (Option.some Jvm.ClassFile.FieldType.int)) ∈ TT := TT_o3 189 (by decide +kernel) (by decide +kernel)
theorem k792 : (Jvm.Cond.methodLink "KingsBalance" (230 : Nat) ({ cls := "java/lang/Integer", name := "bitCount", desc := "(I)I" } : Jvm.MethodName)) ∈ TT := TT_o4 72 (by decide +kernel) (by decide +kernel)
theorem k668 : (Jvm.Cond.static ({ cls := "java/lang/Integer", name := "bitCount", desc := "(I)I" } : Jvm.MethodName)) ∈ TT := TT_o3 188 (by decide +kernel) (by decide +kernel)
theorem k122 : (Jvm.Cond.fieldLink "KingsBalance" (235 : Nat) "KingsBalance$Realm" "wars" "I") ∈ TT := TT_o1 122 (by decide +kernel) (by decide +kernel)
theorem k441 : (Jvm.Cond.classLink "KingsBalance" (238 : Nat) "KingsBalance$Alone") ∈ TT := TT_o2 201 (by decide +kernel) (by decide +kernel)
theorem k445 : (Jvm.Cond.code ({ cls := "KingsBalance$Alone", name := "<init>", desc := "(II)V" } : Jvm.MethodName) prog_2_method_1_code (3 : Nat) (Option.none : Option Jvm.ClassFile.FieldType)) ∈ TT := TT_o2 205 (by decide +kernel) (by decide +kernel)
theorem k443 : (Jvm.Cond.methodLink "KingsBalance" (240 : Nat) ({ cls := "KingsBalance$Alone", name := "<init>", desc := "(II)V" } : Jvm.MethodName)) ∈ TT := TT_o2 203 (by decide +kernel) (by decide +kernel)
theorem k444 : (Jvm.Cond.instanceMethod ({ cls := "KingsBalance$Alone", name := "<init>", desc := "(II)V" } : Jvm.MethodName)) ∈ TT := TT_o2 204 (by decide +kernel) (by decide +kernel)
theorem k450 : (Jvm.Cond.classLink "KingsBalance" (243 : Nat) "KingsBalance$Sides") ∈ TT := TT_o2 210 (by decide +kernel) (by decide +kernel)
theorem k192 : (Jvm.Cond.code ({ cls := "KingsBalance$Sides", name := "<init>", desc := "(II)V" } : Jvm.MethodName) prog_6_method_1_code (3 : Nat) (Option.none : Option Jvm.ClassFile.FieldType)) ∈ TT := TT_o1 192 (by decide +kernel) (by decide +kernel)
theorem k451 : (Jvm.Cond.methodLink "KingsBalance" (245 : Nat) ({ cls := "KingsBalance$Sides", name := "<init>", desc := "(II)V" } : Jvm.MethodName)) ∈ TT := TT_o2 211 (by decide +kernel) (by decide +kernel)
theorem k191 : (Jvm.Cond.instanceMethod ({ cls := "KingsBalance$Sides", name := "<init>", desc := "(II)V" } : Jvm.MethodName)) ∈ TT := TT_o1 191 (by decide +kernel) (by decide +kernel)
theorem k452 : (Jvm.Cond.classLink "KingsBalance" (246 : Nat) "KingsBalance$Web") ∈ TT := TT_o2 212 (by decide +kernel) (by decide +kernel)
theorem k456 : (Jvm.Cond.code ({ cls := "KingsBalance$Web", name := "<init>", desc := "(II)V" } : Jvm.MethodName) prog_11_method_1_code (3 : Nat) (Option.none : Option Jvm.ClassFile.FieldType)) ∈ TT := TT_o2 216 (by decide +kernel) (by decide +kernel)
theorem k454 : (Jvm.Cond.methodLink "KingsBalance" (248 : Nat) ({ cls := "KingsBalance$Web", name := "<init>", desc := "(II)V" } : Jvm.MethodName)) ∈ TT := TT_o2 214 (by decide +kernel) (by decide +kernel)
theorem k455 : (Jvm.Cond.instanceMethod ({ cls := "KingsBalance$Web", name := "<init>", desc := "(II)V" } : Jvm.MethodName)) ∈ TT := TT_o2 215 (by decide +kernel) (by decide +kernel)
theorem k461 : (Jvm.Cond.classLink "KingsBalance" (249 : Nat) "KingsBalance$League") ∈ TT := TT_o2 221 (by decide +kernel) (by decide +kernel)
theorem k465 : (Jvm.Cond.code ({ cls := "KingsBalance$League", name := "<init>", desc := "(II)V" } : Jvm.MethodName) prog_4_method_1_code (3 : Nat) (Option.none : Option Jvm.ClassFile.FieldType)) ∈ TT := TT_o2 225 (by decide +kernel) (by decide +kernel)
theorem k463 : (Jvm.Cond.methodLink "KingsBalance" (251 : Nat) ({ cls := "KingsBalance$League", name := "<init>", desc := "(II)V" } : Jvm.MethodName)) ∈ TT := TT_o2 223 (by decide +kernel) (by decide +kernel)
theorem k464 : (Jvm.Cond.instanceMethod ({ cls := "KingsBalance$League", name := "<init>", desc := "(II)V" } : Jvm.MethodName)) ∈ TT := TT_o2 224 (by decide +kernel) (by decide +kernel)
theorem k470 : (Jvm.Cond.classLink "KingsBalance" (252 : Nat) "KingsBalance$Guard") ∈ TT := TT_o2 230 (by decide +kernel) (by decide +kernel)
theorem k474 : (Jvm.Cond.code ({ cls := "KingsBalance$Guard", name := "<init>", desc := "(II)V" } : Jvm.MethodName) prog_3_method_1_code (3 : Nat) (Option.none : Option Jvm.ClassFile.FieldType)) ∈ TT := TT_o2 234 (by decide +kernel) (by decide +kernel)
theorem k472 : (Jvm.Cond.methodLink "KingsBalance" (254 : Nat) ({ cls := "KingsBalance$Guard", name := "<init>", desc := "(II)V" } : Jvm.MethodName)) ∈ TT := TT_o2 232 (by decide +kernel) (by decide +kernel)
theorem k473 : (Jvm.Cond.instanceMethod ({ cls := "KingsBalance$Guard", name := "<init>", desc := "(II)V" } : Jvm.MethodName)) ∈ TT := TT_o2 233 (by decide +kernel) (by decide +kernel)
theorem k479 : (Jvm.Cond.classLink "KingsBalance" (255 : Nat) "KingsBalance$True") ∈ TT := TT_o2 239 (by decide +kernel) (by decide +kernel)
theorem k483 : (Jvm.Cond.code ({ cls := "KingsBalance$True", name := "<init>", desc := "(II)V" } : Jvm.MethodName) prog_9_method_1_code (3 : Nat) (Option.none : Option Jvm.ClassFile.FieldType)) ∈ TT := TT_o3 3 (by decide +kernel) (by decide +kernel)
theorem k481 : (Jvm.Cond.methodLink "KingsBalance" (257 : Nat) ({ cls := "KingsBalance$True", name := "<init>", desc := "(II)V" } : Jvm.MethodName)) ∈ TT := TT_o3 1 (by decide +kernel) (by decide +kernel)
theorem k482 : (Jvm.Cond.instanceMethod ({ cls := "KingsBalance$True", name := "<init>", desc := "(II)V" } : Jvm.MethodName)) ∈ TT := TT_o3 2 (by decide +kernel) (by decide +kernel)
theorem k195 : (Jvm.Cond.code ({ cls := "KingsBalance$Standing", name := "<init>", desc := "(II)V" } : Jvm.MethodName) prog_7_method_1_code (3 : Nat) (Option.none : Option Jvm.ClassFile.FieldType)) ∈ TT := TT_o1 195 (by decide +kernel) (by decide +kernel)
theorem k490 : (Jvm.Cond.methodLink "KingsBalance" (258 : Nat) ({ cls := "KingsBalance$Standing", name := "<init>", desc := "(II)V" } : Jvm.MethodName)) ∈ TT := TT_o3 10 (by decide +kernel) (by decide +kernel)
theorem k194 : (Jvm.Cond.instanceMethod ({ cls := "KingsBalance$Standing", name := "<init>", desc := "(II)V" } : Jvm.MethodName)) ∈ TT := TT_o1 194 (by decide +kernel) (by decide +kernel)
theorem k793 : (Jvm.Cond.methodLink "KingsBalance" (259 : Nat) ({ cls := "java/lang/Math", name := "min", desc := "(II)I" } : Jvm.MethodName)) ∈ TT := TT_o4 73 (by decide +kernel) (by decide +kernel)
theorem k446 : (Jvm.Cond.methodLink "KingsBalance$Alone" (1 : Nat) ({ cls := "KingsBalance$Standing", name := "<init>", desc := "(II)V" } : Jvm.MethodName)) ∈ TT := TT_o2 206 (by decide +kernel) (by decide +kernel)
theorem k520 : (Jvm.Cond.code ({ cls := "KingsBalance$Standing", name := "joined", desc := "(LKingsBalance$Realm;IIII)I" } : Jvm.MethodName) prog_7_method_3_code (6 : Nat) (Option.some Jvm.ClassFile.FieldType.int)) ∈ TT := TT_o3 40 (by decide +kernel) (by decide +kernel)
theorem k517 : (Jvm.Cond.methodLink "KingsBalance$Alone" (7 : Nat) ({ cls := "KingsBalance$Alone", name := "joined", desc := "(LKingsBalance$Realm;IIII)I" } : Jvm.MethodName)) ∈ TT := TT_o3 37 (by decide +kernel) (by decide +kernel)
theorem k518 : (Jvm.Cond.sameMethod "KingsBalance$Alone" "KingsBalance$Standing" "joined" "(LKingsBalance$Realm;IIII)I") ∈ TT := TT_o3 38 (by decide +kernel) (by decide +kernel)
theorem k519 : (Jvm.Cond.static ({ cls := "KingsBalance$Standing", name := "joined", desc := "(LKingsBalance$Realm;IIII)I" } : Jvm.MethodName)) ∈ TT := TT_o3 39 (by decide +kernel) (by decide +kernel)
theorem k809 : (Jvm.Cond.code ({ cls := "KingsBalance$Standing", name := "note", desc := "([II)V" } : Jvm.MethodName) prog_7_method_14_code (2 : Nat) (Option.none : Option Jvm.ClassFile.FieldType)) ∈ TT := TT_o4 89 (by decide +kernel) (by decide +kernel)
theorem k831 : (Jvm.Cond.methodLink "KingsBalance$Alone" (13 : Nat) ({ cls := "KingsBalance$Alone", name := "note", desc := "([II)V" } : Jvm.MethodName)) ∈ TT := TT_o4 111 (by decide +kernel) (by decide +kernel)
theorem k832 : (Jvm.Cond.sameMethod "KingsBalance$Alone" "KingsBalance$Standing" "note" "([II)V") ∈ TT := TT_o4 112 (by decide +kernel) (by decide +kernel)
theorem k808 : (Jvm.Cond.static ({ cls := "KingsBalance$Standing", name := "note", desc := "([II)V" } : Jvm.MethodName)) ∈ TT := TT_o4 88 (by decide +kernel) (by decide +kernel)
theorem k833 : (Jvm.Cond.methodLink "KingsBalance$Alone" (17 : Nat) ({ cls := "KingsBalance$Standing", name := "daresAct", desc := "([II)I" } : Jvm.MethodName)) ∈ TT := TT_o4 113 (by decide +kernel) (by decide +kernel)
theorem k449 : (Jvm.Cond.superclass "KingsBalance$Alone" "KingsBalance$Standing") ∈ TT := TT_o2 209 (by decide +kernel) (by decide +kernel)
theorem k475 : (Jvm.Cond.methodLink "KingsBalance$Guard" (1 : Nat) ({ cls := "KingsBalance$Web", name := "<init>", desc := "(II)V" } : Jvm.MethodName)) ∈ TT := TT_o2 235 (by decide +kernel) (by decide +kernel)
theorem k204 : (Jvm.Cond.sameField "KingsBalance$Guard" "KingsBalance$Standing" "v" "I") ∈ TT := TT_o1 204 (by decide +kernel) (by decide +kernel)
theorem k203 : (Jvm.Cond.fieldLink "KingsBalance$Guard" (7 : Nat) "KingsBalance$Guard" "v" "I") ∈ TT := TT_o1 203 (by decide +kernel) (by decide +kernel)
theorem k112 : (Jvm.Cond.fieldLink "KingsBalance$Guard" (13 : Nat) "KingsBalance$Realm" "alive" "I") ∈ TT := TT_o1 112 (by decide +kernel) (by decide +kernel)
theorem k524 : (Jvm.Cond.methodLink "KingsBalance$Guard" (18 : Nat) ({ cls := "KingsBalance$Guard", name := "joined", desc := "(LKingsBalance$Realm;IIII)I" } : Jvm.MethodName)) ∈ TT := TT_o3 44 (by decide +kernel) (by decide +kernel)
theorem k525 : (Jvm.Cond.sameMethod "KingsBalance$Guard" "KingsBalance$Standing" "joined" "(LKingsBalance$Realm;IIII)I") ∈ TT := TT_o3 45 (by decide +kernel) (by decide +kernel)
theorem k526 : (Jvm.Cond.methodLink "KingsBalance$Guard" (22 : Nat) ({ cls := "KingsBalance$Web", name := "camps", desc := "(LKingsBalance$Realm;II)I" } : Jvm.MethodName)) ∈ TT := TT_o3 46 (by decide +kernel) (by decide +kernel)
theorem k1343 : (Jvm.Cond.sameMethod "KingsBalance$Web" "KingsBalance$Web" "camps" "(LKingsBalance$Realm;II)I") ∈ TT := TT_o6 143 (by decide +kernel) (by decide +kernel)
theorem k478 : (Jvm.Cond.superclass "KingsBalance$Guard" "KingsBalance$Web") ∈ TT := TT_o2 238 (by decide +kernel) (by decide +kernel)
theorem k806 : (Jvm.Cond.methodLink "KingsBalance$Guard" (26 : Nat) ({ cls := "KingsBalance$Guard", name := "note", desc := "([II)V" } : Jvm.MethodName)) ∈ TT := TT_o4 86 (by decide +kernel) (by decide +kernel)
theorem k807 : (Jvm.Cond.sameMethod "KingsBalance$Guard" "KingsBalance$Standing" "note" "([II)V") ∈ TT := TT_o4 87 (by decide +kernel) (by decide +kernel)
theorem k810 : (Jvm.Cond.methodLink "KingsBalance$Guard" (30 : Nat) ({ cls := "KingsBalance$Web", name := "comesAct", desc := "([II)I" } : Jvm.MethodName)) ∈ TT := TT_o4 90 (by decide +kernel) (by decide +kernel)
theorem k811 : (Jvm.Cond.sameMethod "KingsBalance$Web" "KingsBalance$Standing" "comesAct" "([II)I") ∈ TT := TT_o4 91 (by decide +kernel) (by decide +kernel)
theorem k460 : (Jvm.Cond.superclass "KingsBalance$Web" "KingsBalance$Standing") ∈ TT := TT_o2 220 (by decide +kernel) (by decide +kernel)
theorem k201 : (Jvm.Cond.sameField "KingsBalance$Guard" "KingsBalance$Standing" "number" "I") ∈ TT := TT_o1 201 (by decide +kernel) (by decide +kernel)
theorem k200 : (Jvm.Cond.fieldLink "KingsBalance$Guard" (34 : Nat) "KingsBalance$Guard" "number" "I") ∈ TT := TT_o1 200 (by decide +kernel) (by decide +kernel)
theorem k466 : (Jvm.Cond.methodLink "KingsBalance$League" (1 : Nat) ({ cls := "KingsBalance$Sides", name := "<init>", desc := "(II)V" } : Jvm.MethodName)) ∈ TT := TT_o2 226 (by decide +kernel) (by decide +kernel)
theorem k539 : (Jvm.Cond.code ({ cls := "KingsBalance$Sides", name := "blockBits", desc := "(LKingsBalance$Realm;I)I" } : Jvm.MethodName) prog_6_method_3_code (6 : Nat) (Option.some Jvm.ClassFile.FieldType.int)) ∈ TT := TT_o3 59 (by decide +kernel) (by decide +kernel)
theorem k534 : (Jvm.Cond.methodLink "KingsBalance$League" (7 : Nat) ({ cls := "KingsBalance$League", name := "blockBits", desc := "(LKingsBalance$Realm;I)I" } : Jvm.MethodName)) ∈ TT := TT_o3 54 (by decide +kernel) (by decide +kernel)
theorem k535 : (Jvm.Cond.sameMethod "KingsBalance$League" "KingsBalance$Sides" "blockBits" "(LKingsBalance$Realm;I)I") ∈ TT := TT_o3 55 (by decide +kernel) (by decide +kernel)
theorem k538 : (Jvm.Cond.instanceMethod ({ cls := "KingsBalance$Sides", name := "blockBits", desc := "(LKingsBalance$Realm;I)I" } : Jvm.MethodName)) ∈ TT := TT_o3 58 (by decide +kernel) (by decide +kernel)
theorem k537 : (Jvm.Cond.selects "KingsBalance$League" ({ cls := "KingsBalance$League", name := "blockBits", desc := "(LKingsBalance$Realm;I)I" } : Jvm.MethodName) ({ cls := "KingsBalance$Sides", name := "blockBits", desc := "(LKingsBalance$Realm;I)I" } : Jvm.MethodName)) ∈ TT := TT_o3 57 (by decide +kernel) (by decide +kernel)
theorem k543 : (Jvm.Cond.code ({ cls := "KingsBalance$Realm", name := "strengthOf", desc := "(I)I" } : Jvm.MethodName) prog_5_method_9_code (4 : Nat) (Option.some Jvm.ClassFile.FieldType.int)) ∈ TT := TT_o3 63 (by decide +kernel) (by decide +kernel)
theorem k540 : (Jvm.Cond.methodLink "KingsBalance$League" (13 : Nat) ({ cls := "KingsBalance$Realm", name := "strengthOf", desc := "(I)I" } : Jvm.MethodName)) ∈ TT := TT_o3 60 (by decide +kernel) (by decide +kernel)
theorem k541 : (Jvm.Cond.instanceMethod ({ cls := "KingsBalance$Realm", name := "strengthOf", desc := "(I)I" } : Jvm.MethodName)) ∈ TT := TT_o3 61 (by decide +kernel) (by decide +kernel)
theorem k542 : (Jvm.Cond.selects "KingsBalance$Realm" ({ cls := "KingsBalance$Realm", name := "strengthOf", desc := "(I)I" } : Jvm.MethodName) ({ cls := "KingsBalance$Realm", name := "strengthOf", desc := "(I)I" } : Jvm.MethodName)) ∈ TT := TT_o3 62 (by decide +kernel) (by decide +kernel)
theorem k113 : (Jvm.Cond.fieldLink "KingsBalance$League" (19 : Nat) "KingsBalance$Realm" "alive" "I") ∈ TT := TT_o1 113 (by decide +kernel) (by decide +kernel)
theorem k544 : (Jvm.Cond.methodLink "KingsBalance$League" (23 : Nat) ({ cls := "KingsBalance$Sides", name := "camps", desc := "(LKingsBalance$Realm;II)I" } : Jvm.MethodName)) ∈ TT := TT_o3 64 (by decide +kernel) (by decide +kernel)
theorem k1344 : (Jvm.Cond.sameMethod "KingsBalance$Sides" "KingsBalance$Sides" "camps" "(LKingsBalance$Realm;II)I") ∈ TT := TT_o6 144 (by decide +kernel) (by decide +kernel)
theorem k469 : (Jvm.Cond.superclass "KingsBalance$League" "KingsBalance$Sides") ∈ TT := TT_o2 229 (by decide +kernel) (by decide +kernel)
theorem k550 : (Jvm.Cond.methodLink "KingsBalance$League" (27 : Nat) ({ cls := "KingsBalance$League", name := "joined", desc := "(LKingsBalance$Realm;IIII)I" } : Jvm.MethodName)) ∈ TT := TT_o3 70 (by decide +kernel) (by decide +kernel)
theorem k551 : (Jvm.Cond.sameMethod "KingsBalance$League" "KingsBalance$Standing" "joined" "(LKingsBalance$Realm;IIII)I") ∈ TT := TT_o3 71 (by decide +kernel) (by decide +kernel)
theorem k862 : (Jvm.Cond.methodLink "KingsBalance$League" (31 : Nat) ({ cls := "KingsBalance$League", name := "note", desc := "([II)V" } : Jvm.MethodName)) ∈ TT := TT_o4 142 (by decide +kernel) (by decide +kernel)
theorem k863 : (Jvm.Cond.sameMethod "KingsBalance$League" "KingsBalance$Standing" "note" "([II)V") ∈ TT := TT_o4 143 (by decide +kernel) (by decide +kernel)
theorem k864 : (Jvm.Cond.methodLink "KingsBalance$League" (35 : Nat) ({ cls := "KingsBalance$Sides", name := "holdsAct", desc := "([II)I" } : Jvm.MethodName)) ∈ TT := TT_o4 144 (by decide +kernel) (by decide +kernel)
theorem k865 : (Jvm.Cond.sameMethod "KingsBalance$Sides" "KingsBalance$Standing" "holdsAct" "([II)I") ∈ TT := TT_o4 145 (by decide +kernel) (by decide +kernel)
theorem k212 : (Jvm.Cond.superclass "KingsBalance$Sides" "KingsBalance$Standing") ∈ TT := TT_o1 212 (by decide +kernel) (by decide +kernel)
theorem k867 : (Jvm.Cond.methodLink "KingsBalance$League" (39 : Nat) ({ cls := "KingsBalance$League", name := "comesAct", desc := "([II)I" } : Jvm.MethodName)) ∈ TT := TT_o4 147 (by decide +kernel) (by decide +kernel)
theorem k868 : (Jvm.Cond.sameMethod "KingsBalance$League" "KingsBalance$Sides" "comesAct" "([II)I") ∈ TT := TT_o4 148 (by decide +kernel) (by decide +kernel)
theorem k870 : (Jvm.Cond.selects "KingsBalance$League" ({ cls := "KingsBalance$League", name := "comesAct", desc := "([II)I" } : Jvm.MethodName) ({ cls := "KingsBalance$Sides", name := "comesAct", desc := "([II)I" } : Jvm.MethodName)) ∈ TT := TT_o4 150 (by decide +kernel) (by decide +kernel)
theorem k34 : (Jvm.Cond.methodLink "KingsBalance$Realm" (3 : Nat) ({ cls := "java/lang/Object", name := "<init>", desc := "()V" } : Jvm.MethodName)) ∈ TT := TT_o1 34 (by decide +kernel) (by decide +kernel)
theorem k103 : (Jvm.Cond.fieldLink "KingsBalance$Realm" (9 : Nat) "KingsBalance$Realm" "kings" "I") ∈ TT := TT_o1 103 (by decide +kernel) (by decide +kernel)
theorem k110 : (Jvm.Cond.fieldLink "KingsBalance$Realm" (15 : Nat) "KingsBalance$Realm" "alive" "I") ∈ TT := TT_o1 110 (by decide +kernel) (by decide +kernel)
theorem k116 : (Jvm.Cond.fieldLink "KingsBalance$Realm" (18 : Nat) "KingsBalance$Realm" "worlds" "I") ∈ TT := TT_o1 116 (by decide +kernel) (by decide +kernel)
theorem k118 : (Jvm.Cond.fieldLink "KingsBalance$Realm" (21 : Nat) "KingsBalance$Realm" "standings" "I") ∈ TT := TT_o1 118 (by decide +kernel) (by decide +kernel)
theorem k120 : (Jvm.Cond.fieldLink "KingsBalance$Realm" (24 : Nat) "KingsBalance$Realm" "wars" "I") ∈ TT := TT_o1 120 (by decide +kernel) (by decide +kernel)
theorem k123 : (Jvm.Cond.fieldLink "KingsBalance$Realm" (27 : Nat) "KingsBalance$Realm" "strength" "[I") ∈ TT := TT_o1 123 (by decide +kernel) (by decide +kernel)
theorem k127 : (Jvm.Cond.fieldLink "KingsBalance$Realm" (31 : Nat) "KingsBalance$Realm" "place" "[I") ∈ TT := TT_o1 127 (by decide +kernel) (by decide +kernel)
theorem k131 : (Jvm.Cond.fieldLink "KingsBalance$Realm" (34 : Nat) "KingsBalance$Realm" "owner" "[I") ∈ TT := TT_o1 131 (by decide +kernel) (by decide +kernel)
theorem k133 : (Jvm.Cond.fieldLink "KingsBalance$Realm" (39 : Nat) "KingsBalance$Realm" "worth" "[[I") ∈ TT := TT_o1 133 (by decide +kernel) (by decide +kernel)
theorem k136 : (Jvm.Cond.fieldLink "KingsBalance$Realm" (42 : Nat) "KingsBalance$Realm" "pact" "[[I") ∈ TT := TT_o1 136 (by decide +kernel) (by decide +kernel)
theorem k37 : (Jvm.Cond.classLink "KingsBalance$Realm" (45 : Nat) "KingsBalance$Tape") ∈ TT := TT_o1 37 (by decide +kernel) (by decide +kernel)
theorem k41 : (Jvm.Cond.code ({ cls := "KingsBalance$Tape", name := "<init>", desc := "()V" } : Jvm.MethodName) prog_8_method_1_code (1 : Nat) (Option.none : Option Jvm.ClassFile.FieldType)) ∈ TT := TT_o1 41 (by decide +kernel) (by decide +kernel)
theorem k40 : (Jvm.Cond.instanceMethod ({ cls := "KingsBalance$Tape", name := "<init>", desc := "()V" } : Jvm.MethodName)) ∈ TT := TT_o1 40 (by decide +kernel) (by decide +kernel)
theorem k139 : (Jvm.Cond.fieldLink "KingsBalance$Realm" (48 : Nat) "KingsBalance$Realm" "tape" "LKingsBalance$Tape;") ∈ TT := TT_o1 139 (by decide +kernel) (by decide +kernel)
theorem k57 : (Jvm.Cond.classLink "KingsBalance$Realm" (52 : Nat) "KingsBalance$World") ∈ TT := TT_o1 57 (by decide +kernel) (by decide +kernel)
theorem k141 : (Jvm.Cond.fieldLink "KingsBalance$Realm" (55 : Nat) "KingsBalance$Realm" "world" "LKingsBalance$World;") ∈ TT := TT_o1 141 (by decide +kernel) (by decide +kernel)
theorem k101 : (Jvm.Cond.classLink "KingsBalance$Realm" (59 : Nat) "KingsBalance$Standing") ∈ TT := TT_o1 101 (by decide +kernel) (by decide +kernel)
theorem k145 : (Jvm.Cond.fieldLink "KingsBalance$Realm" (61 : Nat) "KingsBalance$Realm" "standing" "[LKingsBalance$Standing;") ∈ TT := TT_o1 145 (by decide +kernel) (by decide +kernel)
theorem k147 : (Jvm.Cond.fieldLink "KingsBalance$Realm" (65 : Nat) "KingsBalance$Realm" "block" "[[I") ∈ TT := TT_o1 147 (by decide +kernel) (by decide +kernel)
theorem k895 : (Jvm.Cond.methodLink "KingsBalance$Realm" (68 : Nat) ({ cls := "java/lang/System", name := "arraycopy", desc := "(Ljava/lang/Object;ILjava/lang/Object;II)V" } : Jvm.MethodName)) ∈ TT := TT_o4 175 (by decide +kernel) (by decide +kernel)
theorem k899 : (Jvm.Cond.code ({ cls := "KingsBalance$Tape", name := "become", desc := "(LKingsBalance$Tape;)V" } : Jvm.MethodName) prog_8_method_2_code (2 : Nat) (Option.none : Option Jvm.ClassFile.FieldType)) ∈ TT := TT_o4 179 (by decide +kernel) (by decide +kernel)
theorem k896 : (Jvm.Cond.methodLink "KingsBalance$Realm" (74 : Nat) ({ cls := "KingsBalance$Tape", name := "become", desc := "(LKingsBalance$Tape;)V" } : Jvm.MethodName)) ∈ TT := TT_o4 176 (by decide +kernel) (by decide +kernel)
theorem k897 : (Jvm.Cond.instanceMethod ({ cls := "KingsBalance$Tape", name := "become", desc := "(LKingsBalance$Tape;)V" } : Jvm.MethodName)) ∈ TT := TT_o4 177 (by decide +kernel) (by decide +kernel)
theorem k898 : (Jvm.Cond.selects "KingsBalance$Tape" ({ cls := "KingsBalance$Tape", name := "become", desc := "(LKingsBalance$Tape;)V" } : Jvm.MethodName) ({ cls := "KingsBalance$Tape", name := "become", desc := "(LKingsBalance$Tape;)V" } : Jvm.MethodName)) ∈ TT := TT_o4 178 (by decide +kernel) (by decide +kernel)
theorem k901 : (Jvm.Cond.methodLink "KingsBalance$Realm" (78 : Nat) ({ cls := "KingsBalance$World", name := "become", desc := "(LKingsBalance$World;)V" } : Jvm.MethodName)) ∈ TT := TT_o4 181 (by decide +kernel) (by decide +kernel)
theorem k67 : (Jvm.Cond.fieldLink "KingsBalance$Realm" (81 : Nat) "KingsBalance$World" "less" "I") ∈ TT := TT_o1 67 (by decide +kernel) (by decide +kernel)
theorem k430 : (Jvm.Cond.methodLink "KingsBalance$Realm" (84 : Nat) ({ cls := "java/lang/Math", name := "abs", desc := "(I)I" } : Jvm.MethodName)) ∈ TT := TT_o2 190 (by decide +kernel) (by decide +kernel)
theorem k431 : (Jvm.Cond.methodLink "KingsBalance$Realm" (90 : Nat) ({ cls := "java/lang/Math", name := "max", desc := "(II)I" } : Jvm.MethodName)) ∈ TT := TT_o2 191 (by decide +kernel) (by decide +kernel)
theorem k585 : (Jvm.Cond.methodLink "KingsBalance$Realm" (94 : Nat) ({ cls := "KingsBalance$Realm", name := "forceAt", desc := "(II)I" } : Jvm.MethodName)) ∈ TT := TT_o3 105 (by decide +kernel) (by decide +kernel)
theorem k649 : (Jvm.Cond.methodLink "KingsBalance$Realm" (97 : Nat) ({ cls := "KingsBalance$World", name := "costOf", desc := "(LKingsBalance$Realm;II)I" } : Jvm.MethodName)) ∈ TT := TT_o3 169 (by decide +kernel) (by decide +kernel)
theorem k65 : (Jvm.Cond.fieldLink "KingsBalance$Realm" (101 : Nat) "KingsBalance$World" "word" "I") ∈ TT := TT_o1 65 (by decide +kernel) (by decide +kernel)
theorem k658 : (Jvm.Cond.methodLink "KingsBalance$Realm" (104 : Nat) ({ cls := "KingsBalance$Realm", name := "bears", desc := "(II)Z" } : Jvm.MethodName)) ∈ TT := TT_o3 178 (by decide +kernel) (by decide +kernel)
theorem k759 : (Jvm.Cond.methodLink "KingsBalance$Realm" (108 : Nat) ({ cls := "KingsBalance$Realm", name := "strengthOf", desc := "(I)I" } : Jvm.MethodName)) ∈ TT := TT_o4 39 (by decide +kernel) (by decide +kernel)
theorem k69 : (Jvm.Cond.fieldLink "KingsBalance$Realm" (111 : Nat) "KingsBalance$World" "take" "I") ∈ TT := TT_o1 69 (by decide +kernel) (by decide +kernel)
theorem k744 : (Jvm.Cond.methodLink "KingsBalance$Realm" (114 : Nat) ({ cls := "java/lang/Math", name := "min", desc := "(II)I" } : Jvm.MethodName)) ∈ TT := TT_o4 24 (by decide +kernel) (by decide +kernel)
theorem k193 : (Jvm.Cond.methodLink "KingsBalance$Sides" (1 : Nat) ({ cls := "KingsBalance$Standing", name := "<init>", desc := "(II)V" } : Jvm.MethodName)) ∈ TT := TT_o1 193 (by decide +kernel) (by decide +kernel)
theorem k547 : (Jvm.Cond.methodLink "KingsBalance$Sides" (7 : Nat) ({ cls := "KingsBalance$Sides", name := "blockBits", desc := "(LKingsBalance$Realm;I)I" } : Jvm.MethodName)) ∈ TT := TT_o3 67 (by decide +kernel) (by decide +kernel)
theorem k1345 : (Jvm.Cond.sameMethod "KingsBalance$Sides" "KingsBalance$Sides" "blockBits" "(LKingsBalance$Realm;I)I") ∈ TT := TT_o6 145 (by decide +kernel) (by decide +kernel)
theorem k1346 : (Jvm.Cond.selects "KingsBalance$League" ({ cls := "KingsBalance$Sides", name := "blockBits", desc := "(LKingsBalance$Realm;I)I" } : Jvm.MethodName) ({ cls := "KingsBalance$Sides", name := "blockBits", desc := "(LKingsBalance$Realm;I)I" } : Jvm.MethodName)) ∈ TT := TT_o6 146 (by decide +kernel) (by decide +kernel)
theorem k1347 : (Jvm.Cond.selects "KingsBalance$Sides" ({ cls := "KingsBalance$Sides", name := "blockBits", desc := "(LKingsBalance$Realm;I)I" } : Jvm.MethodName) ({ cls := "KingsBalance$Sides", name := "blockBits", desc := "(LKingsBalance$Realm;I)I" } : Jvm.MethodName)) ∈ TT := TT_o6 147 (by decide +kernel) (by decide +kernel)
theorem k548 : (Jvm.Cond.methodLink "KingsBalance$Sides" (13 : Nat) ({ cls := "KingsBalance$Sides", name := "joined", desc := "(LKingsBalance$Realm;IIII)I" } : Jvm.MethodName)) ∈ TT := TT_o3 68 (by decide +kernel) (by decide +kernel)
theorem k549 : (Jvm.Cond.sameMethod "KingsBalance$Sides" "KingsBalance$Standing" "joined" "(LKingsBalance$Realm;IIII)I") ∈ TT := TT_o3 69 (by decide +kernel) (by decide +kernel)
theorem k148 : (Jvm.Cond.fieldLink "KingsBalance$Sides" (17 : Nat) "KingsBalance$Realm" "block" "[[I") ∈ TT := TT_o1 148 (by decide +kernel) (by decide +kernel)
theorem k199 : (Jvm.Cond.sameField "KingsBalance$Sides" "KingsBalance$Standing" "number" "I") ∈ TT := TT_o1 199 (by decide +kernel) (by decide +kernel)
theorem k198 : (Jvm.Cond.fieldLink "KingsBalance$Sides" (23 : Nat) "KingsBalance$Sides" "number" "I") ∈ TT := TT_o1 198 (by decide +kernel) (by decide +kernel)
theorem k107 : (Jvm.Cond.fieldLink "KingsBalance$Sides" (27 : Nat) "KingsBalance$Realm" "kings" "I") ∈ TT := TT_o1 107 (by decide +kernel) (by decide +kernel)
theorem k816 : (Jvm.Cond.methodLink "KingsBalance$Sides" (30 : Nat) ({ cls := "KingsBalance$Sides", name := "note", desc := "([II)V" } : Jvm.MethodName)) ∈ TT := TT_o4 96 (by decide +kernel) (by decide +kernel)
theorem k817 : (Jvm.Cond.sameMethod "KingsBalance$Sides" "KingsBalance$Standing" "note" "([II)V") ∈ TT := TT_o4 97 (by decide +kernel) (by decide +kernel)
theorem k818 : (Jvm.Cond.methodLink "KingsBalance$Sides" (34 : Nat) ({ cls := "KingsBalance$Standing", name := "comesAct", desc := "([II)I" } : Jvm.MethodName)) ∈ TT := TT_o4 98 (by decide +kernel) (by decide +kernel)
theorem k196 : (Jvm.Cond.methodLink "KingsBalance$Standing" (3 : Nat) ({ cls := "java/lang/Object", name := "<init>", desc := "()V" } : Jvm.MethodName)) ∈ TT := TT_o1 196 (by decide +kernel) (by decide +kernel)
theorem k197 : (Jvm.Cond.fieldLink "KingsBalance$Standing" (9 : Nat) "KingsBalance$Standing" "number" "I") ∈ TT := TT_o1 197 (by decide +kernel) (by decide +kernel)
theorem k202 : (Jvm.Cond.fieldLink "KingsBalance$Standing" (15 : Nat) "KingsBalance$Standing" "v" "I") ∈ TT := TT_o1 202 (by decide +kernel) (by decide +kernel)
theorem k573 : (Jvm.Cond.methodLink "KingsBalance$Standing" (18 : Nat) ({ cls := "KingsBalance$Standing", name := "joined", desc := "(LKingsBalance$Realm;IIII)I" } : Jvm.MethodName)) ∈ TT := TT_o3 93 (by decide +kernel) (by decide +kernel)
theorem k114 : (Jvm.Cond.fieldLink "KingsBalance$Standing" (22 : Nat) "KingsBalance$Realm" "alive" "I") ∈ TT := TT_o1 114 (by decide +kernel) (by decide +kernel)
theorem k135 : (Jvm.Cond.fieldLink "KingsBalance$Standing" (27 : Nat) "KingsBalance$Realm" "worth" "[[I") ∈ TT := TT_o1 135 (by decide +kernel) (by decide +kernel)
theorem k606 : (Jvm.Cond.methodLink "KingsBalance$Standing" (31 : Nat) ({ cls := "KingsBalance$Standing", name := "camps", desc := "(LKingsBalance$Realm;II)I" } : Jvm.MethodName)) ∈ TT := TT_o3 126 (by decide +kernel) (by decide +kernel)
theorem k607 : (Jvm.Cond.methodLink "KingsBalance$Standing" (35 : Nat) ({ cls := "KingsBalance$Standing", name := "attackers", desc := "(I)I" } : Jvm.MethodName)) ∈ TT := TT_o3 127 (by decide +kernel) (by decide +kernel)
theorem k130 : (Jvm.Cond.fieldLink "KingsBalance$Standing" (39 : Nat) "KingsBalance$Realm" "place" "[I") ∈ TT := TT_o1 130 (by decide +kernel) (by decide +kernel)
theorem k608 : (Jvm.Cond.methodLink "KingsBalance$Standing" (43 : Nat) ({ cls := "KingsBalance$Realm", name := "forcesAt", desc := "(II)I" } : Jvm.MethodName)) ∈ TT := TT_o3 128 (by decide +kernel) (by decide +kernel)
theorem k609 : (Jvm.Cond.methodLink "KingsBalance$Standing" (47 : Nat) ({ cls := "KingsBalance$Standing", name := "defenders", desc := "(I)I" } : Jvm.MethodName)) ∈ TT := TT_o3 129 (by decide +kernel) (by decide +kernel)
theorem k143 : (Jvm.Cond.fieldLink "KingsBalance$Standing" (50 : Nat) "KingsBalance$Realm" "world" "LKingsBalance$World;") ∈ TT := TT_o1 143 (by decide +kernel) (by decide +kernel)
theorem k610 : (Jvm.Cond.methodLink "KingsBalance$Standing" (54 : Nat) ({ cls := "KingsBalance$World", name := "costOf", desc := "(LKingsBalance$Realm;II)I" } : Jvm.MethodName)) ∈ TT := TT_o3 130 (by decide +kernel) (by decide +kernel)
theorem k109 : (Jvm.Cond.fieldLink "KingsBalance$Standing" (59 : Nat) "KingsBalance$Realm" "kings" "I") ∈ TT := TT_o1 109 (by decide +kernel) (by decide +kernel)
theorem k601 : (Jvm.Cond.methodLink "KingsBalance$Standing" (62 : Nat) ({ cls := "KingsBalance$Realm", name := "lives", desc := "(I)Z" } : Jvm.MethodName)) ∈ TT := TT_o3 121 (by decide +kernel) (by decide +kernel)
theorem k126 : (Jvm.Cond.fieldLink "KingsBalance$Standing" (70 : Nat) "KingsBalance$Realm" "strength" "[I") ∈ TT := TT_o1 126 (by decide +kernel) (by decide +kernel)
theorem k735 : (Jvm.Cond.code ({ cls := "KingsBalance$Realm", name := "halve", desc := "(I)V" } : Jvm.MethodName) prog_5_method_14_code (3 : Nat) (Option.none : Option Jvm.ClassFile.FieldType)) ∈ TT := TT_o4 15 (by decide +kernel) (by decide +kernel)
theorem k732 : (Jvm.Cond.methodLink "KingsBalance$Standing" (73 : Nat) ({ cls := "KingsBalance$Realm", name := "halve", desc := "(I)V" } : Jvm.MethodName)) ∈ TT := TT_o4 12 (by decide +kernel) (by decide +kernel)
theorem k733 : (Jvm.Cond.instanceMethod ({ cls := "KingsBalance$Realm", name := "halve", desc := "(I)V" } : Jvm.MethodName)) ∈ TT := TT_o4 13 (by decide +kernel) (by decide +kernel)
theorem k734 : (Jvm.Cond.selects "KingsBalance$Realm" ({ cls := "KingsBalance$Realm", name := "halve", desc := "(I)V" } : Jvm.MethodName) ({ cls := "KingsBalance$Realm", name := "halve", desc := "(I)V" } : Jvm.MethodName)) ∈ TT := TT_o4 14 (by decide +kernel) (by decide +kernel)
theorem k739 : (Jvm.Cond.code ({ cls := "KingsBalance$Realm", name := "wear", desc := "(III)V" } : Jvm.MethodName) prog_5_method_15_code (5 : Nat) (Option.none : Option Jvm.ClassFile.FieldType)) ∈ TT := TT_o4 19 (by decide +kernel) (by decide +kernel)
theorem k736 : (Jvm.Cond.methodLink "KingsBalance$Standing" (77 : Nat) ({ cls := "KingsBalance$Realm", name := "wear", desc := "(III)V" } : Jvm.MethodName)) ∈ TT := TT_o4 16 (by decide +kernel) (by decide +kernel)
theorem k737 : (Jvm.Cond.instanceMethod ({ cls := "KingsBalance$Realm", name := "wear", desc := "(III)V" } : Jvm.MethodName)) ∈ TT := TT_o4 17 (by decide +kernel) (by decide +kernel)
theorem k738 : (Jvm.Cond.selects "KingsBalance$Realm" ({ cls := "KingsBalance$Realm", name := "wear", desc := "(III)V" } : Jvm.MethodName) ({ cls := "KingsBalance$Realm", name := "wear", desc := "(III)V" } : Jvm.MethodName)) ∈ TT := TT_o4 18 (by decide +kernel) (by decide +kernel)
theorem k743 : (Jvm.Cond.code ({ cls := "KingsBalance$Realm", name := "fall", desc := "(III)V" } : Jvm.MethodName) prog_5_method_16_code (4 : Nat) (Option.none : Option Jvm.ClassFile.FieldType)) ∈ TT := TT_o4 23 (by decide +kernel) (by decide +kernel)
theorem k740 : (Jvm.Cond.methodLink "KingsBalance$Standing" (81 : Nat) ({ cls := "KingsBalance$Realm", name := "fall", desc := "(III)V" } : Jvm.MethodName)) ∈ TT := TT_o4 20 (by decide +kernel) (by decide +kernel)
theorem k741 : (Jvm.Cond.instanceMethod ({ cls := "KingsBalance$Realm", name := "fall", desc := "(III)V" } : Jvm.MethodName)) ∈ TT := TT_o4 21 (by decide +kernel) (by decide +kernel)
theorem k742 : (Jvm.Cond.selects "KingsBalance$Realm" ({ cls := "KingsBalance$Realm", name := "fall", desc := "(III)V" } : Jvm.MethodName) ({ cls := "KingsBalance$Realm", name := "fall", desc := "(III)V" } : Jvm.MethodName)) ∈ TT := TT_o4 22 (by decide +kernel) (by decide +kernel)
theorem k121 : (Jvm.Cond.fieldLink "KingsBalance$Standing" (84 : Nat) "KingsBalance$Realm" "wars" "I") ∈ TT := TT_o1 121 (by decide +kernel) (by decide +kernel)
theorem k823 : (Jvm.Cond.methodLink "KingsBalance$Standing" (87 : Nat) ({ cls := "KingsBalance$Standing", name := "note", desc := "([II)V" } : Jvm.MethodName)) ∈ TT := TT_o4 103 (by decide +kernel) (by decide +kernel)
theorem k847 : (Jvm.Cond.methodLink "KingsBalance$Standing" (91 : Nat) ({ cls := "KingsBalance$Standing", name := "comesAct", desc := "([II)I" } : Jvm.MethodName)) ∈ TT := TT_o4 127 (by decide +kernel) (by decide +kernel)
theorem k875 : (Jvm.Cond.methodLink "KingsBalance$Standing" (95 : Nat) ({ cls := "KingsBalance$Standing", name := "daresAct", desc := "([II)I" } : Jvm.MethodName)) ∈ TT := TT_o4 155 (by decide +kernel) (by decide +kernel)
theorem k42 : (Jvm.Cond.methodLink "KingsBalance$Tape" (3 : Nat) ({ cls := "java/lang/Object", name := "<init>", desc := "()V" } : Jvm.MethodName)) ∈ TT := TT_o1 42 (by decide +kernel) (by decide +kernel)
theorem k43 : (Jvm.Cond.fieldLink "KingsBalance$Tape" (9 : Nat) "KingsBalance$Tape" "bytes" "[I") ∈ TT := TT_o1 43 (by decide +kernel) (by decide +kernel)
theorem k44 : (Jvm.Cond.fieldLink "KingsBalance$Tape" (15 : Nat) "KingsBalance$Tape" "size" "I") ∈ TT := TT_o1 44 (by decide +kernel) (by decide +kernel)
theorem k47 : (Jvm.Cond.fieldLink "KingsBalance$Tape" (19 : Nat) "KingsBalance$Tape" "at" "I") ∈ TT := TT_o1 47 (by decide +kernel) (by decide +kernel)
theorem k900 : (Jvm.Cond.methodLink "KingsBalance$Tape" (22 : Nat) ({ cls := "java/lang/System", name := "arraycopy", desc := "(Ljava/lang/Object;ILjava/lang/Object;II)V" } : Jvm.MethodName)) ∈ TT := TT_o4 180 (by decide +kernel) (by decide +kernel)
theorem k9 : (Jvm.Cond.initialized "java/lang/String") ∈ TT := TT_o1 9 (by decide +kernel) (by decide +kernel)
theorem k308 : (Jvm.Cond.code ({ cls := "java/lang/String", name := "length", desc := "()I" } : Jvm.MethodName) prog_17_method_54_code (1 : Nat) (Option.some Jvm.ClassFile.FieldType.int)) ∈ TT := TT_o2 68 (by decide +kernel) (by decide +kernel)
theorem k305 : (Jvm.Cond.methodLink "KingsBalance$Tape" (28 : Nat) ({ cls := "java/lang/String", name := "length", desc := "()I" } : Jvm.MethodName)) ∈ TT := TT_o2 65 (by decide +kernel) (by decide +kernel)
theorem k306 : (Jvm.Cond.instanceMethod ({ cls := "java/lang/String", name := "length", desc := "()I" } : Jvm.MethodName)) ∈ TT := TT_o2 66 (by decide +kernel) (by decide +kernel)
theorem k307 : (Jvm.Cond.selects "java/lang/String" ({ cls := "java/lang/String", name := "length", desc := "()I" } : Jvm.MethodName) ({ cls := "java/lang/String", name := "length", desc := "()I" } : Jvm.MethodName)) ∈ TT := TT_o2 67 (by decide +kernel) (by decide +kernel)
theorem k318 : (Jvm.Cond.code ({ cls := "java/lang/String", name := "charAt", desc := "(I)C" } : Jvm.MethodName) prog_17_method_56_code (2 : Nat) (Option.some Jvm.ClassFile.FieldType.char)) ∈ TT := TT_o2 78 (by decide +kernel) (by decide +kernel)
theorem k315 : (Jvm.Cond.methodLink "KingsBalance$Tape" (34 : Nat) ({ cls := "java/lang/String", name := "charAt", desc := "(I)C" } : Jvm.MethodName)) ∈ TT := TT_o2 75 (by decide +kernel) (by decide +kernel)
theorem k316 : (Jvm.Cond.instanceMethod ({ cls := "java/lang/String", name := "charAt", desc := "(I)C" } : Jvm.MethodName)) ∈ TT := TT_o2 76 (by decide +kernel) (by decide +kernel)
theorem k317 : (Jvm.Cond.selects "java/lang/String" ({ cls := "java/lang/String", name := "charAt", desc := "(I)C" } : Jvm.MethodName) ({ cls := "java/lang/String", name := "charAt", desc := "(I)C" } : Jvm.MethodName)) ∈ TT := TT_o2 77 (by decide +kernel) (by decide +kernel)
theorem k304 : (Jvm.Cond.code ({ cls := "KingsBalance$Tape", name := "pick", desc := "(Ljava/lang/String;)I" } : Jvm.MethodName) prog_8_method_4_code (3 : Nat) (Option.some Jvm.ClassFile.FieldType.int)) ∈ TT := TT_o2 64 (by decide +kernel) (by decide +kernel)
theorem k371 : (Jvm.Cond.methodLink "KingsBalance$Tape" (40 : Nat) ({ cls := "KingsBalance$Tape", name := "pick", desc := "(Ljava/lang/String;)I" } : Jvm.MethodName)) ∈ TT := TT_o2 131 (by decide +kernel) (by decide +kernel)
theorem k302 : (Jvm.Cond.instanceMethod ({ cls := "KingsBalance$Tape", name := "pick", desc := "(Ljava/lang/String;)I" } : Jvm.MethodName)) ∈ TT := TT_o2 62 (by decide +kernel) (by decide +kernel)
theorem k303 : (Jvm.Cond.selects "KingsBalance$Tape" ({ cls := "KingsBalance$Tape", name := "pick", desc := "(Ljava/lang/String;)I" } : Jvm.MethodName) ({ cls := "KingsBalance$Tape", name := "pick", desc := "(Ljava/lang/String;)I" } : Jvm.MethodName)) ∈ TT := TT_o2 63 (by decide +kernel) (by decide +kernel)
theorem k484 : (Jvm.Cond.methodLink "KingsBalance$True" (1 : Nat) ({ cls := "KingsBalance$Web", name := "<init>", desc := "(II)V" } : Jvm.MethodName)) ∈ TT := TT_o3 4 (by decide +kernel) (by decide +kernel)
theorem k556 : (Jvm.Cond.methodLink "KingsBalance$True" (7 : Nat) ({ cls := "KingsBalance$Web", name := "camps", desc := "(LKingsBalance$Realm;II)I" } : Jvm.MethodName)) ∈ TT := TT_o3 76 (by decide +kernel) (by decide +kernel)
theorem k487 : (Jvm.Cond.superclass "KingsBalance$True" "KingsBalance$Web") ∈ TT := TT_o3 7 (by decide +kernel) (by decide +kernel)
theorem k557 : (Jvm.Cond.methodLink "KingsBalance$True" (11 : Nat) ({ cls := "KingsBalance$True", name := "attackers", desc := "(I)I" } : Jvm.MethodName)) ∈ TT := TT_o3 77 (by decide +kernel) (by decide +kernel)
theorem k558 : (Jvm.Cond.sameMethod "KingsBalance$True" "KingsBalance$Standing" "attackers" "(I)I") ∈ TT := TT_o3 78 (by decide +kernel) (by decide +kernel)
theorem k563 : (Jvm.Cond.code ({ cls := "KingsBalance$True", name := "keepers", desc := "(LKingsBalance$Realm;II)I" } : Jvm.MethodName) prog_9_method_3_code (5 : Nat) (Option.some Jvm.ClassFile.FieldType.int)) ∈ TT := TT_o3 83 (by decide +kernel) (by decide +kernel)
theorem k561 : (Jvm.Cond.methodLink "KingsBalance$True" (17 : Nat) ({ cls := "KingsBalance$True", name := "keepers", desc := "(LKingsBalance$Realm;II)I" } : Jvm.MethodName)) ∈ TT := TT_o3 81 (by decide +kernel) (by decide +kernel)
theorem k562 : (Jvm.Cond.static ({ cls := "KingsBalance$True", name := "keepers", desc := "(LKingsBalance$Realm;II)I" } : Jvm.MethodName)) ∈ TT := TT_o3 82 (by decide +kernel) (by decide +kernel)
theorem k565 : (Jvm.Cond.methodLink "KingsBalance$True" (20 : Nat) ({ cls := "KingsBalance$True", name := "defenders", desc := "(I)I" } : Jvm.MethodName)) ∈ TT := TT_o3 85 (by decide +kernel) (by decide +kernel)
theorem k566 : (Jvm.Cond.sameMethod "KingsBalance$True" "KingsBalance$Standing" "defenders" "(I)I") ∈ TT := TT_o3 86 (by decide +kernel) (by decide +kernel)
theorem k569 : (Jvm.Cond.methodLink "KingsBalance$True" (23 : Nat) ({ cls := "KingsBalance$True", name := "joined", desc := "(LKingsBalance$Realm;IIII)I" } : Jvm.MethodName)) ∈ TT := TT_o3 89 (by decide +kernel) (by decide +kernel)
theorem k570 : (Jvm.Cond.sameMethod "KingsBalance$True" "KingsBalance$Standing" "joined" "(LKingsBalance$Realm;IIII)I") ∈ TT := TT_o3 90 (by decide +kernel) (by decide +kernel)
theorem k106 : (Jvm.Cond.fieldLink "KingsBalance$True" (27 : Nat) "KingsBalance$Realm" "kings" "I") ∈ TT := TT_o1 106 (by decide +kernel) (by decide +kernel)
theorem k142 : (Jvm.Cond.fieldLink "KingsBalance$True" (33 : Nat) "KingsBalance$Realm" "world" "LKingsBalance$World;") ∈ TT := TT_o1 142 (by decide +kernel) (by decide +kernel)
theorem k564 : (Jvm.Cond.methodLink "KingsBalance$True" (37 : Nat) ({ cls := "KingsBalance$World", name := "costOf", desc := "(LKingsBalance$Realm;II)I" } : Jvm.MethodName)) ∈ TT := TT_o3 84 (by decide +kernel) (by decide +kernel)
theorem k64 : (Jvm.Cond.fieldLink "KingsBalance$True" (42 : Nat) "KingsBalance$World" "word" "I") ∈ TT := TT_o1 64 (by decide +kernel) (by decide +kernel)
theorem k840 : (Jvm.Cond.methodLink "KingsBalance$True" (45 : Nat) ({ cls := "KingsBalance$True", name := "note", desc := "([II)V" } : Jvm.MethodName)) ∈ TT := TT_o4 120 (by decide +kernel) (by decide +kernel)
theorem k841 : (Jvm.Cond.sameMethod "KingsBalance$True" "KingsBalance$Standing" "note" "([II)V") ∈ TT := TT_o4 121 (by decide +kernel) (by decide +kernel)
theorem k842 : (Jvm.Cond.methodLink "KingsBalance$True" (49 : Nat) ({ cls := "KingsBalance$Web", name := "daresAct", desc := "([II)I" } : Jvm.MethodName)) ∈ TT := TT_o4 122 (by decide +kernel) (by decide +kernel)
theorem k843 : (Jvm.Cond.sameMethod "KingsBalance$Web" "KingsBalance$Standing" "daresAct" "([II)I") ∈ TT := TT_o4 123 (by decide +kernel) (by decide +kernel)
theorem k206 : (Jvm.Cond.sameField "KingsBalance$True" "KingsBalance$Standing" "v" "I") ∈ TT := TT_o1 206 (by decide +kernel) (by decide +kernel)
theorem k205 : (Jvm.Cond.fieldLink "KingsBalance$True" (53 : Nat) "KingsBalance$True" "v" "I") ∈ TT := TT_o1 205 (by decide +kernel) (by decide +kernel)
theorem k187 : (Jvm.Cond.methodLink "KingsBalance$Ways" (3 : Nat) ({ cls := "java/lang/Object", name := "<init>", desc := "()V" } : Jvm.MethodName)) ∈ TT := TT_o1 187 (by decide +kernel) (by decide +kernel)
theorem k188 : (Jvm.Cond.classLink "KingsBalance$Ways" (9 : Nat) "KingsBalance$Sides") ∈ TT := TT_o1 188 (by decide +kernel) (by decide +kernel)
theorem k190 : (Jvm.Cond.methodLink "KingsBalance$Ways" (13 : Nat) ({ cls := "KingsBalance$Sides", name := "<init>", desc := "(II)V" } : Jvm.MethodName)) ∈ TT := TT_o1 190 (by decide +kernel) (by decide +kernel)
theorem k213 : (Jvm.Cond.fieldLink "KingsBalance$Ways" (16 : Nat) "KingsBalance$Ways" "sides" "LKingsBalance$Sides;") ∈ TT := TT_o1 213 (by decide +kernel) (by decide +kernel)
theorem k214 : (Jvm.Cond.fieldLink "KingsBalance$Ways" (20 : Nat) "KingsBalance$Ways" "members" "[I") ∈ TT := TT_o1 214 (by decide +kernel) (by decide +kernel)
theorem k215 : (Jvm.Cond.fieldLink "KingsBalance$Ways" (24 : Nat) "KingsBalance$Ways" "size" "I") ∈ TT := TT_o1 215 (by decide +kernel) (by decide +kernel)
theorem k111 : (Jvm.Cond.fieldLink "KingsBalance$Ways" (28 : Nat) "KingsBalance$Realm" "alive" "I") ∈ TT := TT_o1 111 (by decide +kernel) (by decide +kernel)
theorem k667 : (Jvm.Cond.methodLink "KingsBalance$Ways" (33 : Nat) ({ cls := "java/lang/Integer", name := "bitCount", desc := "(I)I" } : Jvm.MethodName)) ∈ TT := TT_o3 187 (by decide +kernel) (by decide +kernel)
theorem k149 : (Jvm.Cond.fieldLink "KingsBalance$Ways" (39 : Nat) "KingsBalance$Realm" "block" "[[I") ∈ TT := TT_o1 149 (by decide +kernel) (by decide +kernel)
theorem k680 : (Jvm.Cond.code ({ cls := "KingsBalance$Ways", name := "begin", desc := "(LKingsBalance$Realm;)V" } : Jvm.MethodName) prog_10_method_6_code (3 : Nat) (Option.none : Option Jvm.ClassFile.FieldType)) ∈ TT := TT_o3 200 (by decide +kernel) (by decide +kernel)
theorem k677 : (Jvm.Cond.methodLink "KingsBalance$Ways" (43 : Nat) ({ cls := "KingsBalance$Ways", name := "begin", desc := "(LKingsBalance$Realm;)V" } : Jvm.MethodName)) ∈ TT := TT_o3 197 (by decide +kernel) (by decide +kernel)
theorem k679 : (Jvm.Cond.instanceMethod ({ cls := "KingsBalance$Ways", name := "begin", desc := "(LKingsBalance$Realm;)V" } : Jvm.MethodName)) ∈ TT := TT_o3 199 (by decide +kernel) (by decide +kernel)
theorem s10 : (Cond.selects "KingsBalance$Ways" ⟨"KingsBalance$Ways", "begin", "(LKingsBalance$Realm;)V"⟩ ⟨"KingsBalance$Ways", "begin", "(LKingsBalance$Realm;)V"⟩) ∈ TT := TT_sel 10 (by decide +kernel) (by decide +kernel)
theorem k682 : (Jvm.Cond.methodLink "KingsBalance$Ways" (47 : Nat) ({ cls := "KingsBalance$Sides", name := "firstWar", desc := "(LKingsBalance$Realm;)I" } : Jvm.MethodName)) ∈ TT := TT_o3 202 (by decide +kernel) (by decide +kernel)
theorem k683 : (Jvm.Cond.sameMethod "KingsBalance$Sides" "KingsBalance$Standing" "firstWar" "(LKingsBalance$Realm;)I") ∈ TT := TT_o3 203 (by decide +kernel) (by decide +kernel)
theorem k685 : (Jvm.Cond.selects "KingsBalance$League" ({ cls := "KingsBalance$Sides", name := "firstWar", desc := "(LKingsBalance$Realm;)I" } : Jvm.MethodName) ({ cls := "KingsBalance$Standing", name := "firstWar", desc := "(LKingsBalance$Realm;)I" } : Jvm.MethodName)) ∈ TT := TT_o3 205 (by decide +kernel) (by decide +kernel)
theorem k686 : (Jvm.Cond.selects "KingsBalance$Sides" ({ cls := "KingsBalance$Sides", name := "firstWar", desc := "(LKingsBalance$Realm;)I" } : Jvm.MethodName) ({ cls := "KingsBalance$Standing", name := "firstWar", desc := "(LKingsBalance$Realm;)I" } : Jvm.MethodName)) ∈ TT := TT_o3 206 (by decide +kernel) (by decide +kernel)
theorem k690 : (Jvm.Cond.code ({ cls := "KingsBalance$Ways", name := "steady", desc := "(LKingsBalance$Realm;)Z" } : Jvm.MethodName) prog_10_method_9_code (9 : Nat) (Option.some Jvm.ClassFile.FieldType.boolean)) ∈ TT := TT_o3 210 (by decide +kernel) (by decide +kernel)
theorem k687 : (Jvm.Cond.methodLink "KingsBalance$Ways" (51 : Nat) ({ cls := "KingsBalance$Ways", name := "steady", desc := "(LKingsBalance$Realm;)Z" } : Jvm.MethodName)) ∈ TT := TT_o3 207 (by decide +kernel) (by decide +kernel)
theorem k689 : (Jvm.Cond.instanceMethod ({ cls := "KingsBalance$Ways", name := "steady", desc := "(LKingsBalance$Realm;)Z" } : Jvm.MethodName)) ∈ TT := TT_o3 209 (by decide +kernel) (by decide +kernel)
theorem s11 : (Cond.selects "KingsBalance$Ways" ⟨"KingsBalance$Ways", "steady", "(LKingsBalance$Realm;)Z"⟩ ⟨"KingsBalance$Ways", "steady", "(LKingsBalance$Realm;)Z"⟩) ∈ TT := TT_sel 11 (by decide +kernel) (by decide +kernel)
theorem k704 : (Jvm.Cond.code ({ cls := "KingsBalance$Ways", name := "advance", desc := "([I)Z" } : Jvm.MethodName) prog_10_method_7_code (3 : Nat) (Option.some Jvm.ClassFile.FieldType.boolean)) ∈ TT := TT_o3 224 (by decide +kernel) (by decide +kernel)
theorem k701 : (Jvm.Cond.methodLink "KingsBalance$Ways" (55 : Nat) ({ cls := "KingsBalance$Ways", name := "advance", desc := "([I)Z" } : Jvm.MethodName)) ∈ TT := TT_o3 221 (by decide +kernel) (by decide +kernel)
theorem k703 : (Jvm.Cond.instanceMethod ({ cls := "KingsBalance$Ways", name := "advance", desc := "([I)Z" } : Jvm.MethodName)) ∈ TT := TT_o3 223 (by decide +kernel) (by decide +kernel)
theorem s13 : (Cond.selects "KingsBalance$Ways" ⟨"KingsBalance$Ways", "advance", "([I)Z"⟩ ⟨"KingsBalance$Ways", "advance", "([I)Z"⟩) ∈ TT := TT_sel 13 (by decide +kernel) (by decide +kernel)
theorem k108 : (Jvm.Cond.fieldLink "KingsBalance$Ways" (59 : Nat) "KingsBalance$Realm" "kings" "I") ∈ TT := TT_o1 108 (by decide +kernel) (by decide +kernel)
theorem k681 : (Jvm.Cond.methodLink "KingsBalance$Ways" (62 : Nat) ({ cls := "KingsBalance$Realm", name := "lives", desc := "(I)Z" } : Jvm.MethodName)) ∈ TT := TT_o3 201 (by decide +kernel) (by decide +kernel)
theorem k694 : (Jvm.Cond.code ({ cls := "KingsBalance$Ways", name := "highest", desc := "([II)I" } : Jvm.MethodName) prog_10_method_8_code (5 : Nat) (Option.some Jvm.ClassFile.FieldType.int)) ∈ TT := TT_o3 214 (by decide +kernel) (by decide +kernel)
theorem k691 : (Jvm.Cond.methodLink "KingsBalance$Ways" (66 : Nat) ({ cls := "KingsBalance$Ways", name := "highest", desc := "([II)I" } : Jvm.MethodName)) ∈ TT := TT_o3 211 (by decide +kernel) (by decide +kernel)
theorem k693 : (Jvm.Cond.instanceMethod ({ cls := "KingsBalance$Ways", name := "highest", desc := "([II)I" } : Jvm.MethodName)) ∈ TT := TT_o3 213 (by decide +kernel) (by decide +kernel)
theorem s12 : (Cond.selects "KingsBalance$Ways" ⟨"KingsBalance$Ways", "highest", "([II)I"⟩ ⟨"KingsBalance$Ways", "highest", "([II)I"⟩) ∈ TT := TT_sel 12 (by decide +kernel) (by decide +kernel)
theorem k695 : (Jvm.Cond.methodLink "KingsBalance$Ways" (70 : Nat) ({ cls := "java/lang/Math", name := "max", desc := "(II)I" } : Jvm.MethodName)) ∈ TT := TT_o3 215 (by decide +kernel) (by decide +kernel)
theorem k696 : (Jvm.Cond.methodLink "KingsBalance$Ways" (76 : Nat) ({ cls := "KingsBalance$Sides", name := "prey", desc := "(LKingsBalance$Realm;I)I" } : Jvm.MethodName)) ∈ TT := TT_o3 216 (by decide +kernel) (by decide +kernel)
theorem k697 : (Jvm.Cond.sameMethod "KingsBalance$Sides" "KingsBalance$Standing" "prey" "(LKingsBalance$Realm;I)I") ∈ TT := TT_o3 217 (by decide +kernel) (by decide +kernel)
theorem k699 : (Jvm.Cond.selects "KingsBalance$League" ({ cls := "KingsBalance$Sides", name := "prey", desc := "(LKingsBalance$Realm;I)I" } : Jvm.MethodName) ({ cls := "KingsBalance$Standing", name := "prey", desc := "(LKingsBalance$Realm;I)I" } : Jvm.MethodName)) ∈ TT := TT_o3 219 (by decide +kernel) (by decide +kernel)
theorem k700 : (Jvm.Cond.selects "KingsBalance$Sides" ({ cls := "KingsBalance$Sides", name := "prey", desc := "(LKingsBalance$Realm;I)I" } : Jvm.MethodName) ({ cls := "KingsBalance$Standing", name := "prey", desc := "(LKingsBalance$Realm;I)I" } : Jvm.MethodName)) ∈ TT := TT_o3 220 (by decide +kernel) (by decide +kernel)
theorem k457 : (Jvm.Cond.methodLink "KingsBalance$Web" (1 : Nat) ({ cls := "KingsBalance$Standing", name := "<init>", desc := "(II)V" } : Jvm.MethodName)) ∈ TT := TT_o2 217 (by decide +kernel) (by decide +kernel)
theorem k104 : (Jvm.Cond.fieldLink "KingsBalance$Web" (7 : Nat) "KingsBalance$Realm" "kings" "I") ∈ TT := TT_o1 104 (by decide +kernel) (by decide +kernel)
theorem k137 : (Jvm.Cond.fieldLink "KingsBalance$Web" (13 : Nat) "KingsBalance$Realm" "pact" "[[I") ∈ TT := TT_o1 137 (by decide +kernel) (by decide +kernel)
theorem k529 : (Jvm.Cond.methodLink "KingsBalance$Web" (17 : Nat) ({ cls := "KingsBalance$Web", name := "joined", desc := "(LKingsBalance$Realm;IIII)I" } : Jvm.MethodName)) ∈ TT := TT_o3 49 (by decide +kernel) (by decide +kernel)
theorem k530 : (Jvm.Cond.sameMethod "KingsBalance$Web" "KingsBalance$Standing" "joined" "(LKingsBalance$Realm;IIII)I") ∈ TT := TT_o3 50 (by decide +kernel) (by decide +kernel)
theorem k856 : (Jvm.Cond.methodLink "KingsBalance$Web" (23 : Nat) ({ cls := "KingsBalance$Web", name := "note", desc := "([II)V" } : Jvm.MethodName)) ∈ TT := TT_o4 136 (by decide +kernel) (by decide +kernel)
theorem k857 : (Jvm.Cond.sameMethod "KingsBalance$Web" "KingsBalance$Standing" "note" "([II)V") ∈ TT := TT_o4 137 (by decide +kernel) (by decide +kernel)
theorem k858 : (Jvm.Cond.methodLink "KingsBalance$Web" (27 : Nat) ({ cls := "KingsBalance$Standing", name := "holdsAct", desc := "([II)I" } : Jvm.MethodName)) ∈ TT := TT_o4 138 (by decide +kernel) (by decide +kernel)
theorem k62 : (Jvm.Cond.methodLink "KingsBalance$World" (3 : Nat) ({ cls := "java/lang/Object", name := "<init>", desc := "()V" } : Jvm.MethodName)) ∈ TT := TT_o1 62 (by decide +kernel) (by decide +kernel)
theorem k63 : (Jvm.Cond.fieldLink "KingsBalance$World" (9 : Nat) "KingsBalance$World" "word" "I") ∈ TT := TT_o1 63 (by decide +kernel) (by decide +kernel)
theorem k66 : (Jvm.Cond.fieldLink "KingsBalance$World" (15 : Nat) "KingsBalance$World" "less" "I") ∈ TT := TT_o1 66 (by decide +kernel) (by decide +kernel)
theorem k68 : (Jvm.Cond.fieldLink "KingsBalance$World" (18 : Nat) "KingsBalance$World" "take" "I") ∈ TT := TT_o1 68 (by decide +kernel) (by decide +kernel)
theorem k70 : (Jvm.Cond.fieldLink "KingsBalance$World" (21 : Nat) "KingsBalance$World" "costs" "I") ∈ TT := TT_o1 70 (by decide +kernel) (by decide +kernel)
theorem k71 : (Jvm.Cond.fieldLink "KingsBalance$World" (24 : Nat) "KingsBalance$World" "steps" "I") ∈ TT := TT_o1 71 (by decide +kernel) (by decide +kernel)
theorem k72 : (Jvm.Cond.fieldLink "KingsBalance$World" (27 : Nat) "KingsBalance$World" "price" "[I") ∈ TT := TT_o1 72 (by decide +kernel) (by decide +kernel)
theorem k73 : (Jvm.Cond.fieldLink "KingsBalance$World" (31 : Nat) "KingsBalance$World" "end" "[I") ∈ TT := TT_o1 73 (by decide +kernel) (by decide +kernel)
theorem k74 : (Jvm.Cond.fieldLink "KingsBalance$World" (34 : Nat) "KingsBalance$World" "what" "[I") ∈ TT := TT_o1 74 (by decide +kernel) (by decide +kernel)
theorem k75 : (Jvm.Cond.fieldLink "KingsBalance$World" (37 : Nat) "KingsBalance$World" "sign" "[I") ∈ TT := TT_o1 75 (by decide +kernel) (by decide +kernel)
theorem k76 : (Jvm.Cond.fieldLink "KingsBalance$World" (40 : Nat) "KingsBalance$World" "number" "[I") ∈ TT := TT_o1 76 (by decide +kernel) (by decide +kernel)
theorem k77 : (Jvm.Cond.fieldLink "KingsBalance$World" (43 : Nat) "KingsBalance$World" "facts" "[I") ∈ TT := TT_o1 77 (by decide +kernel) (by decide +kernel)
theorem k407 : (Jvm.Cond.methodLink "KingsBalance$World" (46 : Nat) ({ cls := "java/lang/System", name := "arraycopy", desc := "(Ljava/lang/Object;ILjava/lang/Object;II)V" } : Jvm.MethodName)) ∈ TT := TT_o2 167 (by decide +kernel) (by decide +kernel)
theorem k128 : (Jvm.Cond.fieldLink "KingsBalance$World" (52 : Nat) "KingsBalance$Realm" "place" "[I") ∈ TT := TT_o1 128 (by decide +kernel) (by decide +kernel)
theorem k419 : (Jvm.Cond.methodLink "KingsBalance$World" (57 : Nat) ({ cls := "java/lang/Math", name := "abs", desc := "(I)I" } : Jvm.MethodName)) ∈ TT := TT_o2 179 (by decide +kernel) (by decide +kernel)
theorem k124 : (Jvm.Cond.fieldLink "KingsBalance$World" (63 : Nat) "KingsBalance$Realm" "strength" "[I") ∈ TT := TT_o1 124 (by decide +kernel) (by decide +kernel)
theorem k48 : (Jvm.Cond.fieldLink "KingsBalance$World" (66 : Nat) "KingsBalance$Tape" "at" "I") ∈ TT := TT_o1 48 (by decide +kernel) (by decide +kernel)
theorem k299 : (Jvm.Cond.code ({ cls := "KingsBalance$World", name := "clause", desc := "(LKingsBalance$Tape;)Z" } : Jvm.MethodName) prog_12_method_5_code (3 : Nat) (Option.some Jvm.ClassFile.FieldType.boolean)) ∈ TT := TT_o2 59 (by decide +kernel) (by decide +kernel)
theorem k296 : (Jvm.Cond.methodLink "KingsBalance$World" (71 : Nat) ({ cls := "KingsBalance$World", name := "clause", desc := "(LKingsBalance$Tape;)Z" } : Jvm.MethodName)) ∈ TT := TT_o2 56 (by decide +kernel) (by decide +kernel)
theorem k298 : (Jvm.Cond.instanceMethod ({ cls := "KingsBalance$World", name := "clause", desc := "(LKingsBalance$Tape;)Z" } : Jvm.MethodName)) ∈ TT := TT_o2 58 (by decide +kernel) (by decide +kernel)
theorem s0 : (Cond.selects "KingsBalance$World" ⟨"KingsBalance$World", "clause", "(LKingsBalance$Tape;)Z"⟩ ⟨"KingsBalance$World", "clause", "(LKingsBalance$Tape;)Z"⟩) ∈ TT := TT_sel 0 (by decide +kernel) (by decide +kernel)
theorem k45 : (Jvm.Cond.fieldLink "KingsBalance$World" (75 : Nat) "KingsBalance$Tape" "size" "I") ∈ TT := TT_o1 45 (by decide +kernel) (by decide +kernel)
theorem k301 : (Jvm.Cond.methodLink "KingsBalance$World" (80 : Nat) ({ cls := "KingsBalance$Tape", name := "pick", desc := "(Ljava/lang/String;)I" } : Jvm.MethodName)) ∈ TT := TT_o2 61 (by decide +kernel) (by decide +kernel)
theorem k356 : (Jvm.Cond.code ({ cls := "KingsBalance$World", name := "priced", desc := "(LKingsBalance$Tape;)Z" } : Jvm.MethodName) prog_12_method_7_code (3 : Nat) (Option.some Jvm.ClassFile.FieldType.boolean)) ∈ TT := TT_o2 116 (by decide +kernel) (by decide +kernel)
theorem k353 : (Jvm.Cond.methodLink "KingsBalance$World" (86 : Nat) ({ cls := "KingsBalance$World", name := "priced", desc := "(LKingsBalance$Tape;)Z" } : Jvm.MethodName)) ∈ TT := TT_o2 113 (by decide +kernel) (by decide +kernel)
theorem k355 : (Jvm.Cond.instanceMethod ({ cls := "KingsBalance$World", name := "priced", desc := "(LKingsBalance$Tape;)Z" } : Jvm.MethodName)) ∈ TT := TT_o2 115 (by decide +kernel) (by decide +kernel)
theorem s1 : (Cond.selects "KingsBalance$World" ⟨"KingsBalance$World", "priced", "(LKingsBalance$Tape;)Z"⟩ ⟨"KingsBalance$World", "priced", "(LKingsBalance$Tape;)Z"⟩) ∈ TT := TT_sel 1 (by decide +kernel) (by decide +kernel)
theorem k361 : (Jvm.Cond.code ({ cls := "KingsBalance$World", name := "amount", desc := "(LKingsBalance$Tape;Ljava/lang/String;)I" } : Jvm.MethodName) prog_12_method_6_code (3 : Nat) (Option.some Jvm.ClassFile.FieldType.int)) ∈ TT := TT_o2 121 (by decide +kernel) (by decide +kernel)
theorem k358 : (Jvm.Cond.methodLink "KingsBalance$World" (91 : Nat) ({ cls := "KingsBalance$World", name := "amount", desc := "(LKingsBalance$Tape;Ljava/lang/String;)I" } : Jvm.MethodName)) ∈ TT := TT_o2 118 (by decide +kernel) (by decide +kernel)
theorem k360 : (Jvm.Cond.instanceMethod ({ cls := "KingsBalance$World", name := "amount", desc := "(LKingsBalance$Tape;Ljava/lang/String;)I" } : Jvm.MethodName)) ∈ TT := TT_o2 120 (by decide +kernel) (by decide +kernel)
theorem s2 : (Cond.selects "KingsBalance$World" ⟨"KingsBalance$World", "amount", "(LKingsBalance$Tape;Ljava/lang/String;)I"⟩ ⟨"KingsBalance$World", "amount", "(LKingsBalance$Tape;Ljava/lang/String;)I"⟩) ∈ TT := TT_sel 2 (by decide +kernel) (by decide +kernel)
theorem k365 : (Jvm.Cond.code ({ cls := "KingsBalance$Tape", name := "goesOn", desc := "(Ljava/lang/String;)Z" } : Jvm.MethodName) prog_8_method_5_code (3 : Nat) (Option.some Jvm.ClassFile.FieldType.boolean)) ∈ TT := TT_o2 125 (by decide +kernel) (by decide +kernel)
theorem k362 : (Jvm.Cond.methodLink "KingsBalance$World" (99 : Nat) ({ cls := "KingsBalance$Tape", name := "goesOn", desc := "(Ljava/lang/String;)Z" } : Jvm.MethodName)) ∈ TT := TT_o2 122 (by decide +kernel) (by decide +kernel)
theorem k363 : (Jvm.Cond.instanceMethod ({ cls := "KingsBalance$Tape", name := "goesOn", desc := "(Ljava/lang/String;)Z" } : Jvm.MethodName)) ∈ TT := TT_o2 123 (by decide +kernel) (by decide +kernel)
theorem k364 : (Jvm.Cond.selects "KingsBalance$Tape" ({ cls := "KingsBalance$Tape", name := "goesOn", desc := "(Ljava/lang/String;)Z" } : Jvm.MethodName) ({ cls := "KingsBalance$Tape", name := "goesOn", desc := "(Ljava/lang/String;)Z" } : Jvm.MethodName)) ∈ TT := TT_o2 124 (by decide +kernel) (by decide +kernel)
theorem k369 : (Jvm.Cond.code ({ cls := "KingsBalance$Tape", name := "numeral", desc := "()I" } : Jvm.MethodName) prog_8_method_6_code (4 : Nat) (Option.some Jvm.ClassFile.FieldType.int)) ∈ TT := TT_o2 129 (by decide +kernel) (by decide +kernel)
theorem k366 : (Jvm.Cond.methodLink "KingsBalance$World" (103 : Nat) ({ cls := "KingsBalance$Tape", name := "numeral", desc := "()I" } : Jvm.MethodName)) ∈ TT := TT_o2 126 (by decide +kernel) (by decide +kernel)
theorem k367 : (Jvm.Cond.instanceMethod ({ cls := "KingsBalance$Tape", name := "numeral", desc := "()I" } : Jvm.MethodName)) ∈ TT := TT_o2 127 (by decide +kernel) (by decide +kernel)
theorem k368 : (Jvm.Cond.selects "KingsBalance$Tape" ({ cls := "KingsBalance$Tape", name := "numeral", desc := "()I" } : Jvm.MethodName) ({ cls := "KingsBalance$Tape", name := "numeral", desc := "()I" } : Jvm.MethodName)) ∈ TT := TT_o2 128 (by decide +kernel) (by decide +kernel)
theorem k376 : (Jvm.Cond.code ({ cls := "KingsBalance$World", name := "either", desc := "(LKingsBalance$Tape;I)Z" } : Jvm.MethodName) prog_12_method_8_code (4 : Nat) (Option.some Jvm.ClassFile.FieldType.boolean)) ∈ TT := TT_o2 136 (by decide +kernel) (by decide +kernel)
theorem k373 : (Jvm.Cond.methodLink "KingsBalance$World" (111 : Nat) ({ cls := "KingsBalance$World", name := "either", desc := "(LKingsBalance$Tape;I)Z" } : Jvm.MethodName)) ∈ TT := TT_o2 133 (by decide +kernel) (by decide +kernel)
theorem k375 : (Jvm.Cond.instanceMethod ({ cls := "KingsBalance$World", name := "either", desc := "(LKingsBalance$Tape;I)Z" } : Jvm.MethodName)) ∈ TT := TT_o2 135 (by decide +kernel) (by decide +kernel)
theorem s3 : (Cond.selects "KingsBalance$World" ⟨"KingsBalance$World", "either", "(LKingsBalance$Tape;I)Z"⟩ ⟨"KingsBalance$World", "either", "(LKingsBalance$Tape;I)Z"⟩) ∈ TT := TT_sel 3 (by decide +kernel) (by decide +kernel)
theorem k380 : (Jvm.Cond.code ({ cls := "KingsBalance$World", name := "both", desc := "(LKingsBalance$Tape;I)Z" } : Jvm.MethodName) prog_12_method_9_code (4 : Nat) (Option.some Jvm.ClassFile.FieldType.boolean)) ∈ TT := TT_o2 140 (by decide +kernel) (by decide +kernel)
theorem k377 : (Jvm.Cond.methodLink "KingsBalance$World" (115 : Nat) ({ cls := "KingsBalance$World", name := "both", desc := "(LKingsBalance$Tape;I)Z" } : Jvm.MethodName)) ∈ TT := TT_o2 137 (by decide +kernel) (by decide +kernel)
theorem k379 : (Jvm.Cond.instanceMethod ({ cls := "KingsBalance$World", name := "both", desc := "(LKingsBalance$Tape;I)Z" } : Jvm.MethodName)) ∈ TT := TT_o2 139 (by decide +kernel) (by decide +kernel)
theorem s4 : (Cond.selects "KingsBalance$World" ⟨"KingsBalance$World", "both", "(LKingsBalance$Tape;I)Z"⟩ ⟨"KingsBalance$World", "both", "(LKingsBalance$Tape;I)Z"⟩) ∈ TT := TT_sel 4 (by decide +kernel) (by decide +kernel)
theorem k395 : (Jvm.Cond.code ({ cls := "KingsBalance$World", name := "step", desc := "(III)V" } : Jvm.MethodName) prog_12_method_12_code (4 : Nat) (Option.none : Option Jvm.ClassFile.FieldType)) ∈ TT := TT_o2 155 (by decide +kernel) (by decide +kernel)
theorem k392 : (Jvm.Cond.methodLink "KingsBalance$World" (120 : Nat) ({ cls := "KingsBalance$World", name := "step", desc := "(III)V" } : Jvm.MethodName)) ∈ TT := TT_o2 152 (by decide +kernel) (by decide +kernel)
theorem k394 : (Jvm.Cond.instanceMethod ({ cls := "KingsBalance$World", name := "step", desc := "(III)V" } : Jvm.MethodName)) ∈ TT := TT_o2 154 (by decide +kernel) (by decide +kernel)
theorem s7 : (Cond.selects "KingsBalance$World" ⟨"KingsBalance$World", "step", "(III)V"⟩ ⟨"KingsBalance$World", "step", "(III)V"⟩) ∈ TT := TT_sel 7 (by decide +kernel) (by decide +kernel)
theorem k384 : (Jvm.Cond.code ({ cls := "KingsBalance$World", name := "single", desc := "(LKingsBalance$Tape;I)Z" } : Jvm.MethodName) prog_12_method_10_code (4 : Nat) (Option.some Jvm.ClassFile.FieldType.boolean)) ∈ TT := TT_o2 144 (by decide +kernel) (by decide +kernel)
theorem k381 : (Jvm.Cond.methodLink "KingsBalance$World" (124 : Nat) ({ cls := "KingsBalance$World", name := "single", desc := "(LKingsBalance$Tape;I)Z" } : Jvm.MethodName)) ∈ TT := TT_o2 141 (by decide +kernel) (by decide +kernel)
theorem k383 : (Jvm.Cond.instanceMethod ({ cls := "KingsBalance$World", name := "single", desc := "(LKingsBalance$Tape;I)Z" } : Jvm.MethodName)) ∈ TT := TT_o2 143 (by decide +kernel) (by decide +kernel)
theorem s5 : (Cond.selects "KingsBalance$World" ⟨"KingsBalance$World", "single", "(LKingsBalance$Tape;I)Z"⟩ ⟨"KingsBalance$World", "single", "(LKingsBalance$Tape;I)Z"⟩) ∈ TT := TT_sel 5 (by decide +kernel) (by decide +kernel)
theorem k389 : (Jvm.Cond.code ({ cls := "KingsBalance$World", name := "test", desc := "(LKingsBalance$Tape;)Z" } : Jvm.MethodName) prog_12_method_11_code (5 : Nat) (Option.some Jvm.ClassFile.FieldType.boolean)) ∈ TT := TT_o2 149 (by decide +kernel) (by decide +kernel)
theorem k386 : (Jvm.Cond.methodLink "KingsBalance$World" (131 : Nat) ({ cls := "KingsBalance$World", name := "test", desc := "(LKingsBalance$Tape;)Z" } : Jvm.MethodName)) ∈ TT := TT_o2 146 (by decide +kernel) (by decide +kernel)
theorem k388 : (Jvm.Cond.instanceMethod ({ cls := "KingsBalance$World", name := "test", desc := "(LKingsBalance$Tape;)Z" } : Jvm.MethodName)) ∈ TT := TT_o2 148 (by decide +kernel) (by decide +kernel)
theorem s6 : (Cond.selects "KingsBalance$World" ⟨"KingsBalance$World", "test", "(LKingsBalance$Tape;)Z"⟩ ⟨"KingsBalance$World", "test", "(LKingsBalance$Tape;)Z"⟩) ∈ TT := TT_sel 6 (by decide +kernel) (by decide +kernel)
theorem k21 : (Jvm.Cond.classLink "KingsBalanceLaw" (7 : Nat) "KingsBalance") ∈ TT := TT_o1 21 (by decide +kernel) (by decide +kernel)
theorem k25 : (Jvm.Cond.code ({ cls := "KingsBalance", name := "<init>", desc := "()V" } : Jvm.MethodName) prog_1_method_1_code (1 : Nat) (Option.none : Option Jvm.ClassFile.FieldType)) ∈ TT := TT_o1 25 (by decide +kernel) (by decide +kernel)
theorem k23 : (Jvm.Cond.methodLink "KingsBalanceLaw" (9 : Nat) ({ cls := "KingsBalance", name := "<init>", desc := "()V" } : Jvm.MethodName)) ∈ TT := TT_o1 23 (by decide +kernel) (by decide +kernel)
theorem k24 : (Jvm.Cond.instanceMethod ({ cls := "KingsBalance", name := "<init>", desc := "()V" } : Jvm.MethodName)) ∈ TT := TT_o1 24 (by decide +kernel) (by decide +kernel)
theorem k910 : (Jvm.Cond.classLink "KingsBalanceLaw" (10 : Nat) "KingsBalanceModel") ∈ TT := TT_o4 190 (by decide +kernel) (by decide +kernel)
theorem k8 : (Jvm.Cond.initialized "KingsBalanceModel") ∈ TT := TT_o1 8 (by decide +kernel) (by decide +kernel)
theorem k914 : (Jvm.Cond.code ({ cls := "KingsBalanceModel", name := "<init>", desc := "()V" } : Jvm.MethodName) prog_14_method_1_code (1 : Nat) (Option.none : Option Jvm.ClassFile.FieldType)) ∈ TT := TT_o4 194 (by decide +kernel) (by decide +kernel)
theorem k912 : (Jvm.Cond.methodLink "KingsBalanceLaw" (12 : Nat) ({ cls := "KingsBalanceModel", name := "<init>", desc := "()V" } : Jvm.MethodName)) ∈ TT := TT_o4 192 (by decide +kernel) (by decide +kernel)
theorem k913 : (Jvm.Cond.instanceMethod ({ cls := "KingsBalanceModel", name := "<init>", desc := "()V" } : Jvm.MethodName)) ∈ TT := TT_o4 193 (by decide +kernel) (by decide +kernel)
theorem k248 : (Jvm.Cond.code ({ cls := "KingsBalance", name := "king", desc := "(II)I" } : Jvm.MethodName) prog_1_method_2_code (3 : Nat) (Option.some Jvm.ClassFile.FieldType.int)) ∈ TT := TT_o2 8 (by decide +kernel) (by decide +kernel)
theorem k245 : (Jvm.Cond.methodLink "KingsBalanceLaw" (13 : Nat) ({ cls := "KingsBalance", name := "king", desc := "(II)I" } : Jvm.MethodName)) ∈ TT := TT_o2 5 (by decide +kernel) (by decide +kernel)
theorem k246 : (Jvm.Cond.instanceMethod ({ cls := "KingsBalance", name := "king", desc := "(II)I" } : Jvm.MethodName)) ∈ TT := TT_o2 6 (by decide +kernel) (by decide +kernel)
theorem k247 : (Jvm.Cond.selects "KingsBalance" ({ cls := "KingsBalance", name := "king", desc := "(II)I" } : Jvm.MethodName) ({ cls := "KingsBalance", name := "king", desc := "(II)I" } : Jvm.MethodName)) ∈ TT := TT_o2 7 (by decide +kernel) (by decide +kernel)
theorem k1016 : (Jvm.Cond.code ({ cls := "KingsBalanceModel", name := "king", desc := "(II)I" } : Jvm.MethodName) prog_14_method_9_code (5 : Nat) (Option.some Jvm.ClassFile.FieldType.int)) ∈ TT := TT_o5 56 (by decide +kernel) (by decide +kernel)
theorem k1013 : (Jvm.Cond.methodLink "KingsBalanceLaw" (17 : Nat) ({ cls := "KingsBalanceModel", name := "king", desc := "(II)I" } : Jvm.MethodName)) ∈ TT := TT_o5 53 (by decide +kernel) (by decide +kernel)
theorem k1014 : (Jvm.Cond.instanceMethod ({ cls := "KingsBalanceModel", name := "king", desc := "(II)I" } : Jvm.MethodName)) ∈ TT := TT_o5 54 (by decide +kernel) (by decide +kernel)
theorem k1015 : (Jvm.Cond.selects "KingsBalanceModel" ({ cls := "KingsBalanceModel", name := "king", desc := "(II)I" } : Jvm.MethodName) ({ cls := "KingsBalanceModel", name := "king", desc := "(II)I" } : Jvm.MethodName)) ∈ TT := TT_o5 55 (by decide +kernel) (by decide +kernel)
theorem k259 : (Jvm.Cond.code ({ cls := "KingsBalance", name := "of", desc := "(II)I" } : Jvm.MethodName) prog_1_method_3_code (3 : Nat) (Option.some Jvm.ClassFile.FieldType.int)) ∈ TT := TT_o2 19 (by decide +kernel) (by decide +kernel)
theorem k256 : (Jvm.Cond.methodLink "KingsBalanceLaw" (18 : Nat) ({ cls := "KingsBalance", name := "of", desc := "(II)I" } : Jvm.MethodName)) ∈ TT := TT_o2 16 (by decide +kernel) (by decide +kernel)
theorem k257 : (Jvm.Cond.instanceMethod ({ cls := "KingsBalance", name := "of", desc := "(II)I" } : Jvm.MethodName)) ∈ TT := TT_o2 17 (by decide +kernel) (by decide +kernel)
theorem k258 : (Jvm.Cond.selects "KingsBalance" ({ cls := "KingsBalance", name := "of", desc := "(II)I" } : Jvm.MethodName) ({ cls := "KingsBalance", name := "of", desc := "(II)I" } : Jvm.MethodName)) ∈ TT := TT_o2 18 (by decide +kernel) (by decide +kernel)
theorem k1023 : (Jvm.Cond.code ({ cls := "KingsBalanceModel", name := "of", desc := "(II)I" } : Jvm.MethodName) prog_14_method_10_code (3 : Nat) (Option.some Jvm.ClassFile.FieldType.int)) ∈ TT := TT_o5 63 (by decide +kernel) (by decide +kernel)
theorem k1020 : (Jvm.Cond.methodLink "KingsBalanceLaw" (21 : Nat) ({ cls := "KingsBalanceModel", name := "of", desc := "(II)I" } : Jvm.MethodName)) ∈ TT := TT_o5 60 (by decide +kernel) (by decide +kernel)
theorem k1021 : (Jvm.Cond.instanceMethod ({ cls := "KingsBalanceModel", name := "of", desc := "(II)I" } : Jvm.MethodName)) ∈ TT := TT_o5 61 (by decide +kernel) (by decide +kernel)
theorem k1022 : (Jvm.Cond.selects "KingsBalanceModel" ({ cls := "KingsBalanceModel", name := "of", desc := "(II)I" } : Jvm.MethodName) ({ cls := "KingsBalanceModel", name := "of", desc := "(II)I" } : Jvm.MethodName)) ∈ TT := TT_o5 62 (by decide +kernel) (by decide +kernel)
theorem k271 : (Jvm.Cond.code ({ cls := "KingsBalance", name := "arm", desc := "(II)I" } : Jvm.MethodName) prog_1_method_4_code (4 : Nat) (Option.some Jvm.ClassFile.FieldType.int)) ∈ TT := TT_o2 31 (by decide +kernel) (by decide +kernel)
theorem k268 : (Jvm.Cond.methodLink "KingsBalanceLaw" (22 : Nat) ({ cls := "KingsBalance", name := "arm", desc := "(II)I" } : Jvm.MethodName)) ∈ TT := TT_o2 28 (by decide +kernel) (by decide +kernel)
theorem k269 : (Jvm.Cond.instanceMethod ({ cls := "KingsBalance", name := "arm", desc := "(II)I" } : Jvm.MethodName)) ∈ TT := TT_o2 29 (by decide +kernel) (by decide +kernel)
theorem k270 : (Jvm.Cond.selects "KingsBalance" ({ cls := "KingsBalance", name := "arm", desc := "(II)I" } : Jvm.MethodName) ({ cls := "KingsBalance", name := "arm", desc := "(II)I" } : Jvm.MethodName)) ∈ TT := TT_o2 30 (by decide +kernel) (by decide +kernel)
theorem k1031 : (Jvm.Cond.code ({ cls := "KingsBalanceModel", name := "arm", desc := "(II)I" } : Jvm.MethodName) prog_14_method_11_code (4 : Nat) (Option.some Jvm.ClassFile.FieldType.int)) ∈ TT := TT_o5 71 (by decide +kernel) (by decide +kernel)
theorem k1028 : (Jvm.Cond.methodLink "KingsBalanceLaw" (25 : Nat) ({ cls := "KingsBalanceModel", name := "arm", desc := "(II)I" } : Jvm.MethodName)) ∈ TT := TT_o5 68 (by decide +kernel) (by decide +kernel)
theorem k1029 : (Jvm.Cond.instanceMethod ({ cls := "KingsBalanceModel", name := "arm", desc := "(II)I" } : Jvm.MethodName)) ∈ TT := TT_o5 69 (by decide +kernel) (by decide +kernel)
theorem k1030 : (Jvm.Cond.selects "KingsBalanceModel" ({ cls := "KingsBalanceModel", name := "arm", desc := "(II)I" } : Jvm.MethodName) ({ cls := "KingsBalanceModel", name := "arm", desc := "(II)I" } : Jvm.MethodName)) ∈ TT := TT_o5 70 (by decide +kernel) (by decide +kernel)
theorem k275 : (Jvm.Cond.code ({ cls := "KingsBalance", name := "worth", desc := "(III)I" } : Jvm.MethodName) prog_1_method_5_code (5 : Nat) (Option.some Jvm.ClassFile.FieldType.int)) ∈ TT := TT_o2 35 (by decide +kernel) (by decide +kernel)
theorem k272 : (Jvm.Cond.methodLink "KingsBalanceLaw" (26 : Nat) ({ cls := "KingsBalance", name := "worth", desc := "(III)I" } : Jvm.MethodName)) ∈ TT := TT_o2 32 (by decide +kernel) (by decide +kernel)
theorem k273 : (Jvm.Cond.instanceMethod ({ cls := "KingsBalance", name := "worth", desc := "(III)I" } : Jvm.MethodName)) ∈ TT := TT_o2 33 (by decide +kernel) (by decide +kernel)
theorem k274 : (Jvm.Cond.selects "KingsBalance" ({ cls := "KingsBalance", name := "worth", desc := "(III)I" } : Jvm.MethodName) ({ cls := "KingsBalance", name := "worth", desc := "(III)I" } : Jvm.MethodName)) ∈ TT := TT_o2 34 (by decide +kernel) (by decide +kernel)
theorem k1039 : (Jvm.Cond.code ({ cls := "KingsBalanceModel", name := "worth", desc := "(III)I" } : Jvm.MethodName) prog_14_method_12_code (5 : Nat) (Option.some Jvm.ClassFile.FieldType.int)) ∈ TT := TT_o5 79 (by decide +kernel) (by decide +kernel)
theorem k1036 : (Jvm.Cond.methodLink "KingsBalanceLaw" (30 : Nat) ({ cls := "KingsBalanceModel", name := "worth", desc := "(III)I" } : Jvm.MethodName)) ∈ TT := TT_o5 76 (by decide +kernel) (by decide +kernel)
theorem k1037 : (Jvm.Cond.instanceMethod ({ cls := "KingsBalanceModel", name := "worth", desc := "(III)I" } : Jvm.MethodName)) ∈ TT := TT_o5 77 (by decide +kernel) (by decide +kernel)
theorem k1038 : (Jvm.Cond.selects "KingsBalanceModel" ({ cls := "KingsBalanceModel", name := "worth", desc := "(III)I" } : Jvm.MethodName) ({ cls := "KingsBalanceModel", name := "worth", desc := "(III)I" } : Jvm.MethodName)) ∈ TT := TT_o5 78 (by decide +kernel) (by decide +kernel)
theorem k279 : (Jvm.Cond.code ({ cls := "KingsBalance", name := "pact", desc := "(III)I" } : Jvm.MethodName) prog_1_method_6_code (5 : Nat) (Option.some Jvm.ClassFile.FieldType.int)) ∈ TT := TT_o2 39 (by decide +kernel) (by decide +kernel)
theorem k276 : (Jvm.Cond.methodLink "KingsBalanceLaw" (31 : Nat) ({ cls := "KingsBalance", name := "pact", desc := "(III)I" } : Jvm.MethodName)) ∈ TT := TT_o2 36 (by decide +kernel) (by decide +kernel)
theorem k277 : (Jvm.Cond.instanceMethod ({ cls := "KingsBalance", name := "pact", desc := "(III)I" } : Jvm.MethodName)) ∈ TT := TT_o2 37 (by decide +kernel) (by decide +kernel)
theorem k278 : (Jvm.Cond.selects "KingsBalance" ({ cls := "KingsBalance", name := "pact", desc := "(III)I" } : Jvm.MethodName) ({ cls := "KingsBalance", name := "pact", desc := "(III)I" } : Jvm.MethodName)) ∈ TT := TT_o2 38 (by decide +kernel) (by decide +kernel)
theorem k1043 : (Jvm.Cond.code ({ cls := "KingsBalanceModel", name := "pact", desc := "(III)I" } : Jvm.MethodName) prog_14_method_13_code (5 : Nat) (Option.some Jvm.ClassFile.FieldType.int)) ∈ TT := TT_o5 83 (by decide +kernel) (by decide +kernel)
theorem k1040 : (Jvm.Cond.methodLink "KingsBalanceLaw" (34 : Nat) ({ cls := "KingsBalanceModel", name := "pact", desc := "(III)I" } : Jvm.MethodName)) ∈ TT := TT_o5 80 (by decide +kernel) (by decide +kernel)
theorem k1041 : (Jvm.Cond.instanceMethod ({ cls := "KingsBalanceModel", name := "pact", desc := "(III)I" } : Jvm.MethodName)) ∈ TT := TT_o5 81 (by decide +kernel) (by decide +kernel)
theorem k1042 : (Jvm.Cond.selects "KingsBalanceModel" ({ cls := "KingsBalanceModel", name := "pact", desc := "(III)I" } : Jvm.MethodName) ({ cls := "KingsBalanceModel", name := "pact", desc := "(III)I" } : Jvm.MethodName)) ∈ TT := TT_o5 82 (by decide +kernel) (by decide +kernel)
theorem k283 : (Jvm.Cond.code ({ cls := "KingsBalance", name := "feed", desc := "(JI)I" } : Jvm.MethodName) prog_1_method_7_code (5 : Nat) (Option.some Jvm.ClassFile.FieldType.int)) ∈ TT := TT_o2 43 (by decide +kernel) (by decide +kernel)
theorem k280 : (Jvm.Cond.methodLink "KingsBalanceLaw" (37 : Nat) ({ cls := "KingsBalance", name := "feed", desc := "(JI)I" } : Jvm.MethodName)) ∈ TT := TT_o2 40 (by decide +kernel) (by decide +kernel)
theorem k281 : (Jvm.Cond.instanceMethod ({ cls := "KingsBalance", name := "feed", desc := "(JI)I" } : Jvm.MethodName)) ∈ TT := TT_o2 41 (by decide +kernel) (by decide +kernel)
theorem k282 : (Jvm.Cond.selects "KingsBalance" ({ cls := "KingsBalance", name := "feed", desc := "(JI)I" } : Jvm.MethodName) ({ cls := "KingsBalance", name := "feed", desc := "(JI)I" } : Jvm.MethodName)) ∈ TT := TT_o2 42 (by decide +kernel) (by decide +kernel)
theorem k1047 : (Jvm.Cond.code ({ cls := "KingsBalanceModel", name := "feed", desc := "(JI)I" } : Jvm.MethodName) prog_14_method_14_code (5 : Nat) (Option.some Jvm.ClassFile.FieldType.int)) ∈ TT := TT_o5 87 (by decide +kernel) (by decide +kernel)
theorem k1044 : (Jvm.Cond.methodLink "KingsBalanceLaw" (41 : Nat) ({ cls := "KingsBalanceModel", name := "feed", desc := "(JI)I" } : Jvm.MethodName)) ∈ TT := TT_o5 84 (by decide +kernel) (by decide +kernel)
theorem k1045 : (Jvm.Cond.instanceMethod ({ cls := "KingsBalanceModel", name := "feed", desc := "(JI)I" } : Jvm.MethodName)) ∈ TT := TT_o5 85 (by decide +kernel) (by decide +kernel)
theorem k1046 : (Jvm.Cond.selects "KingsBalanceModel" ({ cls := "KingsBalanceModel", name := "feed", desc := "(JI)I" } : Jvm.MethodName) ({ cls := "KingsBalanceModel", name := "feed", desc := "(JI)I" } : Jvm.MethodName)) ∈ TT := TT_o5 86 (by decide +kernel) (by decide +kernel)
theorem k291 : (Jvm.Cond.code ({ cls := "KingsBalance", name := "world", desc := "()I" } : Jvm.MethodName) prog_1_method_8_code (2 : Nat) (Option.some Jvm.ClassFile.FieldType.int)) ∈ TT := TT_o2 51 (by decide +kernel) (by decide +kernel)
theorem k288 : (Jvm.Cond.methodLink "KingsBalanceLaw" (42 : Nat) ({ cls := "KingsBalance", name := "world", desc := "()I" } : Jvm.MethodName)) ∈ TT := TT_o2 48 (by decide +kernel) (by decide +kernel)
theorem k289 : (Jvm.Cond.instanceMethod ({ cls := "KingsBalance", name := "world", desc := "()I" } : Jvm.MethodName)) ∈ TT := TT_o2 49 (by decide +kernel) (by decide +kernel)
theorem k290 : (Jvm.Cond.selects "KingsBalance" ({ cls := "KingsBalance", name := "world", desc := "()I" } : Jvm.MethodName) ({ cls := "KingsBalance", name := "world", desc := "()I" } : Jvm.MethodName)) ∈ TT := TT_o2 50 (by decide +kernel) (by decide +kernel)
theorem k1052 : (Jvm.Cond.code ({ cls := "KingsBalanceModel", name := "world", desc := "()I" } : Jvm.MethodName) prog_14_method_25_code (3 : Nat) (Option.some Jvm.ClassFile.FieldType.int)) ∈ TT := TT_o5 92 (by decide +kernel) (by decide +kernel)
theorem k1049 : (Jvm.Cond.methodLink "KingsBalanceLaw" (46 : Nat) ({ cls := "KingsBalanceModel", name := "world", desc := "()I" } : Jvm.MethodName)) ∈ TT := TT_o5 89 (by decide +kernel) (by decide +kernel)
theorem k1050 : (Jvm.Cond.instanceMethod ({ cls := "KingsBalanceModel", name := "world", desc := "()I" } : Jvm.MethodName)) ∈ TT := TT_o5 90 (by decide +kernel) (by decide +kernel)
theorem k1051 : (Jvm.Cond.selects "KingsBalanceModel" ({ cls := "KingsBalanceModel", name := "world", desc := "()I" } : Jvm.MethodName) ({ cls := "KingsBalanceModel", name := "world", desc := "()I" } : Jvm.MethodName)) ∈ TT := TT_o5 91 (by decide +kernel) (by decide +kernel)
theorem k414 : (Jvm.Cond.code ({ cls := "KingsBalance", name := "cost", desc := "(II)I" } : Jvm.MethodName) prog_1_method_9_code (3 : Nat) (Option.some Jvm.ClassFile.FieldType.int)) ∈ TT := TT_o2 174 (by decide +kernel) (by decide +kernel)
theorem k411 : (Jvm.Cond.methodLink "KingsBalanceLaw" (47 : Nat) ({ cls := "KingsBalance", name := "cost", desc := "(II)I" } : Jvm.MethodName)) ∈ TT := TT_o2 171 (by decide +kernel) (by decide +kernel)
theorem k412 : (Jvm.Cond.instanceMethod ({ cls := "KingsBalance", name := "cost", desc := "(II)I" } : Jvm.MethodName)) ∈ TT := TT_o2 172 (by decide +kernel) (by decide +kernel)
theorem k413 : (Jvm.Cond.selects "KingsBalance" ({ cls := "KingsBalance", name := "cost", desc := "(II)I" } : Jvm.MethodName) ({ cls := "KingsBalance", name := "cost", desc := "(II)I" } : Jvm.MethodName)) ∈ TT := TT_o2 173 (by decide +kernel) (by decide +kernel)
theorem k1102 : (Jvm.Cond.code ({ cls := "KingsBalanceModel", name := "cost", desc := "(II)I" } : Jvm.MethodName) prog_14_method_27_code (3 : Nat) (Option.some Jvm.ClassFile.FieldType.int)) ∈ TT := TT_o5 142 (by decide +kernel) (by decide +kernel)
theorem k1099 : (Jvm.Cond.methodLink "KingsBalanceLaw" (50 : Nat) ({ cls := "KingsBalanceModel", name := "cost", desc := "(II)I" } : Jvm.MethodName)) ∈ TT := TT_o5 139 (by decide +kernel) (by decide +kernel)
theorem k1100 : (Jvm.Cond.instanceMethod ({ cls := "KingsBalanceModel", name := "cost", desc := "(II)I" } : Jvm.MethodName)) ∈ TT := TT_o5 140 (by decide +kernel) (by decide +kernel)
theorem k1101 : (Jvm.Cond.selects "KingsBalanceModel" ({ cls := "KingsBalanceModel", name := "cost", desc := "(II)I" } : Jvm.MethodName) ({ cls := "KingsBalanceModel", name := "cost", desc := "(II)I" } : Jvm.MethodName)) ∈ TT := TT_o5 141 (by decide +kernel) (by decide +kernel)
theorem k425 : (Jvm.Cond.code ({ cls := "KingsBalance", name := "force", desc := "(II)I" } : Jvm.MethodName) prog_1_method_10_code (3 : Nat) (Option.some Jvm.ClassFile.FieldType.int)) ∈ TT := TT_o2 185 (by decide +kernel) (by decide +kernel)
theorem k422 : (Jvm.Cond.methodLink "KingsBalanceLaw" (51 : Nat) ({ cls := "KingsBalance", name := "force", desc := "(II)I" } : Jvm.MethodName)) ∈ TT := TT_o2 182 (by decide +kernel) (by decide +kernel)
theorem k423 : (Jvm.Cond.instanceMethod ({ cls := "KingsBalance", name := "force", desc := "(II)I" } : Jvm.MethodName)) ∈ TT := TT_o2 183 (by decide +kernel) (by decide +kernel)
theorem k424 : (Jvm.Cond.selects "KingsBalance" ({ cls := "KingsBalance", name := "force", desc := "(II)I" } : Jvm.MethodName) ({ cls := "KingsBalance", name := "force", desc := "(II)I" } : Jvm.MethodName)) ∈ TT := TT_o2 184 (by decide +kernel) (by decide +kernel)
theorem k1113 : (Jvm.Cond.code ({ cls := "KingsBalanceModel", name := "force", desc := "(II)I" } : Jvm.MethodName) prog_14_method_29_code (3 : Nat) (Option.some Jvm.ClassFile.FieldType.int)) ∈ TT := TT_o5 153 (by decide +kernel) (by decide +kernel)
theorem k1110 : (Jvm.Cond.methodLink "KingsBalanceLaw" (54 : Nat) ({ cls := "KingsBalanceModel", name := "force", desc := "(II)I" } : Jvm.MethodName)) ∈ TT := TT_o5 150 (by decide +kernel) (by decide +kernel)
theorem k1111 : (Jvm.Cond.instanceMethod ({ cls := "KingsBalanceModel", name := "force", desc := "(II)I" } : Jvm.MethodName)) ∈ TT := TT_o5 151 (by decide +kernel) (by decide +kernel)
theorem k1112 : (Jvm.Cond.selects "KingsBalanceModel" ({ cls := "KingsBalanceModel", name := "force", desc := "(II)I" } : Jvm.MethodName) ({ cls := "KingsBalanceModel", name := "force", desc := "(II)I" } : Jvm.MethodName)) ∈ TT := TT_o5 152 (by decide +kernel) (by decide +kernel)
theorem k437 : (Jvm.Cond.code ({ cls := "KingsBalance", name := "standing", desc := "(II)I" } : Jvm.MethodName) prog_1_method_11_code (4 : Nat) (Option.some Jvm.ClassFile.FieldType.int)) ∈ TT := TT_o2 197 (by decide +kernel) (by decide +kernel)
theorem k434 : (Jvm.Cond.methodLink "KingsBalanceLaw" (55 : Nat) ({ cls := "KingsBalance", name := "standing", desc := "(II)I" } : Jvm.MethodName)) ∈ TT := TT_o2 194 (by decide +kernel) (by decide +kernel)
theorem k435 : (Jvm.Cond.instanceMethod ({ cls := "KingsBalance", name := "standing", desc := "(II)I" } : Jvm.MethodName)) ∈ TT := TT_o2 195 (by decide +kernel) (by decide +kernel)
theorem k436 : (Jvm.Cond.selects "KingsBalance" ({ cls := "KingsBalance", name := "standing", desc := "(II)I" } : Jvm.MethodName) ({ cls := "KingsBalance", name := "standing", desc := "(II)I" } : Jvm.MethodName)) ∈ TT := TT_o2 196 (by decide +kernel) (by decide +kernel)
theorem k1121 : (Jvm.Cond.code ({ cls := "KingsBalanceModel", name := "standing", desc := "(II)I" } : Jvm.MethodName) prog_14_method_30_code (5 : Nat) (Option.some Jvm.ClassFile.FieldType.int)) ∈ TT := TT_o5 161 (by decide +kernel) (by decide +kernel)
theorem k1118 : (Jvm.Cond.methodLink "KingsBalanceLaw" (58 : Nat) ({ cls := "KingsBalanceModel", name := "standing", desc := "(II)I" } : Jvm.MethodName)) ∈ TT := TT_o5 158 (by decide +kernel) (by decide +kernel)
theorem k1119 : (Jvm.Cond.instanceMethod ({ cls := "KingsBalanceModel", name := "standing", desc := "(II)I" } : Jvm.MethodName)) ∈ TT := TT_o5 159 (by decide +kernel) (by decide +kernel)
theorem k1120 : (Jvm.Cond.selects "KingsBalanceModel" ({ cls := "KingsBalanceModel", name := "standing", desc := "(II)I" } : Jvm.MethodName) ({ cls := "KingsBalanceModel", name := "standing", desc := "(II)I" } : Jvm.MethodName)) ∈ TT := TT_o5 160 (by decide +kernel) (by decide +kernel)
theorem k497 : (Jvm.Cond.code ({ cls := "KingsBalance", name := "block", desc := "(III)I" } : Jvm.MethodName) prog_1_method_12_code (5 : Nat) (Option.some Jvm.ClassFile.FieldType.int)) ∈ TT := TT_o3 17 (by decide +kernel) (by decide +kernel)
theorem k494 : (Jvm.Cond.methodLink "KingsBalanceLaw" (59 : Nat) ({ cls := "KingsBalance", name := "block", desc := "(III)I" } : Jvm.MethodName)) ∈ TT := TT_o3 14 (by decide +kernel) (by decide +kernel)
theorem k495 : (Jvm.Cond.instanceMethod ({ cls := "KingsBalance", name := "block", desc := "(III)I" } : Jvm.MethodName)) ∈ TT := TT_o3 15 (by decide +kernel) (by decide +kernel)
theorem k496 : (Jvm.Cond.selects "KingsBalance" ({ cls := "KingsBalance", name := "block", desc := "(III)I" } : Jvm.MethodName) ({ cls := "KingsBalance", name := "block", desc := "(III)I" } : Jvm.MethodName)) ∈ TT := TT_o3 16 (by decide +kernel) (by decide +kernel)
theorem k1125 : (Jvm.Cond.code ({ cls := "KingsBalanceModel", name := "block", desc := "(III)I" } : Jvm.MethodName) prog_14_method_31_code (5 : Nat) (Option.some Jvm.ClassFile.FieldType.int)) ∈ TT := TT_o5 165 (by decide +kernel) (by decide +kernel)
theorem k1122 : (Jvm.Cond.methodLink "KingsBalanceLaw" (62 : Nat) ({ cls := "KingsBalanceModel", name := "block", desc := "(III)I" } : Jvm.MethodName)) ∈ TT := TT_o5 162 (by decide +kernel) (by decide +kernel)
theorem k1123 : (Jvm.Cond.instanceMethod ({ cls := "KingsBalanceModel", name := "block", desc := "(III)I" } : Jvm.MethodName)) ∈ TT := TT_o5 163 (by decide +kernel) (by decide +kernel)
theorem k1124 : (Jvm.Cond.selects "KingsBalanceModel" ({ cls := "KingsBalanceModel", name := "block", desc := "(III)I" } : Jvm.MethodName) ({ cls := "KingsBalanceModel", name := "block", desc := "(III)I" } : Jvm.MethodName)) ∈ TT := TT_o5 164 (by decide +kernel) (by decide +kernel)
theorem k505 : (Jvm.Cond.code ({ cls := "KingsBalance", name := "comes", desc := "(IIII)I" } : Jvm.MethodName) prog_1_method_13_code (8 : Nat) (Option.some Jvm.ClassFile.FieldType.int)) ∈ TT := TT_o3 25 (by decide +kernel) (by decide +kernel)
theorem k502 : (Jvm.Cond.methodLink "KingsBalanceLaw" (63 : Nat) ({ cls := "KingsBalance", name := "comes", desc := "(IIII)I" } : Jvm.MethodName)) ∈ TT := TT_o3 22 (by decide +kernel) (by decide +kernel)
theorem k503 : (Jvm.Cond.instanceMethod ({ cls := "KingsBalance", name := "comes", desc := "(IIII)I" } : Jvm.MethodName)) ∈ TT := TT_o3 23 (by decide +kernel) (by decide +kernel)
theorem k504 : (Jvm.Cond.selects "KingsBalance" ({ cls := "KingsBalance", name := "comes", desc := "(IIII)I" } : Jvm.MethodName) ({ cls := "KingsBalance", name := "comes", desc := "(IIII)I" } : Jvm.MethodName)) ∈ TT := TT_o3 24 (by decide +kernel) (by decide +kernel)
theorem k1133 : (Jvm.Cond.code ({ cls := "KingsBalanceModel", name := "comes", desc := "(IIII)I" } : Jvm.MethodName) prog_14_method_41_code (5 : Nat) (Option.some Jvm.ClassFile.FieldType.int)) ∈ TT := TT_o5 173 (by decide +kernel) (by decide +kernel)
theorem k1130 : (Jvm.Cond.methodLink "KingsBalanceLaw" (67 : Nat) ({ cls := "KingsBalanceModel", name := "comes", desc := "(IIII)I" } : Jvm.MethodName)) ∈ TT := TT_o5 170 (by decide +kernel) (by decide +kernel)
theorem k1131 : (Jvm.Cond.instanceMethod ({ cls := "KingsBalanceModel", name := "comes", desc := "(IIII)I" } : Jvm.MethodName)) ∈ TT := TT_o5 171 (by decide +kernel) (by decide +kernel)
theorem k1132 : (Jvm.Cond.selects "KingsBalanceModel" ({ cls := "KingsBalanceModel", name := "comes", desc := "(IIII)I" } : Jvm.MethodName) ({ cls := "KingsBalanceModel", name := "comes", desc := "(IIII)I" } : Jvm.MethodName)) ∈ TT := TT_o5 172 (by decide +kernel) (by decide +kernel)
theorem k579 : (Jvm.Cond.code ({ cls := "KingsBalance", name := "war", desc := "(IIII)J" } : Jvm.MethodName) prog_1_method_14_code (9 : Nat) (Option.some Jvm.ClassFile.FieldType.long)) ∈ TT := TT_o3 99 (by decide +kernel) (by decide +kernel)
theorem k576 : (Jvm.Cond.methodLink "KingsBalanceLaw" (68 : Nat) ({ cls := "KingsBalance", name := "war", desc := "(IIII)J" } : Jvm.MethodName)) ∈ TT := TT_o3 96 (by decide +kernel) (by decide +kernel)
theorem k577 : (Jvm.Cond.instanceMethod ({ cls := "KingsBalance", name := "war", desc := "(IIII)J" } : Jvm.MethodName)) ∈ TT := TT_o3 97 (by decide +kernel) (by decide +kernel)
theorem k578 : (Jvm.Cond.selects "KingsBalance" ({ cls := "KingsBalance", name := "war", desc := "(IIII)J" } : Jvm.MethodName) ({ cls := "KingsBalance", name := "war", desc := "(IIII)J" } : Jvm.MethodName)) ∈ TT := TT_o3 98 (by decide +kernel) (by decide +kernel)
theorem k1173 : (Jvm.Cond.code ({ cls := "KingsBalanceModel", name := "war", desc := "(IIII)J" } : Jvm.MethodName) prog_14_method_44_code (6 : Nat) (Option.some Jvm.ClassFile.FieldType.long)) ∈ TT := TT_o5 213 (by decide +kernel) (by decide +kernel)
theorem k1170 : (Jvm.Cond.methodLink "KingsBalanceLaw" (72 : Nat) ({ cls := "KingsBalanceModel", name := "war", desc := "(IIII)J" } : Jvm.MethodName)) ∈ TT := TT_o5 210 (by decide +kernel) (by decide +kernel)
theorem k1171 : (Jvm.Cond.instanceMethod ({ cls := "KingsBalanceModel", name := "war", desc := "(IIII)J" } : Jvm.MethodName)) ∈ TT := TT_o5 211 (by decide +kernel) (by decide +kernel)
theorem k1172 : (Jvm.Cond.selects "KingsBalanceModel" ({ cls := "KingsBalanceModel", name := "war", desc := "(IIII)J" } : Jvm.MethodName) ({ cls := "KingsBalanceModel", name := "war", desc := "(IIII)J" } : Jvm.MethodName)) ∈ TT := TT_o5 212 (by decide +kernel) (by decide +kernel)
theorem k589 : (Jvm.Cond.code ({ cls := "KingsBalance", name := "dares", desc := "(III)I" } : Jvm.MethodName) prog_1_method_15_code (5 : Nat) (Option.some Jvm.ClassFile.FieldType.int)) ∈ TT := TT_o3 109 (by decide +kernel) (by decide +kernel)
theorem k586 : (Jvm.Cond.methodLink "KingsBalanceLaw" (73 : Nat) ({ cls := "KingsBalance", name := "dares", desc := "(III)I" } : Jvm.MethodName)) ∈ TT := TT_o3 106 (by decide +kernel) (by decide +kernel)
theorem k587 : (Jvm.Cond.instanceMethod ({ cls := "KingsBalance", name := "dares", desc := "(III)I" } : Jvm.MethodName)) ∈ TT := TT_o3 107 (by decide +kernel) (by decide +kernel)
theorem k588 : (Jvm.Cond.selects "KingsBalance" ({ cls := "KingsBalance", name := "dares", desc := "(III)I" } : Jvm.MethodName) ({ cls := "KingsBalance", name := "dares", desc := "(III)I" } : Jvm.MethodName)) ∈ TT := TT_o3 108 (by decide +kernel) (by decide +kernel)
theorem k1186 : (Jvm.Cond.code ({ cls := "KingsBalanceModel", name := "dares", desc := "(III)I" } : Jvm.MethodName) prog_14_method_47_code (6 : Nat) (Option.some Jvm.ClassFile.FieldType.int)) ∈ TT := TT_o5 226 (by decide +kernel) (by decide +kernel)
theorem k1183 : (Jvm.Cond.methodLink "KingsBalanceLaw" (76 : Nat) ({ cls := "KingsBalanceModel", name := "dares", desc := "(III)I" } : Jvm.MethodName)) ∈ TT := TT_o5 223 (by decide +kernel) (by decide +kernel)
theorem k1184 : (Jvm.Cond.instanceMethod ({ cls := "KingsBalanceModel", name := "dares", desc := "(III)I" } : Jvm.MethodName)) ∈ TT := TT_o5 224 (by decide +kernel) (by decide +kernel)
theorem k1185 : (Jvm.Cond.selects "KingsBalanceModel" ({ cls := "KingsBalanceModel", name := "dares", desc := "(III)I" } : Jvm.MethodName) ({ cls := "KingsBalanceModel", name := "dares", desc := "(III)I" } : Jvm.MethodName)) ∈ TT := TT_o5 225 (by decide +kernel) (by decide +kernel)
theorem k625 : (Jvm.Cond.code ({ cls := "KingsBalance", name := "first", desc := "(I)I" } : Jvm.MethodName) prog_1_method_16_code (3 : Nat) (Option.some Jvm.ClassFile.FieldType.int)) ∈ TT := TT_o3 145 (by decide +kernel) (by decide +kernel)
theorem k622 : (Jvm.Cond.methodLink "KingsBalanceLaw" (77 : Nat) ({ cls := "KingsBalance", name := "first", desc := "(I)I" } : Jvm.MethodName)) ∈ TT := TT_o3 142 (by decide +kernel) (by decide +kernel)
theorem k623 : (Jvm.Cond.instanceMethod ({ cls := "KingsBalance", name := "first", desc := "(I)I" } : Jvm.MethodName)) ∈ TT := TT_o3 143 (by decide +kernel) (by decide +kernel)
theorem k624 : (Jvm.Cond.selects "KingsBalance" ({ cls := "KingsBalance", name := "first", desc := "(I)I" } : Jvm.MethodName) ({ cls := "KingsBalance", name := "first", desc := "(I)I" } : Jvm.MethodName)) ∈ TT := TT_o3 144 (by decide +kernel) (by decide +kernel)
theorem k1198 : (Jvm.Cond.code ({ cls := "KingsBalanceModel", name := "first", desc := "(I)I" } : Jvm.MethodName) prog_14_method_49_code (2 : Nat) (Option.some Jvm.ClassFile.FieldType.int)) ∈ TT := TT_o5 238 (by decide +kernel) (by decide +kernel)
theorem k1195 : (Jvm.Cond.methodLink "KingsBalanceLaw" (81 : Nat) ({ cls := "KingsBalanceModel", name := "first", desc := "(I)I" } : Jvm.MethodName)) ∈ TT := TT_o5 235 (by decide +kernel) (by decide +kernel)
theorem k1196 : (Jvm.Cond.instanceMethod ({ cls := "KingsBalanceModel", name := "first", desc := "(I)I" } : Jvm.MethodName)) ∈ TT := TT_o5 236 (by decide +kernel) (by decide +kernel)
theorem k1197 : (Jvm.Cond.selects "KingsBalanceModel" ({ cls := "KingsBalanceModel", name := "first", desc := "(I)I" } : Jvm.MethodName) ({ cls := "KingsBalanceModel", name := "first", desc := "(I)I" } : Jvm.MethodName)) ∈ TT := TT_o5 237 (by decide +kernel) (by decide +kernel)
theorem k640 : (Jvm.Cond.code ({ cls := "KingsBalance", name := "keeps", desc := "(III)I" } : Jvm.MethodName) prog_1_method_17_code (4 : Nat) (Option.some Jvm.ClassFile.FieldType.int)) ∈ TT := TT_o3 160 (by decide +kernel) (by decide +kernel)
theorem k637 : (Jvm.Cond.methodLink "KingsBalanceLaw" (82 : Nat) ({ cls := "KingsBalance", name := "keeps", desc := "(III)I" } : Jvm.MethodName)) ∈ TT := TT_o3 157 (by decide +kernel) (by decide +kernel)
theorem k638 : (Jvm.Cond.instanceMethod ({ cls := "KingsBalance", name := "keeps", desc := "(III)I" } : Jvm.MethodName)) ∈ TT := TT_o3 158 (by decide +kernel) (by decide +kernel)
theorem k639 : (Jvm.Cond.selects "KingsBalance" ({ cls := "KingsBalance", name := "keeps", desc := "(III)I" } : Jvm.MethodName) ({ cls := "KingsBalance", name := "keeps", desc := "(III)I" } : Jvm.MethodName)) ∈ TT := TT_o3 159 (by decide +kernel) (by decide +kernel)
theorem k1206 : (Jvm.Cond.code ({ cls := "KingsBalanceModel", name := "keeps", desc := "(III)I" } : Jvm.MethodName) prog_14_method_51_code (4 : Nat) (Option.some Jvm.ClassFile.FieldType.int)) ∈ TT := TT_o6 6 (by decide +kernel) (by decide +kernel)
theorem k1203 : (Jvm.Cond.methodLink "KingsBalanceLaw" (85 : Nat) ({ cls := "KingsBalanceModel", name := "keeps", desc := "(III)I" } : Jvm.MethodName)) ∈ TT := TT_o6 3 (by decide +kernel) (by decide +kernel)
theorem k1204 : (Jvm.Cond.instanceMethod ({ cls := "KingsBalanceModel", name := "keeps", desc := "(III)I" } : Jvm.MethodName)) ∈ TT := TT_o6 4 (by decide +kernel) (by decide +kernel)
theorem k1205 : (Jvm.Cond.selects "KingsBalanceModel" ({ cls := "KingsBalanceModel", name := "keeps", desc := "(III)I" } : Jvm.MethodName) ({ cls := "KingsBalanceModel", name := "keeps", desc := "(III)I" } : Jvm.MethodName)) ∈ TT := TT_o6 5 (by decide +kernel) (by decide +kernel)
theorem k653 : (Jvm.Cond.code ({ cls := "KingsBalance", name := "empty", desc := "(I)I" } : Jvm.MethodName) prog_1_method_18_code (4 : Nat) (Option.some Jvm.ClassFile.FieldType.int)) ∈ TT := TT_o3 173 (by decide +kernel) (by decide +kernel)
theorem k650 : (Jvm.Cond.methodLink "KingsBalanceLaw" (86 : Nat) ({ cls := "KingsBalance", name := "empty", desc := "(I)I" } : Jvm.MethodName)) ∈ TT := TT_o3 170 (by decide +kernel) (by decide +kernel)
theorem k651 : (Jvm.Cond.instanceMethod ({ cls := "KingsBalance", name := "empty", desc := "(I)I" } : Jvm.MethodName)) ∈ TT := TT_o3 171 (by decide +kernel) (by decide +kernel)
theorem k652 : (Jvm.Cond.selects "KingsBalance" ({ cls := "KingsBalance", name := "empty", desc := "(I)I" } : Jvm.MethodName) ({ cls := "KingsBalance", name := "empty", desc := "(I)I" } : Jvm.MethodName)) ∈ TT := TT_o3 172 (by decide +kernel) (by decide +kernel)
theorem k1214 : (Jvm.Cond.code ({ cls := "KingsBalanceModel", name := "empty", desc := "(I)I" } : Jvm.MethodName) prog_14_method_52_code (7 : Nat) (Option.some Jvm.ClassFile.FieldType.int)) ∈ TT := TT_o6 14 (by decide +kernel) (by decide +kernel)
theorem k1211 : (Jvm.Cond.methodLink "KingsBalanceLaw" (89 : Nat) ({ cls := "KingsBalanceModel", name := "empty", desc := "(I)I" } : Jvm.MethodName)) ∈ TT := TT_o6 11 (by decide +kernel) (by decide +kernel)
theorem k1212 : (Jvm.Cond.instanceMethod ({ cls := "KingsBalanceModel", name := "empty", desc := "(I)I" } : Jvm.MethodName)) ∈ TT := TT_o6 12 (by decide +kernel) (by decide +kernel)
theorem k1213 : (Jvm.Cond.selects "KingsBalanceModel" ({ cls := "KingsBalanceModel", name := "empty", desc := "(I)I" } : Jvm.MethodName) ({ cls := "KingsBalanceModel", name := "empty", desc := "(I)I" } : Jvm.MethodName)) ∈ TT := TT_o6 13 (by decide +kernel) (by decide +kernel)
theorem k662 : (Jvm.Cond.code ({ cls := "KingsBalance", name := "all", desc := "(I)I" } : Jvm.MethodName) prog_1_method_19_code (2 : Nat) (Option.some Jvm.ClassFile.FieldType.int)) ∈ TT := TT_o3 182 (by decide +kernel) (by decide +kernel)
theorem k659 : (Jvm.Cond.methodLink "KingsBalanceLaw" (90 : Nat) ({ cls := "KingsBalance", name := "all", desc := "(I)I" } : Jvm.MethodName)) ∈ TT := TT_o3 179 (by decide +kernel) (by decide +kernel)
theorem k660 : (Jvm.Cond.instanceMethod ({ cls := "KingsBalance", name := "all", desc := "(I)I" } : Jvm.MethodName)) ∈ TT := TT_o3 180 (by decide +kernel) (by decide +kernel)
theorem k661 : (Jvm.Cond.selects "KingsBalance" ({ cls := "KingsBalance", name := "all", desc := "(I)I" } : Jvm.MethodName) ({ cls := "KingsBalance", name := "all", desc := "(I)I" } : Jvm.MethodName)) ∈ TT := TT_o3 181 (by decide +kernel) (by decide +kernel)
theorem k1218 : (Jvm.Cond.code ({ cls := "KingsBalanceModel", name := "all", desc := "(I)I" } : Jvm.MethodName) prog_14_method_57_code (2 : Nat) (Option.some Jvm.ClassFile.FieldType.int)) ∈ TT := TT_o6 18 (by decide +kernel) (by decide +kernel)
theorem k1215 : (Jvm.Cond.methodLink "KingsBalanceLaw" (93 : Nat) ({ cls := "KingsBalanceModel", name := "all", desc := "(I)I" } : Jvm.MethodName)) ∈ TT := TT_o6 15 (by decide +kernel) (by decide +kernel)
theorem k1216 : (Jvm.Cond.instanceMethod ({ cls := "KingsBalanceModel", name := "all", desc := "(I)I" } : Jvm.MethodName)) ∈ TT := TT_o6 16 (by decide +kernel) (by decide +kernel)
theorem k1217 : (Jvm.Cond.selects "KingsBalanceModel" ({ cls := "KingsBalanceModel", name := "all", desc := "(I)I" } : Jvm.MethodName) ({ cls := "KingsBalanceModel", name := "all", desc := "(I)I" } : Jvm.MethodName)) ∈ TT := TT_o6 17 (by decide +kernel) (by decide +kernel)
theorem k708 : (Jvm.Cond.code ({ cls := "KingsBalance", name := "quiet", desc := "(IIZ)I" } : Jvm.MethodName) prog_1_method_20_code (4 : Nat) (Option.some Jvm.ClassFile.FieldType.int)) ∈ TT := TT_o3 228 (by decide +kernel) (by decide +kernel)
theorem k705 : (Jvm.Cond.methodLink "KingsBalanceLaw" (94 : Nat) ({ cls := "KingsBalance", name := "quiet", desc := "(IIZ)I" } : Jvm.MethodName)) ∈ TT := TT_o3 225 (by decide +kernel) (by decide +kernel)
theorem k706 : (Jvm.Cond.instanceMethod ({ cls := "KingsBalance", name := "quiet", desc := "(IIZ)I" } : Jvm.MethodName)) ∈ TT := TT_o3 226 (by decide +kernel) (by decide +kernel)
theorem k707 : (Jvm.Cond.selects "KingsBalance" ({ cls := "KingsBalance", name := "quiet", desc := "(IIZ)I" } : Jvm.MethodName) ({ cls := "KingsBalance", name := "quiet", desc := "(IIZ)I" } : Jvm.MethodName)) ∈ TT := TT_o3 227 (by decide +kernel) (by decide +kernel)
theorem k1241 : (Jvm.Cond.code ({ cls := "KingsBalanceModel", name := "quiet", desc := "(IIZ)I" } : Jvm.MethodName) prog_14_method_58_code (4 : Nat) (Option.some Jvm.ClassFile.FieldType.int)) ∈ TT := TT_o6 41 (by decide +kernel) (by decide +kernel)
theorem k1238 : (Jvm.Cond.methodLink "KingsBalanceLaw" (98 : Nat) ({ cls := "KingsBalanceModel", name := "quiet", desc := "(IIZ)I" } : Jvm.MethodName)) ∈ TT := TT_o6 38 (by decide +kernel) (by decide +kernel)
theorem k1239 : (Jvm.Cond.instanceMethod ({ cls := "KingsBalanceModel", name := "quiet", desc := "(IIZ)I" } : Jvm.MethodName)) ∈ TT := TT_o6 39 (by decide +kernel) (by decide +kernel)
theorem k1240 : (Jvm.Cond.selects "KingsBalanceModel" ({ cls := "KingsBalanceModel", name := "quiet", desc := "(IIZ)I" } : Jvm.MethodName) ({ cls := "KingsBalanceModel", name := "quiet", desc := "(IIZ)I" } : Jvm.MethodName)) ∈ TT := TT_o6 40 (by decide +kernel) (by decide +kernel)
theorem k720 : (Jvm.Cond.code ({ cls := "KingsBalance", name := "lead", desc := "(III)I" } : Jvm.MethodName) prog_1_method_21_code (6 : Nat) (Option.some Jvm.ClassFile.FieldType.int)) ∈ TT := TT_o4 0 (by decide +kernel) (by decide +kernel)
theorem k717 : (Jvm.Cond.methodLink "KingsBalanceLaw" (99 : Nat) ({ cls := "KingsBalance", name := "lead", desc := "(III)I" } : Jvm.MethodName)) ∈ TT := TT_o3 237 (by decide +kernel) (by decide +kernel)
theorem k718 : (Jvm.Cond.instanceMethod ({ cls := "KingsBalance", name := "lead", desc := "(III)I" } : Jvm.MethodName)) ∈ TT := TT_o3 238 (by decide +kernel) (by decide +kernel)
theorem k719 : (Jvm.Cond.selects "KingsBalance" ({ cls := "KingsBalance", name := "lead", desc := "(III)I" } : Jvm.MethodName) ({ cls := "KingsBalance", name := "lead", desc := "(III)I" } : Jvm.MethodName)) ∈ TT := TT_o3 239 (by decide +kernel) (by decide +kernel)
theorem k1245 : (Jvm.Cond.code ({ cls := "KingsBalanceModel", name := "lead", desc := "(III)I" } : Jvm.MethodName) prog_14_method_60_code (4 : Nat) (Option.some Jvm.ClassFile.FieldType.int)) ∈ TT := TT_o6 45 (by decide +kernel) (by decide +kernel)
theorem k1242 : (Jvm.Cond.methodLink "KingsBalanceLaw" (102 : Nat) ({ cls := "KingsBalanceModel", name := "lead", desc := "(III)I" } : Jvm.MethodName)) ∈ TT := TT_o6 42 (by decide +kernel) (by decide +kernel)
theorem k1243 : (Jvm.Cond.instanceMethod ({ cls := "KingsBalanceModel", name := "lead", desc := "(III)I" } : Jvm.MethodName)) ∈ TT := TT_o6 43 (by decide +kernel) (by decide +kernel)
theorem k1244 : (Jvm.Cond.selects "KingsBalanceModel" ({ cls := "KingsBalanceModel", name := "lead", desc := "(III)I" } : Jvm.MethodName) ({ cls := "KingsBalanceModel", name := "lead", desc := "(III)I" } : Jvm.MethodName)) ∈ TT := TT_o6 44 (by decide +kernel) (by decide +kernel)
theorem k750 : (Jvm.Cond.code ({ cls := "KingsBalance", name := "next", desc := "(I)I" } : Jvm.MethodName) prog_1_method_22_code (5 : Nat) (Option.some Jvm.ClassFile.FieldType.int)) ∈ TT := TT_o4 30 (by decide +kernel) (by decide +kernel)
theorem k747 : (Jvm.Cond.methodLink "KingsBalanceLaw" (103 : Nat) ({ cls := "KingsBalance", name := "next", desc := "(I)I" } : Jvm.MethodName)) ∈ TT := TT_o4 27 (by decide +kernel) (by decide +kernel)
theorem k748 : (Jvm.Cond.instanceMethod ({ cls := "KingsBalance", name := "next", desc := "(I)I" } : Jvm.MethodName)) ∈ TT := TT_o4 28 (by decide +kernel) (by decide +kernel)
theorem k749 : (Jvm.Cond.selects "KingsBalance" ({ cls := "KingsBalance", name := "next", desc := "(I)I" } : Jvm.MethodName) ({ cls := "KingsBalance", name := "next", desc := "(I)I" } : Jvm.MethodName)) ∈ TT := TT_o4 29 (by decide +kernel) (by decide +kernel)
theorem k1254 : (Jvm.Cond.code ({ cls := "KingsBalanceModel", name := "next", desc := "(I)I" } : Jvm.MethodName) prog_14_method_61_code (5 : Nat) (Option.some Jvm.ClassFile.FieldType.int)) ∈ TT := TT_o6 54 (by decide +kernel) (by decide +kernel)
theorem k1251 : (Jvm.Cond.methodLink "KingsBalanceLaw" (106 : Nat) ({ cls := "KingsBalanceModel", name := "next", desc := "(I)I" } : Jvm.MethodName)) ∈ TT := TT_o6 51 (by decide +kernel) (by decide +kernel)
theorem k1252 : (Jvm.Cond.instanceMethod ({ cls := "KingsBalanceModel", name := "next", desc := "(I)I" } : Jvm.MethodName)) ∈ TT := TT_o6 52 (by decide +kernel) (by decide +kernel)
theorem k1253 : (Jvm.Cond.selects "KingsBalanceModel" ({ cls := "KingsBalanceModel", name := "next", desc := "(I)I" } : Jvm.MethodName) ({ cls := "KingsBalanceModel", name := "next", desc := "(I)I" } : Jvm.MethodName)) ∈ TT := TT_o6 53 (by decide +kernel) (by decide +kernel)
theorem k754 : (Jvm.Cond.code ({ cls := "KingsBalance", name := "edge", desc := "(I)I" } : Jvm.MethodName) prog_1_method_23_code (2 : Nat) (Option.some Jvm.ClassFile.FieldType.int)) ∈ TT := TT_o4 34 (by decide +kernel) (by decide +kernel)
theorem k751 : (Jvm.Cond.methodLink "KingsBalanceLaw" (107 : Nat) ({ cls := "KingsBalance", name := "edge", desc := "(I)I" } : Jvm.MethodName)) ∈ TT := TT_o4 31 (by decide +kernel) (by decide +kernel)
theorem k752 : (Jvm.Cond.instanceMethod ({ cls := "KingsBalance", name := "edge", desc := "(I)I" } : Jvm.MethodName)) ∈ TT := TT_o4 32 (by decide +kernel) (by decide +kernel)
theorem k753 : (Jvm.Cond.selects "KingsBalance" ({ cls := "KingsBalance", name := "edge", desc := "(I)I" } : Jvm.MethodName) ({ cls := "KingsBalance", name := "edge", desc := "(I)I" } : Jvm.MethodName)) ∈ TT := TT_o4 33 (by decide +kernel) (by decide +kernel)
theorem k1258 : (Jvm.Cond.code ({ cls := "KingsBalanceModel", name := "edge", desc := "(I)I" } : Jvm.MethodName) prog_14_method_63_code (2 : Nat) (Option.some Jvm.ClassFile.FieldType.int)) ∈ TT := TT_o6 58 (by decide +kernel) (by decide +kernel)
theorem k1255 : (Jvm.Cond.methodLink "KingsBalanceLaw" (110 : Nat) ({ cls := "KingsBalanceModel", name := "edge", desc := "(I)I" } : Jvm.MethodName)) ∈ TT := TT_o6 55 (by decide +kernel) (by decide +kernel)
theorem k1256 : (Jvm.Cond.instanceMethod ({ cls := "KingsBalanceModel", name := "edge", desc := "(I)I" } : Jvm.MethodName)) ∈ TT := TT_o6 56 (by decide +kernel) (by decide +kernel)
theorem k1257 : (Jvm.Cond.selects "KingsBalanceModel" ({ cls := "KingsBalanceModel", name := "edge", desc := "(I)I" } : Jvm.MethodName) ({ cls := "KingsBalanceModel", name := "edge", desc := "(I)I" } : Jvm.MethodName)) ∈ TT := TT_o6 57 (by decide +kernel) (by decide +kernel)
theorem k763 : (Jvm.Cond.code ({ cls := "KingsBalance", name := "courted", desc := "()I" } : Jvm.MethodName) prog_1_method_24_code (6 : Nat) (Option.some Jvm.ClassFile.FieldType.int)) ∈ TT := TT_o4 43 (by decide +kernel) (by decide +kernel)
theorem k760 : (Jvm.Cond.methodLink "KingsBalanceLaw" (111 : Nat) ({ cls := "KingsBalance", name := "courted", desc := "()I" } : Jvm.MethodName)) ∈ TT := TT_o4 40 (by decide +kernel) (by decide +kernel)
theorem k761 : (Jvm.Cond.instanceMethod ({ cls := "KingsBalance", name := "courted", desc := "()I" } : Jvm.MethodName)) ∈ TT := TT_o4 41 (by decide +kernel) (by decide +kernel)
theorem k762 : (Jvm.Cond.selects "KingsBalance" ({ cls := "KingsBalance", name := "courted", desc := "()I" } : Jvm.MethodName) ({ cls := "KingsBalance", name := "courted", desc := "()I" } : Jvm.MethodName)) ∈ TT := TT_o4 42 (by decide +kernel) (by decide +kernel)
theorem k1266 : (Jvm.Cond.code ({ cls := "KingsBalanceModel", name := "courted", desc := "()I" } : Jvm.MethodName) prog_14_method_64_code (6 : Nat) (Option.some Jvm.ClassFile.FieldType.int)) ∈ TT := TT_o6 66 (by decide +kernel) (by decide +kernel)
theorem k1263 : (Jvm.Cond.methodLink "KingsBalanceLaw" (114 : Nat) ({ cls := "KingsBalanceModel", name := "courted", desc := "()I" } : Jvm.MethodName)) ∈ TT := TT_o6 63 (by decide +kernel) (by decide +kernel)
theorem k1264 : (Jvm.Cond.instanceMethod ({ cls := "KingsBalanceModel", name := "courted", desc := "()I" } : Jvm.MethodName)) ∈ TT := TT_o6 64 (by decide +kernel) (by decide +kernel)
theorem k1265 : (Jvm.Cond.selects "KingsBalanceModel" ({ cls := "KingsBalanceModel", name := "courted", desc := "()I" } : Jvm.MethodName) ({ cls := "KingsBalanceModel", name := "courted", desc := "()I" } : Jvm.MethodName)) ∈ TT := TT_o6 65 (by decide +kernel) (by decide +kernel)
theorem k767 : (Jvm.Cond.code ({ cls := "KingsBalance", name := "race", desc := "(I)I" } : Jvm.MethodName) prog_1_method_25_code (4 : Nat) (Option.some Jvm.ClassFile.FieldType.int)) ∈ TT := TT_o4 47 (by decide +kernel) (by decide +kernel)
theorem k764 : (Jvm.Cond.methodLink "KingsBalanceLaw" (115 : Nat) ({ cls := "KingsBalance", name := "race", desc := "(I)I" } : Jvm.MethodName)) ∈ TT := TT_o4 44 (by decide +kernel) (by decide +kernel)
theorem k765 : (Jvm.Cond.instanceMethod ({ cls := "KingsBalance", name := "race", desc := "(I)I" } : Jvm.MethodName)) ∈ TT := TT_o4 45 (by decide +kernel) (by decide +kernel)
theorem k766 : (Jvm.Cond.selects "KingsBalance" ({ cls := "KingsBalance", name := "race", desc := "(I)I" } : Jvm.MethodName) ({ cls := "KingsBalance", name := "race", desc := "(I)I" } : Jvm.MethodName)) ∈ TT := TT_o4 46 (by decide +kernel) (by decide +kernel)
theorem k1270 : (Jvm.Cond.code ({ cls := "KingsBalanceModel", name := "race", desc := "(I)I" } : Jvm.MethodName) prog_14_method_65_code (6 : Nat) (Option.some Jvm.ClassFile.FieldType.int)) ∈ TT := TT_o6 70 (by decide +kernel) (by decide +kernel)
theorem k1267 : (Jvm.Cond.methodLink "KingsBalanceLaw" (118 : Nat) ({ cls := "KingsBalanceModel", name := "race", desc := "(I)I" } : Jvm.MethodName)) ∈ TT := TT_o6 67 (by decide +kernel) (by decide +kernel)
theorem k1268 : (Jvm.Cond.instanceMethod ({ cls := "KingsBalanceModel", name := "race", desc := "(I)I" } : Jvm.MethodName)) ∈ TT := TT_o6 68 (by decide +kernel) (by decide +kernel)
theorem k1269 : (Jvm.Cond.selects "KingsBalanceModel" ({ cls := "KingsBalanceModel", name := "race", desc := "(I)I" } : Jvm.MethodName) ({ cls := "KingsBalanceModel", name := "race", desc := "(I)I" } : Jvm.MethodName)) ∈ TT := TT_o6 69 (by decide +kernel) (by decide +kernel)
theorem k775 : (Jvm.Cond.code ({ cls := "KingsBalance", name := "few", desc := "(II)I" } : Jvm.MethodName) prog_1_method_26_code (6 : Nat) (Option.some Jvm.ClassFile.FieldType.int)) ∈ TT := TT_o4 55 (by decide +kernel) (by decide +kernel)
theorem k772 : (Jvm.Cond.methodLink "KingsBalanceLaw" (119 : Nat) ({ cls := "KingsBalance", name := "few", desc := "(II)I" } : Jvm.MethodName)) ∈ TT := TT_o4 52 (by decide +kernel) (by decide +kernel)
theorem k773 : (Jvm.Cond.instanceMethod ({ cls := "KingsBalance", name := "few", desc := "(II)I" } : Jvm.MethodName)) ∈ TT := TT_o4 53 (by decide +kernel) (by decide +kernel)
theorem k774 : (Jvm.Cond.selects "KingsBalance" ({ cls := "KingsBalance", name := "few", desc := "(II)I" } : Jvm.MethodName) ({ cls := "KingsBalance", name := "few", desc := "(II)I" } : Jvm.MethodName)) ∈ TT := TT_o4 54 (by decide +kernel) (by decide +kernel)
theorem k1274 : (Jvm.Cond.code ({ cls := "KingsBalanceModel", name := "few", desc := "(II)I" } : Jvm.MethodName) prog_14_method_67_code (6 : Nat) (Option.some Jvm.ClassFile.FieldType.int)) ∈ TT := TT_o6 74 (by decide +kernel) (by decide +kernel)
theorem k1271 : (Jvm.Cond.methodLink "KingsBalanceLaw" (122 : Nat) ({ cls := "KingsBalanceModel", name := "few", desc := "(II)I" } : Jvm.MethodName)) ∈ TT := TT_o6 71 (by decide +kernel) (by decide +kernel)
theorem k1272 : (Jvm.Cond.instanceMethod ({ cls := "KingsBalanceModel", name := "few", desc := "(II)I" } : Jvm.MethodName)) ∈ TT := TT_o6 72 (by decide +kernel) (by decide +kernel)
theorem k1273 : (Jvm.Cond.selects "KingsBalanceModel" ({ cls := "KingsBalanceModel", name := "few", desc := "(II)I" } : Jvm.MethodName) ({ cls := "KingsBalanceModel", name := "few", desc := "(II)I" } : Jvm.MethodName)) ∈ TT := TT_o6 73 (by decide +kernel) (by decide +kernel)
theorem k783 : (Jvm.Cond.code ({ cls := "KingsBalance", name := "guarded", desc := "(I)I" } : Jvm.MethodName) prog_1_method_27_code (5 : Nat) (Option.some Jvm.ClassFile.FieldType.int)) ∈ TT := TT_o4 63 (by decide +kernel) (by decide +kernel)
theorem k780 : (Jvm.Cond.methodLink "KingsBalanceLaw" (123 : Nat) ({ cls := "KingsBalance", name := "guarded", desc := "(I)I" } : Jvm.MethodName)) ∈ TT := TT_o4 60 (by decide +kernel) (by decide +kernel)
theorem k781 : (Jvm.Cond.instanceMethod ({ cls := "KingsBalance", name := "guarded", desc := "(I)I" } : Jvm.MethodName)) ∈ TT := TT_o4 61 (by decide +kernel) (by decide +kernel)
theorem k782 : (Jvm.Cond.selects "KingsBalance" ({ cls := "KingsBalance", name := "guarded", desc := "(I)I" } : Jvm.MethodName) ({ cls := "KingsBalance", name := "guarded", desc := "(I)I" } : Jvm.MethodName)) ∈ TT := TT_o4 62 (by decide +kernel) (by decide +kernel)
theorem k1282 : (Jvm.Cond.code ({ cls := "KingsBalanceModel", name := "guarded", desc := "(I)I" } : Jvm.MethodName) prog_14_method_68_code (4 : Nat) (Option.some Jvm.ClassFile.FieldType.int)) ∈ TT := TT_o6 82 (by decide +kernel) (by decide +kernel)
theorem k1279 : (Jvm.Cond.methodLink "KingsBalanceLaw" (126 : Nat) ({ cls := "KingsBalanceModel", name := "guarded", desc := "(I)I" } : Jvm.MethodName)) ∈ TT := TT_o6 79 (by decide +kernel) (by decide +kernel)
theorem k1280 : (Jvm.Cond.instanceMethod ({ cls := "KingsBalanceModel", name := "guarded", desc := "(I)I" } : Jvm.MethodName)) ∈ TT := TT_o6 80 (by decide +kernel) (by decide +kernel)
theorem k1281 : (Jvm.Cond.selects "KingsBalanceModel" ({ cls := "KingsBalanceModel", name := "guarded", desc := "(I)I" } : Jvm.MethodName) ({ cls := "KingsBalanceModel", name := "guarded", desc := "(I)I" } : Jvm.MethodName)) ∈ TT := TT_o6 81 (by decide +kernel) (by decide +kernel)
theorem k787 : (Jvm.Cond.code ({ cls := "KingsBalance", name := "marry", desc := "(IIII)I" } : Jvm.MethodName) prog_1_method_28_code (6 : Nat) (Option.some Jvm.ClassFile.FieldType.int)) ∈ TT := TT_o4 67 (by decide +kernel) (by decide +kernel)
theorem k784 : (Jvm.Cond.methodLink "KingsBalanceLaw" (127 : Nat) ({ cls := "KingsBalance", name := "marry", desc := "(IIII)I" } : Jvm.MethodName)) ∈ TT := TT_o4 64 (by decide +kernel) (by decide +kernel)
theorem k785 : (Jvm.Cond.instanceMethod ({ cls := "KingsBalance", name := "marry", desc := "(IIII)I" } : Jvm.MethodName)) ∈ TT := TT_o4 65 (by decide +kernel) (by decide +kernel)
theorem k786 : (Jvm.Cond.selects "KingsBalance" ({ cls := "KingsBalance", name := "marry", desc := "(IIII)I" } : Jvm.MethodName) ({ cls := "KingsBalance", name := "marry", desc := "(IIII)I" } : Jvm.MethodName)) ∈ TT := TT_o4 66 (by decide +kernel) (by decide +kernel)
theorem k1286 : (Jvm.Cond.code ({ cls := "KingsBalanceModel", name := "marry", desc := "(IIII)I" } : Jvm.MethodName) prog_14_method_69_code (12 : Nat) (Option.some Jvm.ClassFile.FieldType.int)) ∈ TT := TT_o6 86 (by decide +kernel) (by decide +kernel)
theorem k1283 : (Jvm.Cond.methodLink "KingsBalanceLaw" (130 : Nat) ({ cls := "KingsBalanceModel", name := "marry", desc := "(IIII)I" } : Jvm.MethodName)) ∈ TT := TT_o6 83 (by decide +kernel) (by decide +kernel)
theorem k1284 : (Jvm.Cond.instanceMethod ({ cls := "KingsBalanceModel", name := "marry", desc := "(IIII)I" } : Jvm.MethodName)) ∈ TT := TT_o6 84 (by decide +kernel) (by decide +kernel)
theorem k1285 : (Jvm.Cond.selects "KingsBalanceModel" ({ cls := "KingsBalanceModel", name := "marry", desc := "(IIII)I" } : Jvm.MethodName) ({ cls := "KingsBalanceModel", name := "marry", desc := "(IIII)I" } : Jvm.MethodName)) ∈ TT := TT_o6 85 (by decide +kernel) (by decide +kernel)
theorem k797 : (Jvm.Cond.code ({ cls := "KingsBalance", name := "act", desc := "(III)I" } : Jvm.MethodName) prog_1_method_29_code (5 : Nat) (Option.some Jvm.ClassFile.FieldType.int)) ∈ TT := TT_o4 77 (by decide +kernel) (by decide +kernel)
theorem k794 : (Jvm.Cond.methodLink "KingsBalanceLaw" (131 : Nat) ({ cls := "KingsBalance", name := "act", desc := "(III)I" } : Jvm.MethodName)) ∈ TT := TT_o4 74 (by decide +kernel) (by decide +kernel)
theorem k795 : (Jvm.Cond.instanceMethod ({ cls := "KingsBalance", name := "act", desc := "(III)I" } : Jvm.MethodName)) ∈ TT := TT_o4 75 (by decide +kernel) (by decide +kernel)
theorem k796 : (Jvm.Cond.selects "KingsBalance" ({ cls := "KingsBalance", name := "act", desc := "(III)I" } : Jvm.MethodName) ({ cls := "KingsBalance", name := "act", desc := "(III)I" } : Jvm.MethodName)) ∈ TT := TT_o4 76 (by decide +kernel) (by decide +kernel)
theorem k1290 : (Jvm.Cond.code ({ cls := "KingsBalanceModel", name := "act", desc := "(III)I" } : Jvm.MethodName) prog_14_method_78_code (4 : Nat) (Option.some Jvm.ClassFile.FieldType.int)) ∈ TT := TT_o6 90 (by decide +kernel) (by decide +kernel)
theorem k1287 : (Jvm.Cond.methodLink "KingsBalanceLaw" (134 : Nat) ({ cls := "KingsBalanceModel", name := "act", desc := "(III)I" } : Jvm.MethodName)) ∈ TT := TT_o6 87 (by decide +kernel) (by decide +kernel)
theorem k1288 : (Jvm.Cond.instanceMethod ({ cls := "KingsBalanceModel", name := "act", desc := "(III)I" } : Jvm.MethodName)) ∈ TT := TT_o6 88 (by decide +kernel) (by decide +kernel)
theorem k1289 : (Jvm.Cond.selects "KingsBalanceModel" ({ cls := "KingsBalanceModel", name := "act", desc := "(III)I" } : Jvm.MethodName) ({ cls := "KingsBalanceModel", name := "act", desc := "(III)I" } : Jvm.MethodName)) ∈ TT := TT_o6 89 (by decide +kernel) (by decide +kernel)
theorem k879 : (Jvm.Cond.code ({ cls := "KingsBalance", name := "trace", desc := "(I)I" } : Jvm.MethodName) prog_1_method_30_code (2 : Nat) (Option.some Jvm.ClassFile.FieldType.int)) ∈ TT := TT_o4 159 (by decide +kernel) (by decide +kernel)
theorem k876 : (Jvm.Cond.methodLink "KingsBalanceLaw" (135 : Nat) ({ cls := "KingsBalance", name := "trace", desc := "(I)I" } : Jvm.MethodName)) ∈ TT := TT_o4 156 (by decide +kernel) (by decide +kernel)
theorem k877 : (Jvm.Cond.instanceMethod ({ cls := "KingsBalance", name := "trace", desc := "(I)I" } : Jvm.MethodName)) ∈ TT := TT_o4 157 (by decide +kernel) (by decide +kernel)
theorem k878 : (Jvm.Cond.selects "KingsBalance" ({ cls := "KingsBalance", name := "trace", desc := "(I)I" } : Jvm.MethodName) ({ cls := "KingsBalance", name := "trace", desc := "(I)I" } : Jvm.MethodName)) ∈ TT := TT_o4 158 (by decide +kernel) (by decide +kernel)
theorem k1325 : (Jvm.Cond.code ({ cls := "KingsBalanceModel", name := "trace", desc := "(I)I" } : Jvm.MethodName) prog_14_method_79_code (2 : Nat) (Option.some Jvm.ClassFile.FieldType.int)) ∈ TT := TT_o6 125 (by decide +kernel) (by decide +kernel)
theorem k1322 : (Jvm.Cond.methodLink "KingsBalanceLaw" (138 : Nat) ({ cls := "KingsBalanceModel", name := "trace", desc := "(I)I" } : Jvm.MethodName)) ∈ TT := TT_o6 122 (by decide +kernel) (by decide +kernel)
theorem k1323 : (Jvm.Cond.instanceMethod ({ cls := "KingsBalanceModel", name := "trace", desc := "(I)I" } : Jvm.MethodName)) ∈ TT := TT_o6 123 (by decide +kernel) (by decide +kernel)
theorem k1324 : (Jvm.Cond.selects "KingsBalanceModel" ({ cls := "KingsBalanceModel", name := "trace", desc := "(I)I" } : Jvm.MethodName) ({ cls := "KingsBalanceModel", name := "trace", desc := "(I)I" } : Jvm.MethodName)) ∈ TT := TT_o6 124 (by decide +kernel) (by decide +kernel)
theorem k883 : (Jvm.Cond.code ({ cls := "KingsBalance", name := "as", desc := "(II)I" } : Jvm.MethodName) prog_1_method_31_code (4 : Nat) (Option.some Jvm.ClassFile.FieldType.int)) ∈ TT := TT_o4 163 (by decide +kernel) (by decide +kernel)
theorem k880 : (Jvm.Cond.methodLink "KingsBalanceLaw" (139 : Nat) ({ cls := "KingsBalance", name := "as", desc := "(II)I" } : Jvm.MethodName)) ∈ TT := TT_o4 160 (by decide +kernel) (by decide +kernel)
theorem k881 : (Jvm.Cond.instanceMethod ({ cls := "KingsBalance", name := "as", desc := "(II)I" } : Jvm.MethodName)) ∈ TT := TT_o4 161 (by decide +kernel) (by decide +kernel)
theorem k882 : (Jvm.Cond.selects "KingsBalance" ({ cls := "KingsBalance", name := "as", desc := "(II)I" } : Jvm.MethodName) ({ cls := "KingsBalance", name := "as", desc := "(II)I" } : Jvm.MethodName)) ∈ TT := TT_o4 162 (by decide +kernel) (by decide +kernel)
theorem k1329 : (Jvm.Cond.code ({ cls := "KingsBalanceModel", name := "as", desc := "(II)I" } : Jvm.MethodName) prog_14_method_80_code (3 : Nat) (Option.some Jvm.ClassFile.FieldType.int)) ∈ TT := TT_o6 129 (by decide +kernel) (by decide +kernel)
theorem k1326 : (Jvm.Cond.methodLink "KingsBalanceLaw" (142 : Nat) ({ cls := "KingsBalanceModel", name := "as", desc := "(II)I" } : Jvm.MethodName)) ∈ TT := TT_o6 126 (by decide +kernel) (by decide +kernel)
theorem k1327 : (Jvm.Cond.instanceMethod ({ cls := "KingsBalanceModel", name := "as", desc := "(II)I" } : Jvm.MethodName)) ∈ TT := TT_o6 127 (by decide +kernel) (by decide +kernel)
theorem k1328 : (Jvm.Cond.selects "KingsBalanceModel" ({ cls := "KingsBalanceModel", name := "as", desc := "(II)I" } : Jvm.MethodName) ({ cls := "KingsBalanceModel", name := "as", desc := "(II)I" } : Jvm.MethodName)) ∈ TT := TT_o6 128 (by decide +kernel) (by decide +kernel)
theorem k890 : (Jvm.Cond.code ({ cls := "KingsBalance", name := "image", desc := "()I" } : Jvm.MethodName) prog_1_method_32_code (1 : Nat) (Option.some Jvm.ClassFile.FieldType.int)) ∈ TT := TT_o4 170 (by decide +kernel) (by decide +kernel)
theorem k887 : (Jvm.Cond.methodLink "KingsBalanceLaw" (143 : Nat) ({ cls := "KingsBalance", name := "image", desc := "()I" } : Jvm.MethodName)) ∈ TT := TT_o4 167 (by decide +kernel) (by decide +kernel)
theorem k888 : (Jvm.Cond.instanceMethod ({ cls := "KingsBalance", name := "image", desc := "()I" } : Jvm.MethodName)) ∈ TT := TT_o4 168 (by decide +kernel) (by decide +kernel)
theorem k889 : (Jvm.Cond.selects "KingsBalance" ({ cls := "KingsBalance", name := "image", desc := "()I" } : Jvm.MethodName) ({ cls := "KingsBalance", name := "image", desc := "()I" } : Jvm.MethodName)) ∈ TT := TT_o4 169 (by decide +kernel) (by decide +kernel)
theorem k1333 : (Jvm.Cond.code ({ cls := "KingsBalanceModel", name := "image", desc := "()I" } : Jvm.MethodName) prog_14_method_81_code (2 : Nat) (Option.some Jvm.ClassFile.FieldType.int)) ∈ TT := TT_o6 133 (by decide +kernel) (by decide +kernel)
theorem k1330 : (Jvm.Cond.methodLink "KingsBalanceLaw" (146 : Nat) ({ cls := "KingsBalanceModel", name := "image", desc := "()I" } : Jvm.MethodName)) ∈ TT := TT_o6 130 (by decide +kernel) (by decide +kernel)
theorem k1331 : (Jvm.Cond.instanceMethod ({ cls := "KingsBalanceModel", name := "image", desc := "()I" } : Jvm.MethodName)) ∈ TT := TT_o6 131 (by decide +kernel) (by decide +kernel)
theorem k1332 : (Jvm.Cond.selects "KingsBalanceModel" ({ cls := "KingsBalanceModel", name := "image", desc := "()I" } : Jvm.MethodName) ({ cls := "KingsBalanceModel", name := "image", desc := "()I" } : Jvm.MethodName)) ∈ TT := TT_o6 132 (by decide +kernel) (by decide +kernel)
theorem k905 : (Jvm.Cond.code ({ cls := "KingsBalance", name := "undo", desc := "()I" } : Jvm.MethodName) prog_1_method_33_code (1 : Nat) (Option.some Jvm.ClassFile.FieldType.int)) ∈ TT := TT_o4 185 (by decide +kernel) (by decide +kernel)
theorem k902 : (Jvm.Cond.methodLink "KingsBalanceLaw" (147 : Nat) ({ cls := "KingsBalance", name := "undo", desc := "()I" } : Jvm.MethodName)) ∈ TT := TT_o4 182 (by decide +kernel) (by decide +kernel)
theorem k903 : (Jvm.Cond.instanceMethod ({ cls := "KingsBalance", name := "undo", desc := "()I" } : Jvm.MethodName)) ∈ TT := TT_o4 183 (by decide +kernel) (by decide +kernel)
theorem k904 : (Jvm.Cond.selects "KingsBalance" ({ cls := "KingsBalance", name := "undo", desc := "()I" } : Jvm.MethodName) ({ cls := "KingsBalance", name := "undo", desc := "()I" } : Jvm.MethodName)) ∈ TT := TT_o4 184 (by decide +kernel) (by decide +kernel)
theorem k1337 : (Jvm.Cond.code ({ cls := "KingsBalanceModel", name := "undo", desc := "()I" } : Jvm.MethodName) prog_14_method_82_code (2 : Nat) (Option.some Jvm.ClassFile.FieldType.int)) ∈ TT := TT_o6 137 (by decide +kernel) (by decide +kernel)
theorem k1334 : (Jvm.Cond.methodLink "KingsBalanceLaw" (150 : Nat) ({ cls := "KingsBalanceModel", name := "undo", desc := "()I" } : Jvm.MethodName)) ∈ TT := TT_o6 134 (by decide +kernel) (by decide +kernel)
theorem k1335 : (Jvm.Cond.instanceMethod ({ cls := "KingsBalanceModel", name := "undo", desc := "()I" } : Jvm.MethodName)) ∈ TT := TT_o6 135 (by decide +kernel) (by decide +kernel)
theorem k1336 : (Jvm.Cond.selects "KingsBalanceModel" ({ cls := "KingsBalanceModel", name := "undo", desc := "()I" } : Jvm.MethodName) ({ cls := "KingsBalanceModel", name := "undo", desc := "()I" } : Jvm.MethodName)) ∈ TT := TT_o6 136 (by decide +kernel) (by decide +kernel)
theorem k909 : (Jvm.Cond.code ({ cls := "KingsBalance", name := "count", desc := "(I)I" } : Jvm.MethodName) prog_1_method_34_code (2 : Nat) (Option.some Jvm.ClassFile.FieldType.int)) ∈ TT := TT_o4 189 (by decide +kernel) (by decide +kernel)
theorem k906 : (Jvm.Cond.methodLink "KingsBalanceLaw" (151 : Nat) ({ cls := "KingsBalance", name := "count", desc := "(I)I" } : Jvm.MethodName)) ∈ TT := TT_o4 186 (by decide +kernel) (by decide +kernel)
theorem k907 : (Jvm.Cond.instanceMethod ({ cls := "KingsBalance", name := "count", desc := "(I)I" } : Jvm.MethodName)) ∈ TT := TT_o4 187 (by decide +kernel) (by decide +kernel)
theorem k908 : (Jvm.Cond.selects "KingsBalance" ({ cls := "KingsBalance", name := "count", desc := "(I)I" } : Jvm.MethodName) ({ cls := "KingsBalance", name := "count", desc := "(I)I" } : Jvm.MethodName)) ∈ TT := TT_o4 188 (by decide +kernel) (by decide +kernel)
theorem k1341 : (Jvm.Cond.code ({ cls := "KingsBalanceModel", name := "count", desc := "(I)I" } : Jvm.MethodName) prog_14_method_83_code (2 : Nat) (Option.some Jvm.ClassFile.FieldType.int)) ∈ TT := TT_o6 141 (by decide +kernel) (by decide +kernel)
theorem k1338 : (Jvm.Cond.methodLink "KingsBalanceLaw" (154 : Nat) ({ cls := "KingsBalanceModel", name := "count", desc := "(I)I" } : Jvm.MethodName)) ∈ TT := TT_o6 138 (by decide +kernel) (by decide +kernel)
theorem k1339 : (Jvm.Cond.instanceMethod ({ cls := "KingsBalanceModel", name := "count", desc := "(I)I" } : Jvm.MethodName)) ∈ TT := TT_o6 139 (by decide +kernel) (by decide +kernel)
theorem k1340 : (Jvm.Cond.selects "KingsBalanceModel" ({ cls := "KingsBalanceModel", name := "count", desc := "(I)I" } : Jvm.MethodName) ({ cls := "KingsBalanceModel", name := "count", desc := "(I)I" } : Jvm.MethodName)) ∈ TT := TT_o6 140 (by decide +kernel) (by decide +kernel)
theorem k915 : (Jvm.Cond.methodLink "KingsBalanceModel" (3 : Nat) ({ cls := "java/lang/Object", name := "<init>", desc := "()V" } : Jvm.MethodName)) ∈ TT := TT_o4 195 (by decide +kernel) (by decide +kernel)
theorem k916 : (Jvm.Cond.fieldLink "KingsBalanceModel" (9 : Nat) "KingsBalanceModel" "s" "[I") ∈ TT := TT_o4 196 (by decide +kernel) (by decide +kernel)
theorem k917 : (Jvm.Cond.fieldLink "KingsBalanceModel" (15 : Nat) "KingsBalanceModel" "image" "[I") ∈ TT := TT_o4 197 (by decide +kernel) (by decide +kernel)
theorem k923 : (Jvm.Cond.fieldLink "KingsBalanceModel" (18 : Nat) "KingsBalanceModel" "read" "[I") ∈ TT := TT_o4 203 (by decide +kernel) (by decide +kernel)
theorem k924 : (Jvm.Cond.fieldLink "KingsBalanceModel" (21 : Nat) "KingsBalanceModel" "values" "[I") ∈ TT := TT_o4 204 (by decide +kernel) (by decide +kernel)
theorem k926 : (Jvm.Cond.fieldLink "KingsBalanceModel" (24 : Nat) "KingsBalanceModel" "truths" "[Z") ∈ TT := TT_o4 206 (by decide +kernel) (by decide +kernel)
theorem k927 : (Jvm.Cond.fieldLink "KingsBalanceModel" (28 : Nat) "KingsBalanceModel" "blocks" "[I") ∈ TT := TT_o4 207 (by decide +kernel) (by decide +kernel)
theorem k941 : (Jvm.Cond.fieldLink "KingsBalanceModel" (31 : Nat) "KingsBalanceModel" "daredBy" "[I") ∈ TT := TT_o4 221 (by decide +kernel) (by decide +kernel)
theorem k942 : (Jvm.Cond.fieldLink "KingsBalanceModel" (34 : Nat) "KingsBalanceModel" "bodies" "[I") ∈ TT := TT_o4 222 (by decide +kernel) (by decide +kernel)
theorem k1019 : (Jvm.Cond.code ({ cls := "KingsBalanceModel", name := "in", desc := "(III)Z" } : Jvm.MethodName) prog_14_method_3_code (3 : Nat) (Option.some Jvm.ClassFile.FieldType.boolean)) ∈ TT := TT_o5 59 (by decide +kernel) (by decide +kernel)
theorem k1017 : (Jvm.Cond.methodLink "KingsBalanceModel" (41 : Nat) ({ cls := "KingsBalanceModel", name := "in", desc := "(III)Z" } : Jvm.MethodName)) ∈ TT := TT_o5 57 (by decide +kernel) (by decide +kernel)
theorem k1018 : (Jvm.Cond.static ({ cls := "KingsBalanceModel", name := "in", desc := "(III)Z" } : Jvm.MethodName)) ∈ TT := TT_o5 58 (by decide +kernel) (by decide +kernel)
theorem k1027 : (Jvm.Cond.code ({ cls := "KingsBalanceModel", name := "isKing", desc := "(I)Z" } : Jvm.MethodName) prog_14_method_4_code (2 : Nat) (Option.some Jvm.ClassFile.FieldType.boolean)) ∈ TT := TT_o5 67 (by decide +kernel) (by decide +kernel)
theorem k1024 : (Jvm.Cond.methodLink "KingsBalanceModel" (45 : Nat) ({ cls := "KingsBalanceModel", name := "isKing", desc := "(I)Z" } : Jvm.MethodName)) ∈ TT := TT_o5 64 (by decide +kernel) (by decide +kernel)
theorem k1026 : (Jvm.Cond.instanceMethod ({ cls := "KingsBalanceModel", name := "isKing", desc := "(I)Z" } : Jvm.MethodName)) ∈ TT := TT_o5 66 (by decide +kernel) (by decide +kernel)
theorem s17 : (Cond.selects "KingsBalanceModel" ⟨"KingsBalanceModel", "isKing", "(I)Z"⟩ ⟨"KingsBalanceModel", "isKing", "(I)Z"⟩) ∈ TT := TT_sel 17 (by decide +kernel) (by decide +kernel)
theorem k1035 : (Jvm.Cond.code ({ cls := "KingsBalanceModel", name := "isAlive", desc := "(I)Z" } : Jvm.MethodName) prog_14_method_5_code (2 : Nat) (Option.some Jvm.ClassFile.FieldType.boolean)) ∈ TT := TT_o5 75 (by decide +kernel) (by decide +kernel)
theorem k1032 : (Jvm.Cond.methodLink "KingsBalanceModel" (49 : Nat) ({ cls := "KingsBalanceModel", name := "isAlive", desc := "(I)Z" } : Jvm.MethodName)) ∈ TT := TT_o5 72 (by decide +kernel) (by decide +kernel)
theorem k1034 : (Jvm.Cond.instanceMethod ({ cls := "KingsBalanceModel", name := "isAlive", desc := "(I)Z" } : Jvm.MethodName)) ∈ TT := TT_o5 74 (by decide +kernel) (by decide +kernel)
theorem s18 : (Cond.selects "KingsBalanceModel" ⟨"KingsBalanceModel", "isAlive", "(I)Z"⟩ ⟨"KingsBalanceModel", "isAlive", "(I)Z"⟩) ∈ TT := TT_sel 18 (by decide +kernel) (by decide +kernel)
theorem k919 : (Jvm.Cond.fieldLink "KingsBalanceModel" (54 : Nat) "KingsBalanceModel" "spot" "I") ∈ TT := TT_o4 199 (by decide +kernel) (by decide +kernel)
theorem k920 : (Jvm.Cond.fieldLink "KingsBalanceModel" (57 : Nat) "KingsBalanceModel" "end" "I") ∈ TT := TT_o4 200 (by decide +kernel) (by decide +kernel)
theorem k921 : (Jvm.Cond.fieldLink "KingsBalanceModel" (60 : Nat) "KingsBalanceModel" "isWrong" "Z") ∈ TT := TT_o4 201 (by decide +kernel) (by decide +kernel)
theorem k1060 : (Jvm.Cond.code ({ cls := "KingsBalanceModel", name := "here", desc := "()I" } : Jvm.MethodName) prog_14_method_15_code (1 : Nat) (Option.some Jvm.ClassFile.FieldType.int)) ∈ TT := TT_o5 100 (by decide +kernel) (by decide +kernel)
theorem k1057 : (Jvm.Cond.methodLink "KingsBalanceModel" (64 : Nat) ({ cls := "KingsBalanceModel", name := "here", desc := "()I" } : Jvm.MethodName)) ∈ TT := TT_o5 97 (by decide +kernel) (by decide +kernel)
theorem k1059 : (Jvm.Cond.instanceMethod ({ cls := "KingsBalanceModel", name := "here", desc := "()I" } : Jvm.MethodName)) ∈ TT := TT_o5 99 (by decide +kernel) (by decide +kernel)
theorem s20 : (Cond.selects "KingsBalanceModel" ⟨"KingsBalanceModel", "here", "()I"⟩ ⟨"KingsBalanceModel", "here", "()I"⟩) ∈ TT := TT_sel 20 (by decide +kernel) (by decide +kernel)
theorem k1066 : (Jvm.Cond.methodLink "KingsBalanceModel" (68 : Nat) ({ cls := "java/lang/String", name := "length", desc := "()I" } : Jvm.MethodName)) ∈ TT := TT_o5 106 (by decide +kernel) (by decide +kernel)
theorem k1067 : (Jvm.Cond.methodLink "KingsBalanceModel" (73 : Nat) ({ cls := "java/lang/String", name := "charAt", desc := "(I)C" } : Jvm.MethodName)) ∈ TT := TT_o5 107 (by decide +kernel) (by decide +kernel)
theorem k1071 : (Jvm.Cond.code ({ cls := "KingsBalanceModel", name := "must", desc := "(I)V" } : Jvm.MethodName) prog_14_method_16_code (2 : Nat) (Option.none : Option Jvm.ClassFile.FieldType)) ∈ TT := TT_o5 111 (by decide +kernel) (by decide +kernel)
theorem k1068 : (Jvm.Cond.methodLink "KingsBalanceModel" (77 : Nat) ({ cls := "KingsBalanceModel", name := "must", desc := "(I)V" } : Jvm.MethodName)) ∈ TT := TT_o5 108 (by decide +kernel) (by decide +kernel)
theorem k1070 : (Jvm.Cond.instanceMethod ({ cls := "KingsBalanceModel", name := "must", desc := "(I)V" } : Jvm.MethodName)) ∈ TT := TT_o5 110 (by decide +kernel) (by decide +kernel)
theorem s22 : (Cond.selects "KingsBalanceModel" ⟨"KingsBalanceModel", "must", "(I)V"⟩ ⟨"KingsBalanceModel", "must", "(I)V"⟩) ∈ TT := TT_sel 22 (by decide +kernel) (by decide +kernel)
theorem k925 : (Jvm.Cond.fieldLink "KingsBalanceModel" (81 : Nat) "KingsBalanceModel" "readMany" "I") ∈ TT := TT_o4 205 (by decide +kernel) (by decide +kernel)
theorem k922 : (Jvm.Cond.fieldLink "KingsBalanceModel" (84 : Nat) "KingsBalanceModel" "open" "I") ∈ TT := TT_o4 202 (by decide +kernel) (by decide +kernel)
theorem k1087 : (Jvm.Cond.code ({ cls := "KingsBalanceModel", name := "factor", desc := "()V" } : Jvm.MethodName) prog_14_method_20_code (4 : Nat) (Option.none : Option Jvm.ClassFile.FieldType)) ∈ TT := TT_o5 127 (by decide +kernel) (by decide +kernel)
theorem k1084 : (Jvm.Cond.methodLink "KingsBalanceModel" (87 : Nat) ({ cls := "KingsBalanceModel", name := "factor", desc := "()V" } : Jvm.MethodName)) ∈ TT := TT_o5 124 (by decide +kernel) (by decide +kernel)
theorem k1086 : (Jvm.Cond.instanceMethod ({ cls := "KingsBalanceModel", name := "factor", desc := "()V" } : Jvm.MethodName)) ∈ TT := TT_o5 126 (by decide +kernel) (by decide +kernel)
theorem s26 : (Cond.selects "KingsBalanceModel" ⟨"KingsBalanceModel", "factor", "()V"⟩ ⟨"KingsBalanceModel", "factor", "()V"⟩) ∈ TT := TT_sel 26 (by decide +kernel) (by decide +kernel)
theorem k1091 : (Jvm.Cond.code ({ cls := "KingsBalanceModel", name := "emits", desc := "(I)V" } : Jvm.MethodName) prog_14_method_19_code (2 : Nat) (Option.none : Option Jvm.ClassFile.FieldType)) ∈ TT := TT_o5 131 (by decide +kernel) (by decide +kernel)
theorem k1088 : (Jvm.Cond.methodLink "KingsBalanceModel" (90 : Nat) ({ cls := "KingsBalanceModel", name := "emits", desc := "(I)V" } : Jvm.MethodName)) ∈ TT := TT_o5 128 (by decide +kernel) (by decide +kernel)
theorem k1090 : (Jvm.Cond.instanceMethod ({ cls := "KingsBalanceModel", name := "emits", desc := "(I)V" } : Jvm.MethodName)) ∈ TT := TT_o5 130 (by decide +kernel) (by decide +kernel)
theorem s27 : (Cond.selects "KingsBalanceModel" ⟨"KingsBalanceModel", "emits", "(I)V"⟩ ⟨"KingsBalanceModel", "emits", "(I)V"⟩) ∈ TT := TT_sel 27 (by decide +kernel) (by decide +kernel)
theorem k1079 : (Jvm.Cond.code ({ cls := "KingsBalanceModel", name := "some", desc := "()V" } : Jvm.MethodName) prog_14_method_22_code (1 : Nat) (Option.none : Option Jvm.ClassFile.FieldType)) ∈ TT := TT_o5 119 (by decide +kernel) (by decide +kernel)
theorem k1076 : (Jvm.Cond.methodLink "KingsBalanceModel" (93 : Nat) ({ cls := "KingsBalanceModel", name := "some", desc := "()V" } : Jvm.MethodName)) ∈ TT := TT_o5 116 (by decide +kernel) (by decide +kernel)
theorem k1078 : (Jvm.Cond.instanceMethod ({ cls := "KingsBalanceModel", name := "some", desc := "()V" } : Jvm.MethodName)) ∈ TT := TT_o5 118 (by decide +kernel) (by decide +kernel)
theorem s24 : (Cond.selects "KingsBalanceModel" ⟨"KingsBalanceModel", "some", "()V"⟩ ⟨"KingsBalanceModel", "some", "()V"⟩) ∈ TT := TT_sel 24 (by decide +kernel) (by decide +kernel)
theorem k1075 : (Jvm.Cond.code ({ cls := "KingsBalanceModel", name := "figures", desc := "()I" } : Jvm.MethodName) prog_14_method_18_code (3 : Nat) (Option.some Jvm.ClassFile.FieldType.int)) ∈ TT := TT_o5 115 (by decide +kernel) (by decide +kernel)
theorem k1072 : (Jvm.Cond.methodLink "KingsBalanceModel" (96 : Nat) ({ cls := "KingsBalanceModel", name := "figures", desc := "()I" } : Jvm.MethodName)) ∈ TT := TT_o5 112 (by decide +kernel) (by decide +kernel)
theorem k1074 : (Jvm.Cond.instanceMethod ({ cls := "KingsBalanceModel", name := "figures", desc := "()I" } : Jvm.MethodName)) ∈ TT := TT_o5 114 (by decide +kernel) (by decide +kernel)
theorem s23 : (Cond.selects "KingsBalanceModel" ⟨"KingsBalanceModel", "figures", "()I"⟩ ⟨"KingsBalanceModel", "figures", "()I"⟩) ∈ TT := TT_sel 23 (by decide +kernel) (by decide +kernel)
theorem k1083 : (Jvm.Cond.code ({ cls := "KingsBalanceModel", name := "every", desc := "()V" } : Jvm.MethodName) prog_14_method_21_code (1 : Nat) (Option.none : Option Jvm.ClassFile.FieldType)) ∈ TT := TT_o5 123 (by decide +kernel) (by decide +kernel)
theorem k1080 : (Jvm.Cond.methodLink "KingsBalanceModel" (99 : Nat) ({ cls := "KingsBalanceModel", name := "every", desc := "()V" } : Jvm.MethodName)) ∈ TT := TT_o5 120 (by decide +kernel) (by decide +kernel)
theorem k1082 : (Jvm.Cond.instanceMethod ({ cls := "KingsBalanceModel", name := "every", desc := "()V" } : Jvm.MethodName)) ∈ TT := TT_o5 122 (by decide +kernel) (by decide +kernel)
theorem s25 : (Cond.selects "KingsBalanceModel" ⟨"KingsBalanceModel", "every", "()V"⟩ ⟨"KingsBalanceModel", "every", "()V"⟩) ∈ TT := TT_sel 25 (by decide +kernel) (by decide +kernel)
theorem k1065 : (Jvm.Cond.code ({ cls := "KingsBalanceModel", name := "spells", desc := "(Ljava/lang/String;)V" } : Jvm.MethodName) prog_14_method_17_code (3 : Nat) (Option.none : Option Jvm.ClassFile.FieldType)) ∈ TT := TT_o5 105 (by decide +kernel) (by decide +kernel)
theorem k1062 : (Jvm.Cond.methodLink "KingsBalanceModel" (102 : Nat) ({ cls := "KingsBalanceModel", name := "spells", desc := "(Ljava/lang/String;)V" } : Jvm.MethodName)) ∈ TT := TT_o5 102 (by decide +kernel) (by decide +kernel)
theorem k1064 : (Jvm.Cond.instanceMethod ({ cls := "KingsBalanceModel", name := "spells", desc := "(Ljava/lang/String;)V" } : Jvm.MethodName)) ∈ TT := TT_o5 104 (by decide +kernel) (by decide +kernel)
theorem s21 : (Cond.selects "KingsBalanceModel" ⟨"KingsBalanceModel", "spells", "(Ljava/lang/String;)V"⟩ ⟨"KingsBalanceModel", "spells", "(Ljava/lang/String;)V"⟩) ∈ TT := TT_sel 21 (by decide +kernel) (by decide +kernel)
theorem k1096 : (Jvm.Cond.code ({ cls := "KingsBalanceModel", name := "tells", desc := "(ILjava/lang/String;)V" } : Jvm.MethodName) prog_14_method_23_code (4 : Nat) (Option.none : Option Jvm.ClassFile.FieldType)) ∈ TT := TT_o5 136 (by decide +kernel) (by decide +kernel)
theorem k1093 : (Jvm.Cond.methodLink "KingsBalanceModel" (110 : Nat) ({ cls := "KingsBalanceModel", name := "tells", desc := "(ILjava/lang/String;)V" } : Jvm.MethodName)) ∈ TT := TT_o5 133 (by decide +kernel) (by decide +kernel)
theorem k1095 : (Jvm.Cond.instanceMethod ({ cls := "KingsBalanceModel", name := "tells", desc := "(ILjava/lang/String;)V" } : Jvm.MethodName)) ∈ TT := TT_o5 135 (by decide +kernel) (by decide +kernel)
theorem s28 : (Cond.selects "KingsBalanceModel" ⟨"KingsBalanceModel", "tells", "(ILjava/lang/String;)V"⟩ ⟨"KingsBalanceModel", "tells", "(ILjava/lang/String;)V"⟩) ∈ TT := TT_sel 28 (by decide +kernel) (by decide +kernel)
theorem k1056 : (Jvm.Cond.code ({ cls := "KingsBalanceModel", name := "clause", desc := "()V" } : Jvm.MethodName) prog_14_method_24_code (2 : Nat) (Option.none : Option Jvm.ClassFile.FieldType)) ∈ TT := TT_o5 96 (by decide +kernel) (by decide +kernel)
theorem k1053 : (Jvm.Cond.methodLink "KingsBalanceModel" (118 : Nat) ({ cls := "KingsBalanceModel", name := "clause", desc := "()V" } : Jvm.MethodName)) ∈ TT := TT_o5 93 (by decide +kernel) (by decide +kernel)
theorem k1055 : (Jvm.Cond.instanceMethod ({ cls := "KingsBalanceModel", name := "clause", desc := "()V" } : Jvm.MethodName)) ∈ TT := TT_o5 95 (by decide +kernel) (by decide +kernel)
theorem s19 : (Cond.selects "KingsBalanceModel" ⟨"KingsBalanceModel", "clause", "()V"⟩ ⟨"KingsBalanceModel", "clause", "()V"⟩) ∈ TT := TT_sel 19 (by decide +kernel) (by decide +kernel)
theorem k1109 : (Jvm.Cond.code ({ cls := "KingsBalanceModel", name := "size", desc := "(I)I" } : Jvm.MethodName) prog_14_method_7_code (1 : Nat) (Option.some Jvm.ClassFile.FieldType.int)) ∈ TT := TT_o5 149 (by decide +kernel) (by decide +kernel)
theorem k1107 : (Jvm.Cond.methodLink "KingsBalanceModel" (121 : Nat) ({ cls := "KingsBalanceModel", name := "size", desc := "(I)I" } : Jvm.MethodName)) ∈ TT := TT_o5 147 (by decide +kernel) (by decide +kernel)
theorem k1108 : (Jvm.Cond.static ({ cls := "KingsBalanceModel", name := "size", desc := "(I)I" } : Jvm.MethodName)) ∈ TT := TT_o5 148 (by decide +kernel) (by decide +kernel)
theorem k1106 : (Jvm.Cond.code ({ cls := "KingsBalanceModel", name := "costOf", desc := "(II)I" } : Jvm.MethodName) prog_14_method_26_code (11 : Nat) (Option.some Jvm.ClassFile.FieldType.int)) ∈ TT := TT_o5 146 (by decide +kernel) (by decide +kernel)
theorem k1103 : (Jvm.Cond.methodLink "KingsBalanceModel" (125 : Nat) ({ cls := "KingsBalanceModel", name := "costOf", desc := "(II)I" } : Jvm.MethodName)) ∈ TT := TT_o5 143 (by decide +kernel) (by decide +kernel)
theorem k1105 : (Jvm.Cond.instanceMethod ({ cls := "KingsBalanceModel", name := "costOf", desc := "(II)I" } : Jvm.MethodName)) ∈ TT := TT_o5 145 (by decide +kernel) (by decide +kernel)
theorem s29 : (Cond.selects "KingsBalanceModel" ⟨"KingsBalanceModel", "costOf", "(II)I"⟩ ⟨"KingsBalanceModel", "costOf", "(II)I"⟩) ∈ TT := TT_sel 29 (by decide +kernel) (by decide +kernel)
theorem k1117 : (Jvm.Cond.code ({ cls := "KingsBalanceModel", name := "forceOf", desc := "(II)I" } : Jvm.MethodName) prog_14_method_28_code (4 : Nat) (Option.some Jvm.ClassFile.FieldType.int)) ∈ TT := TT_o5 157 (by decide +kernel) (by decide +kernel)
theorem k1114 : (Jvm.Cond.methodLink "KingsBalanceModel" (129 : Nat) ({ cls := "KingsBalanceModel", name := "forceOf", desc := "(II)I" } : Jvm.MethodName)) ∈ TT := TT_o5 154 (by decide +kernel) (by decide +kernel)
theorem k1116 : (Jvm.Cond.instanceMethod ({ cls := "KingsBalanceModel", name := "forceOf", desc := "(II)I" } : Jvm.MethodName)) ∈ TT := TT_o5 156 (by decide +kernel) (by decide +kernel)
theorem s30 : (Cond.selects "KingsBalanceModel" ⟨"KingsBalanceModel", "forceOf", "(II)I"⟩ ⟨"KingsBalanceModel", "forceOf", "(II)I"⟩) ∈ TT := TT_sel 30 (by decide +kernel) (by decide +kernel)
theorem k1129 : (Jvm.Cond.code ({ cls := "KingsBalanceModel", name := "isStanding", desc := "(I)Z" } : Jvm.MethodName) prog_14_method_6_code (2 : Nat) (Option.some Jvm.ClassFile.FieldType.boolean)) ∈ TT := TT_o5 169 (by decide +kernel) (by decide +kernel)
theorem k1126 : (Jvm.Cond.methodLink "KingsBalanceModel" (132 : Nat) ({ cls := "KingsBalanceModel", name := "isStanding", desc := "(I)Z" } : Jvm.MethodName)) ∈ TT := TT_o5 166 (by decide +kernel) (by decide +kernel)
theorem k1128 : (Jvm.Cond.instanceMethod ({ cls := "KingsBalanceModel", name := "isStanding", desc := "(I)Z" } : Jvm.MethodName)) ∈ TT := TT_o5 168 (by decide +kernel) (by decide +kernel)
theorem s31 : (Cond.selects "KingsBalanceModel" ⟨"KingsBalanceModel", "isStanding", "(I)Z"⟩ ⟨"KingsBalanceModel", "isStanding", "(I)Z"⟩) ∈ TT := TT_sel 31 (by decide +kernel) (by decide +kernel)
theorem k928 : (Jvm.Cond.fieldLink "KingsBalanceModel" (135 : Nat) "KingsBalanceModel" "kind" "I") ∈ TT := TT_o4 208 (by decide +kernel) (by decide +kernel)
theorem k929 : (Jvm.Cond.fieldLink "KingsBalanceModel" (138 : Nat) "KingsBalanceModel" "v" "I") ∈ TT := TT_o4 209 (by decide +kernel) (by decide +kernel)
theorem k1153 : (Jvm.Cond.code ({ cls := "KingsBalanceModel", name := "blockOf", desc := "(I)I" } : Jvm.MethodName) prog_14_method_33_code (4 : Nat) (Option.some Jvm.ClassFile.FieldType.int)) ∈ TT := TT_o5 193 (by decide +kernel) (by decide +kernel)
theorem k1150 : (Jvm.Cond.methodLink "KingsBalanceModel" (141 : Nat) ({ cls := "KingsBalanceModel", name := "blockOf", desc := "(I)I" } : Jvm.MethodName)) ∈ TT := TT_o5 190 (by decide +kernel) (by decide +kernel)
theorem k1152 : (Jvm.Cond.instanceMethod ({ cls := "KingsBalanceModel", name := "blockOf", desc := "(I)I" } : Jvm.MethodName)) ∈ TT := TT_o5 192 (by decide +kernel) (by decide +kernel)
theorem s36 : (Cond.selects "KingsBalanceModel" ⟨"KingsBalanceModel", "blockOf", "(I)I"⟩ ⟨"KingsBalanceModel", "blockOf", "(I)I"⟩) ∈ TT := TT_sel 36 (by decide +kernel) (by decide +kernel)
theorem k930 : (Jvm.Cond.fieldLink "KingsBalanceModel" (144 : Nat) "KingsBalanceModel" "withA" "I") ∈ TT := TT_o4 210 (by decide +kernel) (by decide +kernel)
theorem k931 : (Jvm.Cond.fieldLink "KingsBalanceModel" (147 : Nat) "KingsBalanceModel" "withB" "I") ∈ TT := TT_o4 211 (by decide +kernel) (by decide +kernel)
theorem k1157 : (Jvm.Cond.code ({ cls := "KingsBalanceModel", name := "strengths", desc := "(I)I" } : Jvm.MethodName) prog_14_method_35_code (4 : Nat) (Option.some Jvm.ClassFile.FieldType.int)) ∈ TT := TT_o5 197 (by decide +kernel) (by decide +kernel)
theorem k1154 : (Jvm.Cond.methodLink "KingsBalanceModel" (150 : Nat) ({ cls := "KingsBalanceModel", name := "strengths", desc := "(I)I" } : Jvm.MethodName)) ∈ TT := TT_o5 194 (by decide +kernel) (by decide +kernel)
theorem k1156 : (Jvm.Cond.instanceMethod ({ cls := "KingsBalanceModel", name := "strengths", desc := "(I)I" } : Jvm.MethodName)) ∈ TT := TT_o5 196 (by decide +kernel) (by decide +kernel)
theorem s37 : (Cond.selects "KingsBalanceModel" ⟨"KingsBalanceModel", "strengths", "(I)I"⟩ ⟨"KingsBalanceModel", "strengths", "(I)I"⟩) ∈ TT := TT_sel 37 (by decide +kernel) (by decide +kernel)
theorem k1145 : (Jvm.Cond.code ({ cls := "KingsBalanceModel", name := "alive", desc := "()I" } : Jvm.MethodName) prog_14_method_34_code (3 : Nat) (Option.some Jvm.ClassFile.FieldType.int)) ∈ TT := TT_o5 185 (by decide +kernel) (by decide +kernel)
theorem k1142 : (Jvm.Cond.methodLink "KingsBalanceModel" (153 : Nat) ({ cls := "KingsBalanceModel", name := "alive", desc := "()I" } : Jvm.MethodName)) ∈ TT := TT_o5 182 (by decide +kernel) (by decide +kernel)
theorem k1144 : (Jvm.Cond.instanceMethod ({ cls := "KingsBalanceModel", name := "alive", desc := "()I" } : Jvm.MethodName)) ∈ TT := TT_o5 184 (by decide +kernel) (by decide +kernel)
theorem s34 : (Cond.selects "KingsBalanceModel" ⟨"KingsBalanceModel", "alive", "()I"⟩ ⟨"KingsBalanceModel", "alive", "()I"⟩) ∈ TT := TT_sel 34 (by decide +kernel) (by decide +kernel)
theorem k1165 : (Jvm.Cond.code ({ cls := "KingsBalanceModel", name := "pactOf", desc := "(II)I" } : Jvm.MethodName) prog_14_method_37_code (3 : Nat) (Option.some Jvm.ClassFile.FieldType.int)) ∈ TT := TT_o5 205 (by decide +kernel) (by decide +kernel)
theorem k1162 : (Jvm.Cond.methodLink "KingsBalanceModel" (156 : Nat) ({ cls := "KingsBalanceModel", name := "pactOf", desc := "(II)I" } : Jvm.MethodName)) ∈ TT := TT_o5 202 (by decide +kernel) (by decide +kernel)
theorem k1164 : (Jvm.Cond.instanceMethod ({ cls := "KingsBalanceModel", name := "pactOf", desc := "(II)I" } : Jvm.MethodName)) ∈ TT := TT_o5 204 (by decide +kernel) (by decide +kernel)
theorem s39 : (Cond.selects "KingsBalanceModel" ⟨"KingsBalanceModel", "pactOf", "(II)I"⟩ ⟨"KingsBalanceModel", "pactOf", "(II)I"⟩) ∈ TT := TT_sel 39 (by decide +kernel) (by decide +kernel)
theorem k1169 : (Jvm.Cond.code ({ cls := "KingsBalanceModel", name := "isTrue", desc := "(II)Z" } : Jvm.MethodName) prog_14_method_38_code (3 : Nat) (Option.some Jvm.ClassFile.FieldType.boolean)) ∈ TT := TT_o5 209 (by decide +kernel) (by decide +kernel)
theorem k1166 : (Jvm.Cond.methodLink "KingsBalanceModel" (159 : Nat) ({ cls := "KingsBalanceModel", name := "isTrue", desc := "(II)Z" } : Jvm.MethodName)) ∈ TT := TT_o5 206 (by decide +kernel) (by decide +kernel)
theorem k1168 : (Jvm.Cond.instanceMethod ({ cls := "KingsBalanceModel", name := "isTrue", desc := "(II)Z" } : Jvm.MethodName)) ∈ TT := TT_o5 208 (by decide +kernel) (by decide +kernel)
theorem s40 : (Cond.selects "KingsBalanceModel" ⟨"KingsBalanceModel", "isTrue", "(II)Z"⟩ ⟨"KingsBalanceModel", "isTrue", "(II)Z"⟩) ∈ TT := TT_sel 40 (by decide +kernel) (by decide +kernel)
theorem k1149 : (Jvm.Cond.code ({ cls := "KingsBalanceModel", name := "sides", desc := "(II)V" } : Jvm.MethodName) prog_14_method_36_code (4 : Nat) (Option.none : Option Jvm.ClassFile.FieldType)) ∈ TT := TT_o5 189 (by decide +kernel) (by decide +kernel)
theorem k1146 : (Jvm.Cond.methodLink "KingsBalanceModel" (163 : Nat) ({ cls := "KingsBalanceModel", name := "sides", desc := "(II)V" } : Jvm.MethodName)) ∈ TT := TT_o5 186 (by decide +kernel) (by decide +kernel)
theorem k1148 : (Jvm.Cond.instanceMethod ({ cls := "KingsBalanceModel", name := "sides", desc := "(II)V" } : Jvm.MethodName)) ∈ TT := TT_o5 188 (by decide +kernel) (by decide +kernel)
theorem s35 : (Cond.selects "KingsBalanceModel" ⟨"KingsBalanceModel", "sides", "(II)V"⟩ ⟨"KingsBalanceModel", "sides", "(II)V"⟩) ∈ TT := TT_sel 35 (by decide +kernel) (by decide +kernel)
theorem k1161 : (Jvm.Cond.code ({ cls := "KingsBalanceModel", name := "web", desc := "(II)V" } : Jvm.MethodName) prog_14_method_39_code (9 : Nat) (Option.none : Option Jvm.ClassFile.FieldType)) ∈ TT := TT_o5 201 (by decide +kernel) (by decide +kernel)
theorem k1158 : (Jvm.Cond.methodLink "KingsBalanceModel" (167 : Nat) ({ cls := "KingsBalanceModel", name := "web", desc := "(II)V" } : Jvm.MethodName)) ∈ TT := TT_o5 198 (by decide +kernel) (by decide +kernel)
theorem k1160 : (Jvm.Cond.instanceMethod ({ cls := "KingsBalanceModel", name := "web", desc := "(II)V" } : Jvm.MethodName)) ∈ TT := TT_o5 200 (by decide +kernel) (by decide +kernel)
theorem s38 : (Cond.selects "KingsBalanceModel" ⟨"KingsBalanceModel", "web", "(II)V"⟩ ⟨"KingsBalanceModel", "web", "(II)V"⟩) ∈ TT := TT_sel 38 (by decide +kernel) (by decide +kernel)
theorem k1137 : (Jvm.Cond.code ({ cls := "KingsBalanceModel", name := "takes", desc := "(I)V" } : Jvm.MethodName) prog_14_method_32_code (3 : Nat) (Option.none : Option Jvm.ClassFile.FieldType)) ∈ TT := TT_o5 177 (by decide +kernel) (by decide +kernel)
theorem k1134 : (Jvm.Cond.methodLink "KingsBalanceModel" (170 : Nat) ({ cls := "KingsBalanceModel", name := "takes", desc := "(I)V" } : Jvm.MethodName)) ∈ TT := TT_o5 174 (by decide +kernel) (by decide +kernel)
theorem k1136 : (Jvm.Cond.instanceMethod ({ cls := "KingsBalanceModel", name := "takes", desc := "(I)V" } : Jvm.MethodName)) ∈ TT := TT_o5 176 (by decide +kernel) (by decide +kernel)
theorem s32 : (Cond.selects "KingsBalanceModel" ⟨"KingsBalanceModel", "takes", "(I)V"⟩ ⟨"KingsBalanceModel", "takes", "(I)V"⟩) ∈ TT := TT_sel 32 (by decide +kernel) (by decide +kernel)
theorem k1141 : (Jvm.Cond.code ({ cls := "KingsBalanceModel", name := "comesTo", desc := "(II)V" } : Jvm.MethodName) prog_14_method_40_code (4 : Nat) (Option.none : Option Jvm.ClassFile.FieldType)) ∈ TT := TT_o5 181 (by decide +kernel) (by decide +kernel)
theorem k1138 : (Jvm.Cond.methodLink "KingsBalanceModel" (173 : Nat) ({ cls := "KingsBalanceModel", name := "comesTo", desc := "(II)V" } : Jvm.MethodName)) ∈ TT := TT_o5 178 (by decide +kernel) (by decide +kernel)
theorem k1140 : (Jvm.Cond.instanceMethod ({ cls := "KingsBalanceModel", name := "comesTo", desc := "(II)V" } : Jvm.MethodName)) ∈ TT := TT_o5 180 (by decide +kernel) (by decide +kernel)
theorem s33 : (Cond.selects "KingsBalanceModel" ⟨"KingsBalanceModel", "comesTo", "(II)V"⟩ ⟨"KingsBalanceModel", "comesTo", "(II)V"⟩) ∈ TT := TT_sel 33 (by decide +kernel) (by decide +kernel)
theorem k932 : (Jvm.Cond.fieldLink "KingsBalanceModel" (176 : Nat) "KingsBalanceModel" "sumA" "I") ∈ TT := TT_o4 212 (by decide +kernel) (by decide +kernel)
theorem k933 : (Jvm.Cond.fieldLink "KingsBalanceModel" (179 : Nat) "KingsBalanceModel" "sumB" "I") ∈ TT := TT_o4 213 (by decide +kernel) (by decide +kernel)
theorem k1182 : (Jvm.Cond.code ({ cls := "KingsBalanceModel", name := "sums", desc := "(II)V" } : Jvm.MethodName) prog_14_method_42_code (4 : Nat) (Option.none : Option Jvm.ClassFile.FieldType)) ∈ TT := TT_o5 222 (by decide +kernel) (by decide +kernel)
theorem k1179 : (Jvm.Cond.methodLink "KingsBalanceModel" (182 : Nat) ({ cls := "KingsBalanceModel", name := "sums", desc := "(II)V" } : Jvm.MethodName)) ∈ TT := TT_o5 219 (by decide +kernel) (by decide +kernel)
theorem k1181 : (Jvm.Cond.instanceMethod ({ cls := "KingsBalanceModel", name := "sums", desc := "(II)V" } : Jvm.MethodName)) ∈ TT := TT_o5 221 (by decide +kernel) (by decide +kernel)
theorem s42 : (Cond.selects "KingsBalanceModel" ⟨"KingsBalanceModel", "sums", "(II)V"⟩ ⟨"KingsBalanceModel", "sums", "(II)V"⟩) ∈ TT := TT_sel 42 (by decide +kernel) (by decide +kernel)
theorem k1178 : (Jvm.Cond.code ({ cls := "KingsBalanceModel", name := "gainOf", desc := "(II)I" } : Jvm.MethodName) prog_14_method_43_code (4 : Nat) (Option.some Jvm.ClassFile.FieldType.int)) ∈ TT := TT_o5 218 (by decide +kernel) (by decide +kernel)
theorem k1175 : (Jvm.Cond.methodLink "KingsBalanceModel" (187 : Nat) ({ cls := "KingsBalanceModel", name := "gainOf", desc := "(II)I" } : Jvm.MethodName)) ∈ TT := TT_o5 215 (by decide +kernel) (by decide +kernel)
theorem k1177 : (Jvm.Cond.instanceMethod ({ cls := "KingsBalanceModel", name := "gainOf", desc := "(II)I" } : Jvm.MethodName)) ∈ TT := TT_o5 217 (by decide +kernel) (by decide +kernel)
theorem s41 : (Cond.selects "KingsBalanceModel" ⟨"KingsBalanceModel", "gainOf", "(II)I"⟩ ⟨"KingsBalanceModel", "gainOf", "(II)I"⟩) ∈ TT := TT_sel 41 (by decide +kernel) (by decide +kernel)
theorem k1194 : (Jvm.Cond.code ({ cls := "KingsBalanceModel", name := "doesDare", desc := "(II)Z" } : Jvm.MethodName) prog_14_method_45_code (3 : Nat) (Option.some Jvm.ClassFile.FieldType.boolean)) ∈ TT := TT_o5 234 (by decide +kernel) (by decide +kernel)
theorem k1191 : (Jvm.Cond.methodLink "KingsBalanceModel" (190 : Nat) ({ cls := "KingsBalanceModel", name := "doesDare", desc := "(II)Z" } : Jvm.MethodName)) ∈ TT := TT_o5 231 (by decide +kernel) (by decide +kernel)
theorem k1193 : (Jvm.Cond.instanceMethod ({ cls := "KingsBalanceModel", name := "doesDare", desc := "(II)Z" } : Jvm.MethodName)) ∈ TT := TT_o5 233 (by decide +kernel) (by decide +kernel)
theorem s44 : (Cond.selects "KingsBalanceModel" ⟨"KingsBalanceModel", "doesDare", "(II)Z"⟩ ⟨"KingsBalanceModel", "doesDare", "(II)Z"⟩) ∈ TT := TT_sel 44 (by decide +kernel) (by decide +kernel)
theorem k1190 : (Jvm.Cond.code ({ cls := "KingsBalanceModel", name := "darers", desc := "(I)I" } : Jvm.MethodName) prog_14_method_46_code (4 : Nat) (Option.some Jvm.ClassFile.FieldType.int)) ∈ TT := TT_o5 230 (by decide +kernel) (by decide +kernel)
theorem k1187 : (Jvm.Cond.methodLink "KingsBalanceModel" (193 : Nat) ({ cls := "KingsBalanceModel", name := "darers", desc := "(I)I" } : Jvm.MethodName)) ∈ TT := TT_o5 227 (by decide +kernel) (by decide +kernel)
theorem k1189 : (Jvm.Cond.instanceMethod ({ cls := "KingsBalanceModel", name := "darers", desc := "(I)I" } : Jvm.MethodName)) ∈ TT := TT_o5 229 (by decide +kernel) (by decide +kernel)
theorem s43 : (Cond.selects "KingsBalanceModel" ⟨"KingsBalanceModel", "darers", "(I)I"⟩ ⟨"KingsBalanceModel", "darers", "(I)I"⟩) ∈ TT := TT_sel 43 (by decide +kernel) (by decide +kernel)
theorem k1202 : (Jvm.Cond.code ({ cls := "KingsBalanceModel", name := "firstWar", desc := "()I" } : Jvm.MethodName) prog_14_method_48_code (3 : Nat) (Option.some Jvm.ClassFile.FieldType.int)) ∈ TT := TT_o6 2 (by decide +kernel) (by decide +kernel)
theorem k1199 : (Jvm.Cond.methodLink "KingsBalanceModel" (196 : Nat) ({ cls := "KingsBalanceModel", name := "firstWar", desc := "()I" } : Jvm.MethodName)) ∈ TT := TT_o5 239 (by decide +kernel) (by decide +kernel)
theorem k1201 : (Jvm.Cond.instanceMethod ({ cls := "KingsBalanceModel", name := "firstWar", desc := "()I" } : Jvm.MethodName)) ∈ TT := TT_o6 1 (by decide +kernel) (by decide +kernel)
theorem s45 : (Cond.selects "KingsBalanceModel" ⟨"KingsBalanceModel", "firstWar", "()I"⟩ ⟨"KingsBalanceModel", "firstWar", "()I"⟩) ∈ TT := TT_sel 45 (by decide +kernel) (by decide +kernel)
theorem k1210 : (Jvm.Cond.code ({ cls := "KingsBalanceModel", name := "doesKeep", desc := "(III)Z" } : Jvm.MethodName) prog_14_method_50_code (5 : Nat) (Option.some Jvm.ClassFile.FieldType.boolean)) ∈ TT := TT_o6 10 (by decide +kernel) (by decide +kernel)
theorem k1207 : (Jvm.Cond.methodLink "KingsBalanceModel" (199 : Nat) ({ cls := "KingsBalanceModel", name := "doesKeep", desc := "(III)Z" } : Jvm.MethodName)) ∈ TT := TT_o6 7 (by decide +kernel) (by decide +kernel)
theorem k1209 : (Jvm.Cond.instanceMethod ({ cls := "KingsBalanceModel", name := "doesKeep", desc := "(III)Z" } : Jvm.MethodName)) ∈ TT := TT_o6 9 (by decide +kernel) (by decide +kernel)
theorem s46 : (Cond.selects "KingsBalanceModel" ⟨"KingsBalanceModel", "doesKeep", "(III)Z"⟩ ⟨"KingsBalanceModel", "doesKeep", "(III)Z"⟩) ∈ TT := TT_sel 46 (by decide +kernel) (by decide +kernel)
theorem k1237 : (Jvm.Cond.code ({ cls := "KingsBalanceModel", name := "doesDareAny", desc := "(I)Z" } : Jvm.MethodName) prog_14_method_53_code (4 : Nat) (Option.some Jvm.ClassFile.FieldType.boolean)) ∈ TT := TT_o6 37 (by decide +kernel) (by decide +kernel)
theorem k1234 : (Jvm.Cond.methodLink "KingsBalanceModel" (202 : Nat) ({ cls := "KingsBalanceModel", name := "doesDareAny", desc := "(I)Z" } : Jvm.MethodName)) ∈ TT := TT_o6 34 (by decide +kernel) (by decide +kernel)
theorem k1236 : (Jvm.Cond.instanceMethod ({ cls := "KingsBalanceModel", name := "doesDareAny", desc := "(I)Z" } : Jvm.MethodName)) ∈ TT := TT_o6 36 (by decide +kernel) (by decide +kernel)
theorem s50 : (Cond.selects "KingsBalanceModel" ⟨"KingsBalanceModel", "doesDareAny", "(I)Z"⟩ ⟨"KingsBalanceModel", "doesDareAny", "(I)Z"⟩) ∈ TT := TT_sel 50 (by decide +kernel) (by decide +kernel)
theorem k934 : (Jvm.Cond.fieldLink "KingsBalanceModel" (205 : Nat) "KingsBalanceModel" "allMany" "I") ∈ TT := TT_o4 214 (by decide +kernel) (by decide +kernel)
theorem k1233 : (Jvm.Cond.code ({ cls := "KingsBalanceModel", name := "wouldHold", desc := "(I)Z" } : Jvm.MethodName) prog_14_method_54_code (6 : Nat) (Option.some Jvm.ClassFile.FieldType.boolean)) ∈ TT := TT_o6 33 (by decide +kernel) (by decide +kernel)
theorem k1230 : (Jvm.Cond.methodLink "KingsBalanceModel" (208 : Nat) ({ cls := "KingsBalanceModel", name := "wouldHold", desc := "(I)Z" } : Jvm.MethodName)) ∈ TT := TT_o6 30 (by decide +kernel) (by decide +kernel)
theorem k1232 : (Jvm.Cond.instanceMethod ({ cls := "KingsBalanceModel", name := "wouldHold", desc := "(I)Z" } : Jvm.MethodName)) ∈ TT := TT_o6 32 (by decide +kernel) (by decide +kernel)
theorem s49 : (Cond.selects "KingsBalanceModel" ⟨"KingsBalanceModel", "wouldHold", "(I)Z"⟩ ⟨"KingsBalanceModel", "wouldHold", "(I)Z"⟩) ∈ TT := TT_sel 49 (by decide +kernel) (by decide +kernel)
theorem k939 : (Jvm.Cond.fieldLink "KingsBalanceModel" (211 : Nat) "KingsBalanceModel" "wantsHold" "Z") ∈ TT := TT_o4 219 (by decide +kernel) (by decide +kernel)
theorem k936 : (Jvm.Cond.fieldLink "KingsBalanceModel" (214 : Nat) "KingsBalanceModel" "holdMany" "I") ∈ TT := TT_o4 216 (by decide +kernel) (by decide +kernel)
theorem k935 : (Jvm.Cond.fieldLink "KingsBalanceModel" (217 : Nat) "KingsBalanceModel" "quietMany" "I") ∈ TT := TT_o4 215 (by decide +kernel) (by decide +kernel)
theorem k937 : (Jvm.Cond.fieldLink "KingsBalanceModel" (220 : Nat) "KingsBalanceModel" "wanted" "I") ∈ TT := TT_o4 217 (by decide +kernel) (by decide +kernel)
theorem k938 : (Jvm.Cond.fieldLink "KingsBalanceModel" (223 : Nat) "KingsBalanceModel" "wantedKing" "I") ∈ TT := TT_o4 218 (by decide +kernel) (by decide +kernel)
theorem k940 : (Jvm.Cond.fieldLink "KingsBalanceModel" (226 : Nat) "KingsBalanceModel" "found" "I") ∈ TT := TT_o4 220 (by decide +kernel) (by decide +kernel)
theorem k1229 : (Jvm.Cond.code ({ cls := "KingsBalanceModel", name := "parts", desc := "(II)V" } : Jvm.MethodName) prog_14_method_55_code (5 : Nat) (Option.none : Option Jvm.ClassFile.FieldType)) ∈ TT := TT_o6 29 (by decide +kernel) (by decide +kernel)
theorem k1226 : (Jvm.Cond.methodLink "KingsBalanceModel" (229 : Nat) ({ cls := "KingsBalanceModel", name := "parts", desc := "(II)V" } : Jvm.MethodName)) ∈ TT := TT_o6 26 (by decide +kernel) (by decide +kernel)
theorem k1228 : (Jvm.Cond.instanceMethod ({ cls := "KingsBalanceModel", name := "parts", desc := "(II)V" } : Jvm.MethodName)) ∈ TT := TT_o6 28 (by decide +kernel) (by decide +kernel)
theorem s48 : (Cond.selects "KingsBalanceModel" ⟨"KingsBalanceModel", "parts", "(II)V"⟩ ⟨"KingsBalanceModel", "parts", "(II)V"⟩) ∈ TT := TT_sel 48 (by decide +kernel) (by decide +kernel)
theorem k1221 : (Jvm.Cond.code ({ cls := "KingsBalanceModel", name := "count1", desc := "(I)I" } : Jvm.MethodName) prog_14_method_8_code (3 : Nat) (Option.some Jvm.ClassFile.FieldType.int)) ∈ TT := TT_o6 21 (by decide +kernel) (by decide +kernel)
theorem k1219 : (Jvm.Cond.methodLink "KingsBalanceModel" (232 : Nat) ({ cls := "KingsBalanceModel", name := "count1", desc := "(I)I" } : Jvm.MethodName)) ∈ TT := TT_o6 19 (by decide +kernel) (by decide +kernel)
theorem k1220 : (Jvm.Cond.static ({ cls := "KingsBalanceModel", name := "count1", desc := "(I)I" } : Jvm.MethodName)) ∈ TT := TT_o6 20 (by decide +kernel) (by decide +kernel)
theorem k1225 : (Jvm.Cond.code ({ cls := "KingsBalanceModel", name := "partsAll", desc := "(IIZ)V" } : Jvm.MethodName) prog_14_method_56_code (4 : Nat) (Option.none : Option Jvm.ClassFile.FieldType)) ∈ TT := TT_o6 25 (by decide +kernel) (by decide +kernel)
theorem k1222 : (Jvm.Cond.methodLink "KingsBalanceModel" (235 : Nat) ({ cls := "KingsBalanceModel", name := "partsAll", desc := "(IIZ)V" } : Jvm.MethodName)) ∈ TT := TT_o6 22 (by decide +kernel) (by decide +kernel)
theorem k1224 : (Jvm.Cond.instanceMethod ({ cls := "KingsBalanceModel", name := "partsAll", desc := "(IIZ)V" } : Jvm.MethodName)) ∈ TT := TT_o6 24 (by decide +kernel) (by decide +kernel)
theorem s47 : (Cond.selects "KingsBalanceModel" ⟨"KingsBalanceModel", "partsAll", "(IIZ)V"⟩ ⟨"KingsBalanceModel", "partsAll", "(IIZ)V"⟩) ∈ TT := TT_sel 47 (by decide +kernel) (by decide +kernel)
theorem k1249 : (Jvm.Cond.code ({ cls := "KingsBalanceModel", name := "leads", desc := "(II)I" } : Jvm.MethodName) prog_14_method_59_code (13 : Nat) (Option.some Jvm.ClassFile.FieldType.int)) ∈ TT := TT_o6 49 (by decide +kernel) (by decide +kernel)
theorem k1246 : (Jvm.Cond.methodLink "KingsBalanceModel" (241 : Nat) ({ cls := "KingsBalanceModel", name := "leads", desc := "(II)I" } : Jvm.MethodName)) ∈ TT := TT_o6 46 (by decide +kernel) (by decide +kernel)
theorem k1248 : (Jvm.Cond.instanceMethod ({ cls := "KingsBalanceModel", name := "leads", desc := "(II)I" } : Jvm.MethodName)) ∈ TT := TT_o6 48 (by decide +kernel) (by decide +kernel)
theorem s51 : (Cond.selects "KingsBalanceModel" ⟨"KingsBalanceModel", "leads", "(II)I"⟩ ⟨"KingsBalanceModel", "leads", "(II)I"⟩) ∈ TT := TT_sel 51 (by decide +kernel) (by decide +kernel)
theorem k1262 : (Jvm.Cond.code ({ cls := "KingsBalanceModel", name := "turnsOf", desc := "(I)I" } : Jvm.MethodName) prog_14_method_62_code (7 : Nat) (Option.some Jvm.ClassFile.FieldType.int)) ∈ TT := TT_o6 62 (by decide +kernel) (by decide +kernel)
theorem k1259 : (Jvm.Cond.methodLink "KingsBalanceModel" (244 : Nat) ({ cls := "KingsBalanceModel", name := "turnsOf", desc := "(I)I" } : Jvm.MethodName)) ∈ TT := TT_o6 59 (by decide +kernel) (by decide +kernel)
theorem k1261 : (Jvm.Cond.instanceMethod ({ cls := "KingsBalanceModel", name := "turnsOf", desc := "(I)I" } : Jvm.MethodName)) ∈ TT := TT_o6 61 (by decide +kernel) (by decide +kernel)
theorem s52 : (Cond.selects "KingsBalanceModel" ⟨"KingsBalanceModel", "turnsOf", "(I)I"⟩ ⟨"KingsBalanceModel", "turnsOf", "(I)I"⟩) ∈ TT := TT_sel 52 (by decide +kernel) (by decide +kernel)
theorem k1278 : (Jvm.Cond.code ({ cls := "KingsBalanceModel", name := "isQuietWith", desc := "(II)Z" } : Jvm.MethodName) prog_14_method_66_code (4 : Nat) (Option.some Jvm.ClassFile.FieldType.boolean)) ∈ TT := TT_o6 78 (by decide +kernel) (by decide +kernel)
theorem k1275 : (Jvm.Cond.methodLink "KingsBalanceModel" (247 : Nat) ({ cls := "KingsBalanceModel", name := "isQuietWith", desc := "(II)Z" } : Jvm.MethodName)) ∈ TT := TT_o6 75 (by decide +kernel) (by decide +kernel)
theorem k1277 : (Jvm.Cond.instanceMethod ({ cls := "KingsBalanceModel", name := "isQuietWith", desc := "(II)Z" } : Jvm.MethodName)) ∈ TT := TT_o6 77 (by decide +kernel) (by decide +kernel)
theorem s53 : (Cond.selects "KingsBalanceModel" ⟨"KingsBalanceModel", "isQuietWith", "(II)Z"⟩ ⟨"KingsBalanceModel", "isQuietWith", "(II)Z"⟩) ∈ TT := TT_sel 53 (by decide +kernel) (by decide +kernel)
theorem k943 : (Jvm.Cond.fieldLink "KingsBalanceModel" (250 : Nat) "KingsBalanceModel" "ran" "I") ∈ TT := TT_o4 223 (by decide +kernel) (by decide +kernel)
theorem k1298 : (Jvm.Cond.code ({ cls := "KingsBalanceModel", name := "runs", desc := "(I)V" } : Jvm.MethodName) prog_14_method_70_code (2 : Nat) (Option.none : Option Jvm.ClassFile.FieldType)) ∈ TT := TT_o6 98 (by decide +kernel) (by decide +kernel)
theorem k1295 : (Jvm.Cond.methodLink "KingsBalanceModel" (253 : Nat) ({ cls := "KingsBalanceModel", name := "runs", desc := "(I)V" } : Jvm.MethodName)) ∈ TT := TT_o6 95 (by decide +kernel) (by decide +kernel)
theorem k1297 : (Jvm.Cond.instanceMethod ({ cls := "KingsBalanceModel", name := "runs", desc := "(I)V" } : Jvm.MethodName)) ∈ TT := TT_o6 97 (by decide +kernel) (by decide +kernel)
theorem s55 : (Cond.selects "KingsBalanceModel" ⟨"KingsBalanceModel", "runs", "(I)V"⟩ ⟨"KingsBalanceModel", "runs", "(I)V"⟩) ∈ TT := TT_sel 55 (by decide +kernel) (by decide +kernel)
theorem k945 : (Jvm.Cond.fieldLink "KingsBalanceModel" (256 : Nat) "KingsBalanceModel" "who" "I") ∈ TT := TT_o4 225 (by decide +kernel) (by decide +kernel)
theorem k944 : (Jvm.Cond.fieldLink "KingsBalanceModel" (259 : Nat) "KingsBalanceModel" "kindNow" "I") ∈ TT := TT_o4 224 (by decide +kernel) (by decide +kernel)
theorem k1302 : (Jvm.Cond.code ({ cls := "KingsBalanceModel", name := "plainComes", desc := "(I)I" } : Jvm.MethodName) prog_14_method_72_code (2 : Nat) (Option.some Jvm.ClassFile.FieldType.int)) ∈ TT := TT_o6 102 (by decide +kernel) (by decide +kernel)
theorem k1299 : (Jvm.Cond.methodLink "KingsBalanceModel" (262 : Nat) ({ cls := "KingsBalanceModel", name := "plainComes", desc := "(I)I" } : Jvm.MethodName)) ∈ TT := TT_o6 99 (by decide +kernel) (by decide +kernel)
theorem k1301 : (Jvm.Cond.instanceMethod ({ cls := "KingsBalanceModel", name := "plainComes", desc := "(I)I" } : Jvm.MethodName)) ∈ TT := TT_o6 101 (by decide +kernel) (by decide +kernel)
theorem s56 : (Cond.selects "KingsBalanceModel" ⟨"KingsBalanceModel", "plainComes", "(I)I"⟩ ⟨"KingsBalanceModel", "plainComes", "(I)I"⟩) ∈ TT := TT_sel 56 (by decide +kernel) (by decide +kernel)
theorem k1305 : (Jvm.Cond.code ({ cls := "KingsBalanceModel", name := "isUnder", desc := "(II)Z" } : Jvm.MethodName) prog_14_method_71_code (2 : Nat) (Option.some Jvm.ClassFile.FieldType.boolean)) ∈ TT := TT_o6 105 (by decide +kernel) (by decide +kernel)
theorem k1303 : (Jvm.Cond.methodLink "KingsBalanceModel" (265 : Nat) ({ cls := "KingsBalanceModel", name := "isUnder", desc := "(II)Z" } : Jvm.MethodName)) ∈ TT := TT_o6 103 (by decide +kernel) (by decide +kernel)
theorem k1304 : (Jvm.Cond.static ({ cls := "KingsBalanceModel", name := "isUnder", desc := "(II)Z" } : Jvm.MethodName)) ∈ TT := TT_o6 104 (by decide +kernel) (by decide +kernel)
theorem k1294 : (Jvm.Cond.code ({ cls := "KingsBalanceModel", name := "comesActs", desc := "(I)I" } : Jvm.MethodName) prog_14_method_73_code (2 : Nat) (Option.some Jvm.ClassFile.FieldType.int)) ∈ TT := TT_o6 94 (by decide +kernel) (by decide +kernel)
theorem k1291 : (Jvm.Cond.methodLink "KingsBalanceModel" (268 : Nat) ({ cls := "KingsBalanceModel", name := "comesActs", desc := "(I)I" } : Jvm.MethodName)) ∈ TT := TT_o6 91 (by decide +kernel) (by decide +kernel)
theorem k1293 : (Jvm.Cond.instanceMethod ({ cls := "KingsBalanceModel", name := "comesActs", desc := "(I)I" } : Jvm.MethodName)) ∈ TT := TT_o6 93 (by decide +kernel) (by decide +kernel)
theorem s54 : (Cond.selects "KingsBalanceModel" ⟨"KingsBalanceModel", "comesActs", "(I)I"⟩ ⟨"KingsBalanceModel", "comesActs", "(I)I"⟩) ∈ TT := TT_sel 54 (by decide +kernel) (by decide +kernel)
theorem k946 : (Jvm.Cond.fieldLink "KingsBalanceModel" (271 : Nat) "KingsBalanceModel" "tellsV" "I") ∈ TT := TT_o4 226 (by decide +kernel) (by decide +kernel)
theorem k1313 : (Jvm.Cond.code ({ cls := "KingsBalanceModel", name := "plainDares", desc := "(I)I" } : Jvm.MethodName) prog_14_method_74_code (2 : Nat) (Option.some Jvm.ClassFile.FieldType.int)) ∈ TT := TT_o6 113 (by decide +kernel) (by decide +kernel)
theorem k1310 : (Jvm.Cond.methodLink "KingsBalanceModel" (274 : Nat) ({ cls := "KingsBalanceModel", name := "plainDares", desc := "(I)I" } : Jvm.MethodName)) ∈ TT := TT_o6 110 (by decide +kernel) (by decide +kernel)
theorem k1312 : (Jvm.Cond.instanceMethod ({ cls := "KingsBalanceModel", name := "plainDares", desc := "(I)I" } : Jvm.MethodName)) ∈ TT := TT_o6 112 (by decide +kernel) (by decide +kernel)
theorem s58 : (Cond.selects "KingsBalanceModel" ⟨"KingsBalanceModel", "plainDares", "(I)I"⟩ ⟨"KingsBalanceModel", "plainDares", "(I)I"⟩) ∈ TT := TT_sel 58 (by decide +kernel) (by decide +kernel)
theorem k1309 : (Jvm.Cond.code ({ cls := "KingsBalanceModel", name := "daresActs", desc := "(I)I" } : Jvm.MethodName) prog_14_method_75_code (2 : Nat) (Option.some Jvm.ClassFile.FieldType.int)) ∈ TT := TT_o6 109 (by decide +kernel) (by decide +kernel)
theorem k1306 : (Jvm.Cond.methodLink "KingsBalanceModel" (277 : Nat) ({ cls := "KingsBalanceModel", name := "daresActs", desc := "(I)I" } : Jvm.MethodName)) ∈ TT := TT_o6 106 (by decide +kernel) (by decide +kernel)
theorem k1308 : (Jvm.Cond.instanceMethod ({ cls := "KingsBalanceModel", name := "daresActs", desc := "(I)I" } : Jvm.MethodName)) ∈ TT := TT_o6 108 (by decide +kernel) (by decide +kernel)
theorem s57 : (Cond.selects "KingsBalanceModel" ⟨"KingsBalanceModel", "daresActs", "(I)I"⟩ ⟨"KingsBalanceModel", "daresActs", "(I)I"⟩) ∈ TT := TT_sel 57 (by decide +kernel) (by decide +kernel)
theorem k1321 : (Jvm.Cond.code ({ cls := "KingsBalanceModel", name := "plainHolds", desc := "(I)I" } : Jvm.MethodName) prog_14_method_76_code (2 : Nat) (Option.some Jvm.ClassFile.FieldType.int)) ∈ TT := TT_o6 121 (by decide +kernel) (by decide +kernel)
theorem k1318 : (Jvm.Cond.methodLink "KingsBalanceModel" (280 : Nat) ({ cls := "KingsBalanceModel", name := "plainHolds", desc := "(I)I" } : Jvm.MethodName)) ∈ TT := TT_o6 118 (by decide +kernel) (by decide +kernel)
theorem k1320 : (Jvm.Cond.instanceMethod ({ cls := "KingsBalanceModel", name := "plainHolds", desc := "(I)I" } : Jvm.MethodName)) ∈ TT := TT_o6 120 (by decide +kernel) (by decide +kernel)
theorem s60 : (Cond.selects "KingsBalanceModel" ⟨"KingsBalanceModel", "plainHolds", "(I)I"⟩ ⟨"KingsBalanceModel", "plainHolds", "(I)I"⟩) ∈ TT := TT_sel 60 (by decide +kernel) (by decide +kernel)
theorem k1317 : (Jvm.Cond.code ({ cls := "KingsBalanceModel", name := "holdsActs", desc := "(I)I" } : Jvm.MethodName) prog_14_method_77_code (3 : Nat) (Option.some Jvm.ClassFile.FieldType.int)) ∈ TT := TT_o6 117 (by decide +kernel) (by decide +kernel)
theorem k1314 : (Jvm.Cond.methodLink "KingsBalanceModel" (283 : Nat) ({ cls := "KingsBalanceModel", name := "holdsActs", desc := "(I)I" } : Jvm.MethodName)) ∈ TT := TT_o6 114 (by decide +kernel) (by decide +kernel)
theorem k1316 : (Jvm.Cond.instanceMethod ({ cls := "KingsBalanceModel", name := "holdsActs", desc := "(I)I" } : Jvm.MethodName)) ∈ TT := TT_o6 116 (by decide +kernel) (by decide +kernel)
theorem s59 : (Cond.selects "KingsBalanceModel" ⟨"KingsBalanceModel", "holdsActs", "(I)I"⟩ ⟨"KingsBalanceModel", "holdsActs", "(I)I"⟩) ∈ TT := TT_sel 59 (by decide +kernel) (by decide +kernel)
theorem k918 : (Jvm.Cond.fieldLink "KingsBalanceModel" (286 : Nat) "KingsBalanceModel" "hasImage" "Z") ∈ TT := TT_o4 198 (by decide +kernel) (by decide +kernel)
theorem k1358 : (Jvm.Cond.fieldLink "java/lang/String" (9 : Nat) "java/lang/String" "value" "[B") ∈ TT := TT_o6 158 (by decide +kernel) (by decide +kernel)
theorem k1359 : (Jvm.Cond.fieldLink "java/lang/String" (15 : Nat) "java/lang/String" "coder" "B") ∈ TT := TT_o6 159 (by decide +kernel) (by decide +kernel)
theorem k313 : (Jvm.Cond.fieldLink "java/lang/String" (38 : Nat) "java/lang/String" "COMPACT_STRINGS" "Z") ∈ TT := TT_o2 73 (by decide +kernel) (by decide +kernel)
theorem k312 : (Jvm.Cond.code ({ cls := "java/lang/String", name := "coder", desc := "()B" } : Jvm.MethodName) prog_17_method_152_code (1 : Nat) (Option.some Jvm.ClassFile.FieldType.byte)) ∈ TT := TT_o2 72 (by decide +kernel) (by decide +kernel)
theorem k309 : (Jvm.Cond.methodLink "java/lang/String" (335 : Nat) ({ cls := "java/lang/String", name := "coder", desc := "()B" } : Jvm.MethodName)) ∈ TT := TT_o2 69 (by decide +kernel) (by decide +kernel)
theorem k310 : (Jvm.Cond.instanceMethod ({ cls := "java/lang/String", name := "coder", desc := "()B" } : Jvm.MethodName)) ∈ TT := TT_o2 70 (by decide +kernel) (by decide +kernel)
theorem k311 : (Jvm.Cond.selects "java/lang/String" ({ cls := "java/lang/String", name := "coder", desc := "()B" } : Jvm.MethodName) ({ cls := "java/lang/String", name := "coder", desc := "()B" } : Jvm.MethodName)) ∈ TT := TT_o2 71 (by decide +kernel) (by decide +kernel)
theorem k322 : (Jvm.Cond.code ({ cls := "java/lang/String", name := "isLatin1", desc := "()Z" } : Jvm.MethodName) prog_17_method_154_code (1 : Nat) (Option.some Jvm.ClassFile.FieldType.boolean)) ∈ TT := TT_o2 82 (by decide +kernel) (by decide +kernel)
theorem k319 : (Jvm.Cond.methodLink "java/lang/String" (492 : Nat) ({ cls := "java/lang/String", name := "isLatin1", desc := "()Z" } : Jvm.MethodName)) ∈ TT := TT_o2 79 (by decide +kernel) (by decide +kernel)
theorem k320 : (Jvm.Cond.instanceMethod ({ cls := "java/lang/String", name := "isLatin1", desc := "()Z" } : Jvm.MethodName)) ∈ TT := TT_o2 80 (by decide +kernel) (by decide +kernel)
theorem k321 : (Jvm.Cond.selects "java/lang/String" ({ cls := "java/lang/String", name := "isLatin1", desc := "()Z" } : Jvm.MethodName) ({ cls := "java/lang/String", name := "isLatin1", desc := "()Z" } : Jvm.MethodName)) ∈ TT := TT_o2 81 (by decide +kernel) (by decide +kernel)
theorem k10 : (Jvm.Cond.initialized "java/lang/StringLatin1") ∈ TT := TT_o1 10 (by decide +kernel) (by decide +kernel)
theorem k325 : (Jvm.Cond.code ({ cls := "java/lang/StringLatin1", name := "charAt", desc := "([BI)C" } : Jvm.MethodName) prog_18_method_2_code (2 : Nat) (Option.some Jvm.ClassFile.FieldType.char)) ∈ TT := TT_o2 85 (by decide +kernel) (by decide +kernel)
theorem k323 : (Jvm.Cond.methodLink "java/lang/String" (495 : Nat) ({ cls := "java/lang/StringLatin1", name := "charAt", desc := "([BI)C" } : Jvm.MethodName)) ∈ TT := TT_o2 83 (by decide +kernel) (by decide +kernel)
theorem k324 : (Jvm.Cond.static ({ cls := "java/lang/StringLatin1", name := "charAt", desc := "([BI)C" } : Jvm.MethodName)) ∈ TT := TT_o2 84 (by decide +kernel) (by decide +kernel)
theorem k12 : (Jvm.Cond.initialized "java/lang/StringUTF16") ∈ TT := TT_o1 12 (by decide +kernel) (by decide +kernel)
theorem k336 : (Jvm.Cond.code ({ cls := "java/lang/StringUTF16", name := "charAt", desc := "([BI)C" } : Jvm.MethodName) prog_19_method_83_code (2 : Nat) (Option.some Jvm.ClassFile.FieldType.char)) ∈ TT := TT_o2 96 (by decide +kernel) (by decide +kernel)
theorem k334 : (Jvm.Cond.methodLink "java/lang/String" (498 : Nat) ({ cls := "java/lang/StringUTF16", name := "charAt", desc := "([BI)C" } : Jvm.MethodName)) ∈ TT := TT_o2 94 (by decide +kernel) (by decide +kernel)
theorem k335 : (Jvm.Cond.static ({ cls := "java/lang/StringUTF16", name := "charAt", desc := "([BI)C" } : Jvm.MethodName)) ∈ TT := TT_o2 95 (by decide +kernel) (by decide +kernel)
theorem k329 : (Jvm.Cond.fieldLink "java/lang/String" (1053 : Nat) "jdk/internal/util/Preconditions" "SIOOBE_FORMATTER" "Ljava/util/function/BiFunction;") ∈ TT := TT_o2 89 (by decide +kernel) (by decide +kernel)
theorem k11 : (Jvm.Cond.initialized "jdk/internal/util/Preconditions") ∈ TT := TT_o1 11 (by decide +kernel) (by decide +kernel)
theorem k333 : (Jvm.Cond.code ({ cls := "jdk/internal/util/Preconditions", name := "checkIndex", desc := "(IILjava/util/function/BiFunction;)I" } : Jvm.MethodName) prog_21_method_11_code (3 : Nat) (Option.some Jvm.ClassFile.FieldType.int)) ∈ TT := TT_o2 93 (by decide +kernel) (by decide +kernel)
theorem k331 : (Jvm.Cond.methodLink "java/lang/String" (1059 : Nat) ({ cls := "jdk/internal/util/Preconditions", name := "checkIndex", desc := "(IILjava/util/function/BiFunction;)I" } : Jvm.MethodName)) ∈ TT := TT_o2 91 (by decide +kernel) (by decide +kernel)
theorem k332 : (Jvm.Cond.static ({ cls := "jdk/internal/util/Preconditions", name := "checkIndex", desc := "(IILjava/util/function/BiFunction;)I" } : Jvm.MethodName)) ∈ TT := TT_o2 92 (by decide +kernel) (by decide +kernel)
theorem k328 : (Jvm.Cond.code ({ cls := "java/lang/String", name := "checkIndex", desc := "(II)V" } : Jvm.MethodName) prog_17_method_155_code (2 : Nat) (Option.none : Option Jvm.ClassFile.FieldType)) ∈ TT := TT_o2 88 (by decide +kernel) (by decide +kernel)
theorem k326 : (Jvm.Cond.methodLink "java/lang/StringLatin1" (9 : Nat) ({ cls := "java/lang/String", name := "checkIndex", desc := "(II)V" } : Jvm.MethodName)) ∈ TT := TT_o2 86 (by decide +kernel) (by decide +kernel)
theorem k327 : (Jvm.Cond.static ({ cls := "java/lang/String", name := "checkIndex", desc := "(II)V" } : Jvm.MethodName)) ∈ TT := TT_o2 87 (by decide +kernel) (by decide +kernel)
theorem k347 : (Jvm.Cond.fieldLink "java/lang/StringUTF16" (44 : Nat) "java/lang/StringUTF16" "$assertionsDisabled" "Z") ∈ TT := TT_o2 107 (by decide +kernel) (by decide +kernel)
theorem k342 : (Jvm.Cond.code ({ cls := "java/lang/StringUTF16", name := "length", desc := "([B)I" } : Jvm.MethodName) prog_19_method_6_code (1 : Nat) (Option.some Jvm.ClassFile.FieldType.int)) ∈ TT := TT_o2 102 (by decide +kernel) (by decide +kernel)
theorem k340 : (Jvm.Cond.methodLink "java/lang/StringUTF16" (48 : Nat) ({ cls := "java/lang/StringUTF16", name := "length", desc := "([B)I" } : Jvm.MethodName)) ∈ TT := TT_o2 100 (by decide +kernel) (by decide +kernel)
theorem k341 : (Jvm.Cond.static ({ cls := "java/lang/StringUTF16", name := "length", desc := "([B)I" } : Jvm.MethodName)) ∈ TT := TT_o2 101 (by decide +kernel) (by decide +kernel)
theorem k349 : (Jvm.Cond.fieldLink "java/lang/StringUTF16" (59 : Nat) "java/lang/StringUTF16" "HI_BYTE_SHIFT" "I") ∈ TT := TT_o2 109 (by decide +kernel) (by decide +kernel)
theorem k351 : (Jvm.Cond.fieldLink "java/lang/StringUTF16" (63 : Nat) "java/lang/StringUTF16" "LO_BYTE_SHIFT" "I") ∈ TT := TT_o2 111 (by decide +kernel) (by decide +kernel)
theorem k339 : (Jvm.Cond.code ({ cls := "java/lang/StringUTF16", name := "checkIndex", desc := "(I[B)V" } : Jvm.MethodName) prog_19_method_91_code (2 : Nat) (Option.none : Option Jvm.ClassFile.FieldType)) ∈ TT := TT_o2 99 (by decide +kernel) (by decide +kernel)
theorem k337 : (Jvm.Cond.methodLink "java/lang/StringUTF16" (67 : Nat) ({ cls := "java/lang/StringUTF16", name := "checkIndex", desc := "(I[B)V" } : Jvm.MethodName)) ∈ TT := TT_o2 97 (by decide +kernel) (by decide +kernel)
theorem k338 : (Jvm.Cond.static ({ cls := "java/lang/StringUTF16", name := "checkIndex", desc := "(I[B)V" } : Jvm.MethodName)) ∈ TT := TT_o2 98 (by decide +kernel) (by decide +kernel)
theorem k346 : (Jvm.Cond.code ({ cls := "java/lang/StringUTF16", name := "getChar", desc := "([BI)C" } : Jvm.MethodName) prog_19_method_5_code (2 : Nat) (Option.some Jvm.ClassFile.FieldType.char)) ∈ TT := TT_o2 106 (by decide +kernel) (by decide +kernel)
theorem k344 : (Jvm.Cond.methodLink "java/lang/StringUTF16" (71 : Nat) ({ cls := "java/lang/StringUTF16", name := "getChar", desc := "([BI)C" } : Jvm.MethodName)) ∈ TT := TT_o2 104 (by decide +kernel) (by decide +kernel)
theorem k345 : (Jvm.Cond.static ({ cls := "java/lang/StringUTF16", name := "getChar", desc := "([BI)C" } : Jvm.MethodName)) ∈ TT := TT_o2 105 (by decide +kernel) (by decide +kernel)
theorem k343 : (Jvm.Cond.methodLink "java/lang/StringUTF16" (414 : Nat) ({ cls := "java/lang/String", name := "checkIndex", desc := "(II)V" } : Jvm.MethodName)) ∈ TT := TT_o2 103 (by decide +kernel) (by decide +kernel)
theorem k0 : (Jvm.Cond.initialized "KingsBalanceLaw") ∈ TT := TT_o1 0 (by decide +kernel) (by decide +kernel)
theorem k13 : (Jvm.Cond.initialized "java/lang/System") ∈ TT := TT_o1 13 (by decide +kernel) (by decide +kernel)
theorem k14 : (Jvm.Cond.initialized "java/lang/Math") ∈ TT := TT_o1 14 (by decide +kernel) (by decide +kernel)
theorem k22 : (Jvm.Cond.instantiable "KingsBalance" (7 : Nat)) ∈ TT := TT_o1 22 (by decide +kernel) (by decide +kernel)
theorem k30 : (Jvm.Cond.instantiable "KingsBalance$Realm" (14 : Nat)) ∈ TT := TT_o1 30 (by decide +kernel) (by decide +kernel)
theorem k38 : (Jvm.Cond.instantiable "KingsBalance$Tape" (3 : Nat)) ∈ TT := TT_o1 38 (by decide +kernel) (by decide +kernel)
theorem k58 : (Jvm.Cond.instantiable "KingsBalance$World" (11 : Nat)) ∈ TT := TT_o1 58 (by decide +kernel) (by decide +kernel)
theorem k183 : (Jvm.Cond.instantiable "KingsBalance$Ways" (3 : Nat)) ∈ TT := TT_o1 183 (by decide +kernel) (by decide +kernel)
theorem k189 : (Jvm.Cond.instantiable "KingsBalance$Sides" (2 : Nat)) ∈ TT := TT_o1 189 (by decide +kernel) (by decide +kernel)
theorem k442 : (Jvm.Cond.instantiable "KingsBalance$Alone" (2 : Nat)) ∈ TT := TT_o2 202 (by decide +kernel) (by decide +kernel)
theorem k453 : (Jvm.Cond.instantiable "KingsBalance$Web" (2 : Nat)) ∈ TT := TT_o2 213 (by decide +kernel) (by decide +kernel)
theorem k462 : (Jvm.Cond.instantiable "KingsBalance$League" (2 : Nat)) ∈ TT := TT_o2 222 (by decide +kernel) (by decide +kernel)
theorem k471 : (Jvm.Cond.instantiable "KingsBalance$Guard" (2 : Nat)) ∈ TT := TT_o2 231 (by decide +kernel) (by decide +kernel)
theorem k480 : (Jvm.Cond.instantiable "KingsBalance$True" (2 : Nat)) ∈ TT := TT_o3 0 (by decide +kernel) (by decide +kernel)
theorem k489 : (Jvm.Cond.instantiable "KingsBalance$Standing" (2 : Nat)) ∈ TT := TT_o3 9 (by decide +kernel) (by decide +kernel)
theorem k580 : (Jvm.Cond.constantLong "KingsBalance" (148 : Nat) (-9223372036854775808 : Int64)) ∈ TT := TT_o3 100 (by decide +kernel) (by decide +kernel)
theorem k670 : (Jvm.Cond.constant "java/lang/Integer" (265 : Nat) (1431655765 : Int32)) ∈ TT := TT_o3 190 (by decide +kernel) (by decide +kernel)
theorem k671 : (Jvm.Cond.constant "java/lang/Integer" (266 : Nat) (858993459 : Int32)) ∈ TT := TT_o3 191 (by decide +kernel) (by decide +kernel)
theorem k672 : (Jvm.Cond.constant "java/lang/Integer" (267 : Nat) (252645135 : Int32)) ∈ TT := TT_o3 192 (by decide +kernel) (by decide +kernel)
theorem k911 : (Jvm.Cond.instantiable "KingsBalanceModel" (32 : Nat)) ∈ TT := TT_o4 191 (by decide +kernel) (by decide +kernel)
theorem k1048 : (Jvm.Cond.constantLong "KingsBalanceModel" (52 : Nat) (255 : Int64)) ∈ TT := TT_o5 88 (by decide +kernel) (by decide +kernel)
theorem k1174 : (Jvm.Cond.constantLong "KingsBalanceModel" (185 : Nat) (-9223372036854775808 : Int64)) ∈ TT := TT_o5 214 (by decide +kernel) (by decide +kernel)
theorem k1250 : (Jvm.Cond.constantLong "KingsBalanceModel" (239 : Nat) (2 : Int64)) ∈ TT := TT_o6 50 (by decide +kernel) (by decide +kernel)
theorem k1342 : (Jvm.Cond.constantLong "KingsBalanceLaw" (35 : Nat) (4294967295 : Int64)) ∈ TT := TT_o6 142 (by decide +kernel) (by decide +kernel)
theorem k56 : (Jvm.Cond.arrayClass Jvm.ClassFile.FieldType.int) ∈ TT := TT_o1 56 (by decide +kernel) (by decide +kernel)
theorem k1012 : (Jvm.Cond.arrayClass Jvm.ClassFile.FieldType.boolean) ∈ TT := TT_o5 52 (by decide +kernel) (by decide +kernel)
theorem k27 : (Jvm.Cond.instanceMethod ({ cls := "java/lang/Object", name := "<init>", desc := "()V" } : Jvm.MethodName)) ∈ TT := TT_o1 27 (by decide +kernel) (by decide +kernel)
theorem k28 : (Jvm.Cond.code ({ cls := "java/lang/Object", name := "<init>", desc := "()V" } : Jvm.MethodName) object_method_1_code (1 : Nat) (Option.none : Option Jvm.ClassFile.FieldType)) ∈ TT := TT_o1 28 (by decide +kernel) (by decide +kernel)
theorem k432 : (Jvm.Cond.static ({ cls := "java/lang/Math", name := "max", desc := "(II)I" } : Jvm.MethodName)) ∈ TT := TT_o2 192 (by decide +kernel) (by decide +kernel)
theorem k433 : (Jvm.Cond.code ({ cls := "java/lang/Math", name := "max", desc := "(II)I" } : Jvm.MethodName) prog_16_method_65_code (2 : Nat) (Option.some Jvm.ClassFile.FieldType.int)) ∈ TT := TT_o2 193 (by decide +kernel) (by decide +kernel)
theorem k745 : (Jvm.Cond.static ({ cls := "java/lang/Math", name := "min", desc := "(II)I" } : Jvm.MethodName)) ∈ TT := TT_o4 25 (by decide +kernel) (by decide +kernel)
theorem k746 : (Jvm.Cond.code ({ cls := "java/lang/Math", name := "min", desc := "(II)I" } : Jvm.MethodName) prog_16_method_69_code (2 : Nat) (Option.some Jvm.ClassFile.FieldType.int)) ∈ TT := TT_o4 26 (by decide +kernel) (by decide +kernel)
theorem k420 : (Jvm.Cond.static ({ cls := "java/lang/Math", name := "abs", desc := "(I)I" } : Jvm.MethodName)) ∈ TT := TT_o2 180 (by decide +kernel) (by decide +kernel)
theorem k421 : (Jvm.Cond.code ({ cls := "java/lang/Math", name := "abs", desc := "(I)I" } : Jvm.MethodName) prog_16_method_59_code (1 : Nat) (Option.some Jvm.ClassFile.FieldType.int)) ∈ TT := TT_o2 181 (by decide +kernel) (by decide +kernel)
theorem k409 : (Jvm.Cond.native ({ cls := "java/lang/System", name := "arraycopy", desc := "(Ljava/lang/Object;ILjava/lang/Object;II)V" } : Jvm.MethodName)) ∈ TT := TT_o2 169 (by decide +kernel) (by decide +kernel)
theorem k408 : (Jvm.Cond.static ({ cls := "java/lang/System", name := "arraycopy", desc := "(Ljava/lang/Object;ILjava/lang/Object;II)V" } : Jvm.MethodName)) ∈ TT := TT_o2 168 (by decide +kernel) (by decide +kernel)
theorem cf_X3_init : CallF mX3_init yX3_init 0 := ⟨k2, k33, ⟨by decide +kernel, by decide +kernel⟩, by decide +kernel, by decide +kernel⟩
theorem cf_X10_init : CallF mX10_init yX10_init 0 := ⟨k4, k61, ⟨by decide +kernel, by decide +kernel⟩, by decide +kernel, by decide +kernel⟩
theorem cf_X8_init : CallF mX8_init yX8_init 0 := ⟨k5, k186, ⟨by decide +kernel, by decide +kernel⟩, by decide +kernel, by decide +kernel⟩
theorem cf_X11_outside : CallF mX11_outside yX11_outside 2 := ⟨k1, k251, ⟨by decide +kernel, by decide +kernel⟩, by decide +kernel, by decide +kernel⟩
theorem cf_X3_add : CallF mX3_add yX3_add 2 := ⟨k2, k255, ⟨by decide +kernel, by decide +kernel⟩, by decide +kernel, by decide +kernel⟩
theorem cf_X3_has : CallF mX3_has yX3_has 1 := ⟨k2, k263, ⟨by decide +kernel, by decide +kernel⟩, by decide +kernel, by decide +kernel⟩
theorem cf_X3_lives : CallF mX3_lives yX3_lives 1 := ⟨k2, k267, ⟨by decide +kernel, by decide +kernel⟩, by decide +kernel, by decide +kernel⟩
theorem cf_X6_put : CallF mX6_put yX6_put 1 := ⟨k3, k287, ⟨by decide +kernel, by decide +kernel⟩, by decide +kernel, by decide +kernel⟩
theorem cf_X10_read : CallF mX10_read yX10_read 1 := ⟨k4, k295, ⟨by decide +kernel, by decide +kernel⟩, by decide +kernel, by decide +kernel⟩
theorem cf_X10_become : CallF mX10_become yX10_become 1 := ⟨k4, k406, ⟨by decide +kernel, by decide +kernel⟩, by decide +kernel, by decide +kernel⟩
theorem cf_X10_costOf : CallF mX10_costOf yX10_costOf 3 := ⟨k4, k418, ⟨by decide +kernel, by decide +kernel⟩, by decide +kernel, by decide +kernel⟩
theorem cf_X3_forceAt : CallF mX3_forceAt yX3_forceAt 2 := ⟨k2, k429, ⟨by decide +kernel, by decide +kernel⟩, by decide +kernel, by decide +kernel⟩
theorem cf_X11_made : CallF mX11_made yX11_made 3 := ⟨k1, k440, ⟨by decide +kernel, by decide +kernel⟩, by decide +kernel, by decide +kernel⟩
theorem cf_X3_standingAt : CallF mX3_standingAt yX3_standingAt 1 := ⟨k2, k501, ⟨by decide +kernel, by decide +kernel⟩, by decide +kernel, by decide +kernel⟩
theorem cf_X11_pairRefusal : CallF mX11_pairRefusal yX11_pairRefusal 2 := ⟨k1, k509, ⟨by decide +kernel, by decide +kernel⟩, by decide +kernel, by decide +kernel⟩
theorem cf_X5_camps : CallF mX5_camps yX5_camps 3 := ⟨k6, k572, ⟨by decide +kernel, by decide +kernel⟩, by decide +kernel, by decide +kernel⟩
theorem cf_X0_camps : CallF mX0_camps yX0_camps 3 := ⟨k15, k516, ⟨by decide +kernel, by decide +kernel⟩, by decide +kernel, by decide +kernel⟩
theorem cf_X1_camps : CallF mX1_camps yX1_camps 3 := ⟨k18, k523, ⟨by decide +kernel, by decide +kernel⟩, by decide +kernel, by decide +kernel⟩
theorem cf_X2_camps : CallF mX2_camps yX2_camps 3 := ⟨k17, k533, ⟨by decide +kernel, by decide +kernel⟩, by decide +kernel, by decide +kernel⟩
theorem cf_X4_camps : CallF mX4_camps yX4_camps 3 := ⟨k7, k546, ⟨by decide +kernel, by decide +kernel⟩, by decide +kernel, by decide +kernel⟩
theorem cf_X7_camps : CallF mX7_camps yX7_camps 3 := ⟨k19, k555, ⟨by decide +kernel, by decide +kernel⟩, by decide +kernel, by decide +kernel⟩
theorem cf_X9_camps : CallF mX9_camps yX9_camps 3 := ⟨k16, k528, ⟨by decide +kernel, by decide +kernel⟩, by decide +kernel, by decide +kernel⟩
theorem cf_X5_attackers : CallF mX5_attackers yX5_attackers 1 := ⟨k6, k560, ⟨by decide +kernel, by decide +kernel⟩, by decide +kernel, by decide +kernel⟩
theorem cf_X5_defenders : CallF mX5_defenders yX5_defenders 1 := ⟨k6, k568, ⟨by decide +kernel, by decide +kernel⟩, by decide +kernel, by decide +kernel⟩
theorem cf_X3_forcesAt : CallF mX3_forcesAt yX3_forcesAt 2 := ⟨k2, k584, ⟨by decide +kernel, by decide +kernel⟩, by decide +kernel, by decide +kernel⟩
theorem cf_X5_prey : CallF mX5_prey yX5_prey 2 := ⟨k6, k600, ⟨by decide +kernel, by decide +kernel⟩, by decide +kernel, by decide +kernel⟩
theorem cf_X5_hunters : CallF mX5_hunters yX5_hunters 2 := ⟨k6, k621, ⟨by decide +kernel, by decide +kernel⟩, by decide +kernel, by decide +kernel⟩
theorem cf_X5_firstWar : CallF mX5_firstWar yX5_firstWar 1 := ⟨k6, k636, ⟨by decide +kernel, by decide +kernel⟩, by decide +kernel, by decide +kernel⟩
theorem cf_X3_standsWith : CallF mX3_standsWith yX3_standsWith 2 := ⟨k2, k644, ⟨by decide +kernel, by decide +kernel⟩, by decide +kernel, by decide +kernel⟩
theorem cf_X3_bears : CallF mX3_bears yX3_bears 2 := ⟨k2, k648, ⟨by decide +kernel, by decide +kernel⟩, by decide +kernel, by decide +kernel⟩
theorem cf_X3_bearsOneBut : CallF mX3_bearsOneBut yX3_bearsOneBut 2 := ⟨k2, k657, ⟨by decide +kernel, by decide +kernel⟩, by decide +kernel, by decide +kernel⟩
theorem cf_X8_fits : CallF mX8_fits yX8_fits 1 := ⟨k5, k666, ⟨by decide +kernel, by decide +kernel⟩, by decide +kernel, by decide +kernel⟩
theorem cf_X8_number : CallF mX8_number yX8_number 3 := ⟨k5, k676, ⟨by decide +kernel, by decide +kernel⟩, by decide +kernel, by decide +kernel⟩
theorem cf_X8_find : CallF mX8_find yX8_find 3 := ⟨k5, k712, ⟨by decide +kernel, by decide +kernel⟩, by decide +kernel, by decide +kernel⟩
theorem cf_X8_blockOf : CallF mX8_blockOf yX8_blockOf 2 := ⟨k5, k716, ⟨by decide +kernel, by decide +kernel⟩, by decide +kernel, by decide +kernel⟩
theorem cf_X5_fight : CallF mX5_fight yX5_fight 3 := ⟨k6, k731, ⟨by decide +kernel, by decide +kernel⟩, by decide +kernel, by decide +kernel⟩
theorem cf_X3_turns : CallF mX3_turns yX3_turns 1 := ⟨k2, k758, ⟨by decide +kernel, by decide +kernel⟩, by decide +kernel, by decide +kernel⟩
theorem cf_X11_armedInRound : CallF mX11_armedInRound yX11_armedInRound 1 := ⟨k1, k771, ⟨by decide +kernel, by decide +kernel⟩, by decide +kernel, by decide +kernel⟩
theorem cf_X11_upsetBy : CallF mX11_upsetBy yX11_upsetBy 2 := ⟨k1, k779, ⟨by decide +kernel, by decide +kernel⟩, by decide +kernel, by decide +kernel⟩
theorem cf_X11_married : CallF mX11_married yX11_married 4 := ⟨k1, k791, ⟨by decide +kernel, by decide +kernel⟩, by decide +kernel, by decide +kernel⟩
theorem cf_X5_comesAct : CallF mX5_comesAct yX5_comesAct 2 := ⟨k6, k822, ⟨by decide +kernel, by decide +kernel⟩, by decide +kernel, by decide +kernel⟩
theorem cf_X1_comesAct : CallF mX1_comesAct yX1_comesAct 2 := ⟨k18, k805, ⟨by decide +kernel, by decide +kernel⟩, by decide +kernel, by decide +kernel⟩
theorem cf_X4_comesAct : CallF mX4_comesAct yX4_comesAct 2 := ⟨k7, k815, ⟨by decide +kernel, by decide +kernel⟩, by decide +kernel, by decide +kernel⟩
theorem cf_X5_daresAct : CallF mX5_daresAct yX5_daresAct 2 := ⟨k6, k846, ⟨by decide +kernel, by decide +kernel⟩, by decide +kernel, by decide +kernel⟩
theorem cf_X0_daresAct : CallF mX0_daresAct yX0_daresAct 2 := ⟨k15, k830, ⟨by decide +kernel, by decide +kernel⟩, by decide +kernel, by decide +kernel⟩
theorem cf_X7_daresAct : CallF mX7_daresAct yX7_daresAct 2 := ⟨k19, k839, ⟨by decide +kernel, by decide +kernel⟩, by decide +kernel, by decide +kernel⟩
theorem cf_X5_holdsAct : CallF mX5_holdsAct yX5_holdsAct 2 := ⟨k6, k874, ⟨by decide +kernel, by decide +kernel⟩, by decide +kernel, by decide +kernel⟩
theorem cf_X9_holdsAct : CallF mX9_holdsAct yX9_holdsAct 2 := ⟨k16, k855, ⟨by decide +kernel, by decide +kernel⟩, by decide +kernel, by decide +kernel⟩
theorem cf_X2_holdsAct : CallF mX2_holdsAct yX2_holdsAct 2 := ⟨k17, k861, ⟨by decide +kernel, by decide +kernel⟩, by decide +kernel, by decide +kernel⟩
theorem cf_X11_isOf : CallF mX11_isOf yX11_isOf 2 := ⟨k1, k886, ⟨by decide +kernel, by decide +kernel⟩, by decide +kernel, by decide +kernel⟩
theorem cf_X3_become : CallF mX3_become yX3_become 1 := ⟨k2, k894, ⟨by decide +kernel, by decide +kernel⟩, by decide +kernel, by decide +kernel⟩
theorem cf_J6_bitCount_0f7a4 : CallF mJ6_bitCount_0f7a4 yJ6_bitCount_0f7a4 1 := ⟨k20, k669, ⟨by decide +kernel, by decide +kernel⟩, by decide +kernel, by decide +kernel⟩
theorem cf_X0_init : CallF mX0_init yX0_init 2 := ⟨k15, k445, ⟨by decide +kernel, by decide +kernel⟩, by decide +kernel, by decide +kernel⟩
theorem cf_X4_init : CallF mX4_init yX4_init 2 := ⟨k7, k192, ⟨by decide +kernel, by decide +kernel⟩, by decide +kernel, by decide +kernel⟩
theorem cf_X9_init : CallF mX9_init yX9_init 2 := ⟨k16, k456, ⟨by decide +kernel, by decide +kernel⟩, by decide +kernel, by decide +kernel⟩
theorem cf_X2_init : CallF mX2_init yX2_init 2 := ⟨k17, k465, ⟨by decide +kernel, by decide +kernel⟩, by decide +kernel, by decide +kernel⟩
theorem cf_X1_init : CallF mX1_init yX1_init 2 := ⟨k18, k474, ⟨by decide +kernel, by decide +kernel⟩, by decide +kernel, by decide +kernel⟩
theorem cf_X7_init : CallF mX7_init yX7_init 2 := ⟨k19, k483, ⟨by decide +kernel, by decide +kernel⟩, by decide +kernel, by decide +kernel⟩
theorem cf_X5_init : CallF mX5_init yX5_init 2 := ⟨k6, k195, ⟨by decide +kernel, by decide +kernel⟩, by decide +kernel, by decide +kernel⟩
theorem cf_X5_joined : CallF mX5_joined yX5_joined 5 := ⟨k6, k520, ⟨by decide +kernel, by decide +kernel⟩, by decide +kernel, by decide +kernel⟩
theorem cf_X5_note : CallF mX5_note yX5_note 2 := ⟨k6, k809, ⟨by decide +kernel, by decide +kernel⟩, by decide +kernel, by decide +kernel⟩
theorem cf_X4_blockBits : CallF mX4_blockBits yX4_blockBits 2 := ⟨k7, k539, ⟨by decide +kernel, by decide +kernel⟩, by decide +kernel, by decide +kernel⟩
theorem cf_X3_strengthOf : CallF mX3_strengthOf yX3_strengthOf 1 := ⟨k2, k543, ⟨by decide +kernel, by decide +kernel⟩, by decide +kernel, by decide +kernel⟩
theorem cf_X6_init : CallF mX6_init yX6_init 0 := ⟨k3, k41, ⟨by decide +kernel, by decide +kernel⟩, by decide +kernel, by decide +kernel⟩
theorem cf_X6_become : CallF mX6_become yX6_become 1 := ⟨k3, k899, ⟨by decide +kernel, by decide +kernel⟩, by decide +kernel, by decide +kernel⟩
theorem cf_X3_halve : CallF mX3_halve yX3_halve 1 := ⟨k2, k735, ⟨by decide +kernel, by decide +kernel⟩, by decide +kernel, by decide +kernel⟩
theorem cf_X3_wear : CallF mX3_wear yX3_wear 3 := ⟨k2, k739, ⟨by decide +kernel, by decide +kernel⟩, by decide +kernel, by decide +kernel⟩
theorem cf_X3_fall : CallF mX3_fall yX3_fall 3 := ⟨k2, k743, ⟨by decide +kernel, by decide +kernel⟩, by decide +kernel, by decide +kernel⟩
theorem cf_J0_length_8abf5 : CallF mJ0_length_8abf5 yJ0_length_8abf5 0 := ⟨k9, k308, ⟨by decide +kernel, by decide +kernel⟩, by decide +kernel, by decide +kernel⟩
theorem cf_J0_charAt_5068e : CallF mJ0_charAt_5068e yJ0_charAt_5068e 1 := ⟨k9, k318, ⟨by decide +kernel, by decide +kernel⟩, by decide +kernel, by decide +kernel⟩
theorem cf_X6_pick : CallF mX6_pick yX6_pick 1 := ⟨k3, k304, ⟨by decide +kernel, by decide +kernel⟩, by decide +kernel, by decide +kernel⟩
theorem cf_X7_keepers : CallF mX7_keepers yX7_keepers 3 := ⟨k19, k563, ⟨by decide +kernel, by decide +kernel⟩, by decide +kernel, by decide +kernel⟩
theorem cf_X8_begin : CallF mX8_begin yX8_begin 1 := ⟨k5, k680, ⟨by decide +kernel, by decide +kernel⟩, by decide +kernel, by decide +kernel⟩
theorem cf_X8_steady : CallF mX8_steady yX8_steady 1 := ⟨k5, k690, ⟨by decide +kernel, by decide +kernel⟩, by decide +kernel, by decide +kernel⟩
theorem cf_X8_advance : CallF mX8_advance yX8_advance 1 := ⟨k5, k704, ⟨by decide +kernel, by decide +kernel⟩, by decide +kernel, by decide +kernel⟩
theorem cf_X8_highest : CallF mX8_highest yX8_highest 2 := ⟨k5, k694, ⟨by decide +kernel, by decide +kernel⟩, by decide +kernel, by decide +kernel⟩
theorem cf_X10_clause : CallF mX10_clause yX10_clause 1 := ⟨k4, k299, ⟨by decide +kernel, by decide +kernel⟩, by decide +kernel, by decide +kernel⟩
theorem cf_X10_priced : CallF mX10_priced yX10_priced 1 := ⟨k4, k356, ⟨by decide +kernel, by decide +kernel⟩, by decide +kernel, by decide +kernel⟩
theorem cf_X10_amount : CallF mX10_amount yX10_amount 2 := ⟨k4, k361, ⟨by decide +kernel, by decide +kernel⟩, by decide +kernel, by decide +kernel⟩
theorem cf_X6_goesOn : CallF mX6_goesOn yX6_goesOn 1 := ⟨k3, k365, ⟨by decide +kernel, by decide +kernel⟩, by decide +kernel, by decide +kernel⟩
theorem cf_X6_numeral : CallF mX6_numeral yX6_numeral 0 := ⟨k3, k369, ⟨by decide +kernel, by decide +kernel⟩, by decide +kernel, by decide +kernel⟩
theorem cf_X10_either : CallF mX10_either yX10_either 2 := ⟨k4, k376, ⟨by decide +kernel, by decide +kernel⟩, by decide +kernel, by decide +kernel⟩
theorem cf_X10_both : CallF mX10_both yX10_both 2 := ⟨k4, k380, ⟨by decide +kernel, by decide +kernel⟩, by decide +kernel, by decide +kernel⟩
theorem cf_X10_step : CallF mX10_step yX10_step 3 := ⟨k4, k395, ⟨by decide +kernel, by decide +kernel⟩, by decide +kernel, by decide +kernel⟩
theorem cf_X10_single : CallF mX10_single yX10_single 2 := ⟨k4, k384, ⟨by decide +kernel, by decide +kernel⟩, by decide +kernel, by decide +kernel⟩
theorem cf_X10_test : CallF mX10_test yX10_test 1 := ⟨k4, k389, ⟨by decide +kernel, by decide +kernel⟩, by decide +kernel, by decide +kernel⟩
theorem cf_X11_init : CallF mX11_init yX11_init 0 := ⟨k1, k25, ⟨by decide +kernel, by decide +kernel⟩, by decide +kernel, by decide +kernel⟩
theorem cf_X12_init : CallF mX12_init yX12_init 0 := ⟨k8, k914, ⟨by decide +kernel, by decide +kernel⟩, by decide +kernel, by decide +kernel⟩
theorem cf_X11_king : CallF mX11_king yX11_king 2 := ⟨k1, k248, ⟨by decide +kernel, by decide +kernel⟩, by decide +kernel, by decide +kernel⟩
theorem cf_X12_king : CallF mX12_king yX12_king 2 := ⟨k8, k1016, ⟨by decide +kernel, by decide +kernel⟩, by decide +kernel, by decide +kernel⟩
theorem cf_X11_of : CallF mX11_of yX11_of 2 := ⟨k1, k259, ⟨by decide +kernel, by decide +kernel⟩, by decide +kernel, by decide +kernel⟩
theorem cf_X12_of : CallF mX12_of yX12_of 2 := ⟨k8, k1023, ⟨by decide +kernel, by decide +kernel⟩, by decide +kernel, by decide +kernel⟩
theorem cf_X11_arm : CallF mX11_arm yX11_arm 2 := ⟨k1, k271, ⟨by decide +kernel, by decide +kernel⟩, by decide +kernel, by decide +kernel⟩
theorem cf_X12_arm : CallF mX12_arm yX12_arm 2 := ⟨k8, k1031, ⟨by decide +kernel, by decide +kernel⟩, by decide +kernel, by decide +kernel⟩
theorem cf_X11_worth : CallF mX11_worth yX11_worth 3 := ⟨k1, k275, ⟨by decide +kernel, by decide +kernel⟩, by decide +kernel, by decide +kernel⟩
theorem cf_X12_worth : CallF mX12_worth yX12_worth 3 := ⟨k8, k1039, ⟨by decide +kernel, by decide +kernel⟩, by decide +kernel, by decide +kernel⟩
theorem cf_X11_pact : CallF mX11_pact yX11_pact 3 := ⟨k1, k279, ⟨by decide +kernel, by decide +kernel⟩, by decide +kernel, by decide +kernel⟩
theorem cf_X12_pact : CallF mX12_pact yX12_pact 3 := ⟨k8, k1043, ⟨by decide +kernel, by decide +kernel⟩, by decide +kernel, by decide +kernel⟩
theorem cf_X11_feed : CallF mX11_feed yX11_feed 2 := ⟨k1, k283, ⟨by decide +kernel, by decide +kernel⟩, by decide +kernel, by decide +kernel⟩
theorem cf_X12_feed : CallF mX12_feed yX12_feed 2 := ⟨k8, k1047, ⟨by decide +kernel, by decide +kernel⟩, by decide +kernel, by decide +kernel⟩
theorem cf_X11_world : CallF mX11_world yX11_world 0 := ⟨k1, k291, ⟨by decide +kernel, by decide +kernel⟩, by decide +kernel, by decide +kernel⟩
theorem cf_X12_world : CallF mX12_world yX12_world 0 := ⟨k8, k1052, ⟨by decide +kernel, by decide +kernel⟩, by decide +kernel, by decide +kernel⟩
theorem cf_X11_cost : CallF mX11_cost yX11_cost 2 := ⟨k1, k414, ⟨by decide +kernel, by decide +kernel⟩, by decide +kernel, by decide +kernel⟩
theorem cf_X12_cost : CallF mX12_cost yX12_cost 2 := ⟨k8, k1102, ⟨by decide +kernel, by decide +kernel⟩, by decide +kernel, by decide +kernel⟩
theorem cf_X11_force : CallF mX11_force yX11_force 2 := ⟨k1, k425, ⟨by decide +kernel, by decide +kernel⟩, by decide +kernel, by decide +kernel⟩
theorem cf_X12_force : CallF mX12_force yX12_force 2 := ⟨k8, k1113, ⟨by decide +kernel, by decide +kernel⟩, by decide +kernel, by decide +kernel⟩
theorem cf_X11_standing : CallF mX11_standing yX11_standing 2 := ⟨k1, k437, ⟨by decide +kernel, by decide +kernel⟩, by decide +kernel, by decide +kernel⟩
theorem cf_X12_standing : CallF mX12_standing yX12_standing 2 := ⟨k8, k1121, ⟨by decide +kernel, by decide +kernel⟩, by decide +kernel, by decide +kernel⟩
theorem cf_X11_block : CallF mX11_block yX11_block 3 := ⟨k1, k497, ⟨by decide +kernel, by decide +kernel⟩, by decide +kernel, by decide +kernel⟩
theorem cf_X12_block : CallF mX12_block yX12_block 3 := ⟨k8, k1125, ⟨by decide +kernel, by decide +kernel⟩, by decide +kernel, by decide +kernel⟩
theorem cf_X11_comes : CallF mX11_comes yX11_comes 4 := ⟨k1, k505, ⟨by decide +kernel, by decide +kernel⟩, by decide +kernel, by decide +kernel⟩
theorem cf_X12_comes : CallF mX12_comes yX12_comes 4 := ⟨k8, k1133, ⟨by decide +kernel, by decide +kernel⟩, by decide +kernel, by decide +kernel⟩
theorem cf_X11_war : CallF mX11_war yX11_war 4 := ⟨k1, k579, ⟨by decide +kernel, by decide +kernel⟩, by decide +kernel, by decide +kernel⟩
theorem cf_X12_war : CallF mX12_war yX12_war 4 := ⟨k8, k1173, ⟨by decide +kernel, by decide +kernel⟩, by decide +kernel, by decide +kernel⟩
theorem cf_X11_dares : CallF mX11_dares yX11_dares 3 := ⟨k1, k589, ⟨by decide +kernel, by decide +kernel⟩, by decide +kernel, by decide +kernel⟩
theorem cf_X12_dares : CallF mX12_dares yX12_dares 3 := ⟨k8, k1186, ⟨by decide +kernel, by decide +kernel⟩, by decide +kernel, by decide +kernel⟩
theorem cf_X11_first : CallF mX11_first yX11_first 1 := ⟨k1, k625, ⟨by decide +kernel, by decide +kernel⟩, by decide +kernel, by decide +kernel⟩
theorem cf_X12_first : CallF mX12_first yX12_first 1 := ⟨k8, k1198, ⟨by decide +kernel, by decide +kernel⟩, by decide +kernel, by decide +kernel⟩
theorem cf_X11_keeps : CallF mX11_keeps yX11_keeps 3 := ⟨k1, k640, ⟨by decide +kernel, by decide +kernel⟩, by decide +kernel, by decide +kernel⟩
theorem cf_X12_keeps : CallF mX12_keeps yX12_keeps 3 := ⟨k8, k1206, ⟨by decide +kernel, by decide +kernel⟩, by decide +kernel, by decide +kernel⟩
theorem cf_X11_empty : CallF mX11_empty yX11_empty 1 := ⟨k1, k653, ⟨by decide +kernel, by decide +kernel⟩, by decide +kernel, by decide +kernel⟩
theorem cf_X12_empty : CallF mX12_empty yX12_empty 1 := ⟨k8, k1214, ⟨by decide +kernel, by decide +kernel⟩, by decide +kernel, by decide +kernel⟩
theorem cf_X11_all : CallF mX11_all yX11_all 1 := ⟨k1, k662, ⟨by decide +kernel, by decide +kernel⟩, by decide +kernel, by decide +kernel⟩
theorem cf_X12_all : CallF mX12_all yX12_all 1 := ⟨k8, k1218, ⟨by decide +kernel, by decide +kernel⟩, by decide +kernel, by decide +kernel⟩
theorem cf_X11_quiet : CallF mX11_quiet yX11_quiet 3 := ⟨k1, k708, ⟨by decide +kernel, by decide +kernel⟩, by decide +kernel, by decide +kernel⟩
theorem cf_X12_quiet : CallF mX12_quiet yX12_quiet 3 := ⟨k8, k1241, ⟨by decide +kernel, by decide +kernel⟩, by decide +kernel, by decide +kernel⟩
theorem cf_X11_lead : CallF mX11_lead yX11_lead 3 := ⟨k1, k720, ⟨by decide +kernel, by decide +kernel⟩, by decide +kernel, by decide +kernel⟩
theorem cf_X12_lead : CallF mX12_lead yX12_lead 3 := ⟨k8, k1245, ⟨by decide +kernel, by decide +kernel⟩, by decide +kernel, by decide +kernel⟩
theorem cf_X11_next : CallF mX11_next yX11_next 1 := ⟨k1, k750, ⟨by decide +kernel, by decide +kernel⟩, by decide +kernel, by decide +kernel⟩
theorem cf_X12_next : CallF mX12_next yX12_next 1 := ⟨k8, k1254, ⟨by decide +kernel, by decide +kernel⟩, by decide +kernel, by decide +kernel⟩
theorem cf_X11_edge : CallF mX11_edge yX11_edge 1 := ⟨k1, k754, ⟨by decide +kernel, by decide +kernel⟩, by decide +kernel, by decide +kernel⟩
theorem cf_X12_edge : CallF mX12_edge yX12_edge 1 := ⟨k8, k1258, ⟨by decide +kernel, by decide +kernel⟩, by decide +kernel, by decide +kernel⟩
theorem cf_X11_courted : CallF mX11_courted yX11_courted 0 := ⟨k1, k763, ⟨by decide +kernel, by decide +kernel⟩, by decide +kernel, by decide +kernel⟩
theorem cf_X12_courted : CallF mX12_courted yX12_courted 0 := ⟨k8, k1266, ⟨by decide +kernel, by decide +kernel⟩, by decide +kernel, by decide +kernel⟩
theorem cf_X11_race : CallF mX11_race yX11_race 1 := ⟨k1, k767, ⟨by decide +kernel, by decide +kernel⟩, by decide +kernel, by decide +kernel⟩
theorem cf_X12_race : CallF mX12_race yX12_race 1 := ⟨k8, k1270, ⟨by decide +kernel, by decide +kernel⟩, by decide +kernel, by decide +kernel⟩
theorem cf_X11_few : CallF mX11_few yX11_few 2 := ⟨k1, k775, ⟨by decide +kernel, by decide +kernel⟩, by decide +kernel, by decide +kernel⟩
theorem cf_X12_few : CallF mX12_few yX12_few 2 := ⟨k8, k1274, ⟨by decide +kernel, by decide +kernel⟩, by decide +kernel, by decide +kernel⟩
theorem cf_X11_guarded : CallF mX11_guarded yX11_guarded 1 := ⟨k1, k783, ⟨by decide +kernel, by decide +kernel⟩, by decide +kernel, by decide +kernel⟩
theorem cf_X12_guarded : CallF mX12_guarded yX12_guarded 1 := ⟨k8, k1282, ⟨by decide +kernel, by decide +kernel⟩, by decide +kernel, by decide +kernel⟩
theorem cf_X11_marry : CallF mX11_marry yX11_marry 4 := ⟨k1, k787, ⟨by decide +kernel, by decide +kernel⟩, by decide +kernel, by decide +kernel⟩
theorem cf_X12_marry : CallF mX12_marry yX12_marry 4 := ⟨k8, k1286, ⟨by decide +kernel, by decide +kernel⟩, by decide +kernel, by decide +kernel⟩
theorem cf_X11_act : CallF mX11_act yX11_act 3 := ⟨k1, k797, ⟨by decide +kernel, by decide +kernel⟩, by decide +kernel, by decide +kernel⟩
theorem cf_X12_act : CallF mX12_act yX12_act 3 := ⟨k8, k1290, ⟨by decide +kernel, by decide +kernel⟩, by decide +kernel, by decide +kernel⟩
theorem cf_X11_trace : CallF mX11_trace yX11_trace 1 := ⟨k1, k879, ⟨by decide +kernel, by decide +kernel⟩, by decide +kernel, by decide +kernel⟩
theorem cf_X12_trace : CallF mX12_trace yX12_trace 1 := ⟨k8, k1325, ⟨by decide +kernel, by decide +kernel⟩, by decide +kernel, by decide +kernel⟩
theorem cf_X11_as : CallF mX11_as yX11_as 2 := ⟨k1, k883, ⟨by decide +kernel, by decide +kernel⟩, by decide +kernel, by decide +kernel⟩
theorem cf_X12_as : CallF mX12_as yX12_as 2 := ⟨k8, k1329, ⟨by decide +kernel, by decide +kernel⟩, by decide +kernel, by decide +kernel⟩
theorem cf_X11_image : CallF mX11_image yX11_image 0 := ⟨k1, k890, ⟨by decide +kernel, by decide +kernel⟩, by decide +kernel, by decide +kernel⟩
theorem cf_X12_image : CallF mX12_image yX12_image 0 := ⟨k8, k1333, ⟨by decide +kernel, by decide +kernel⟩, by decide +kernel, by decide +kernel⟩
theorem cf_X11_undo : CallF mX11_undo yX11_undo 0 := ⟨k1, k905, ⟨by decide +kernel, by decide +kernel⟩, by decide +kernel, by decide +kernel⟩
theorem cf_X12_undo : CallF mX12_undo yX12_undo 0 := ⟨k8, k1337, ⟨by decide +kernel, by decide +kernel⟩, by decide +kernel, by decide +kernel⟩
theorem cf_X11_count : CallF mX11_count yX11_count 1 := ⟨k1, k909, ⟨by decide +kernel, by decide +kernel⟩, by decide +kernel, by decide +kernel⟩
theorem cf_X12_count : CallF mX12_count yX12_count 1 := ⟨k8, k1341, ⟨by decide +kernel, by decide +kernel⟩, by decide +kernel, by decide +kernel⟩
theorem cf_X12_in : CallF mX12_in yX12_in 3 := ⟨k8, k1019, ⟨by decide +kernel, by decide +kernel⟩, by decide +kernel, by decide +kernel⟩
theorem cf_X12_isKing : CallF mX12_isKing yX12_isKing 1 := ⟨k8, k1027, ⟨by decide +kernel, by decide +kernel⟩, by decide +kernel, by decide +kernel⟩
theorem cf_X12_isAlive : CallF mX12_isAlive yX12_isAlive 1 := ⟨k8, k1035, ⟨by decide +kernel, by decide +kernel⟩, by decide +kernel, by decide +kernel⟩
theorem cf_X12_here : CallF mX12_here yX12_here 0 := ⟨k8, k1060, ⟨by decide +kernel, by decide +kernel⟩, by decide +kernel, by decide +kernel⟩
theorem cf_X12_must : CallF mX12_must yX12_must 1 := ⟨k8, k1071, ⟨by decide +kernel, by decide +kernel⟩, by decide +kernel, by decide +kernel⟩
theorem cf_X12_factor : CallF mX12_factor yX12_factor 0 := ⟨k8, k1087, ⟨by decide +kernel, by decide +kernel⟩, by decide +kernel, by decide +kernel⟩
theorem cf_X12_emits : CallF mX12_emits yX12_emits 1 := ⟨k8, k1091, ⟨by decide +kernel, by decide +kernel⟩, by decide +kernel, by decide +kernel⟩
theorem cf_X12_some : CallF mX12_some yX12_some 0 := ⟨k8, k1079, ⟨by decide +kernel, by decide +kernel⟩, by decide +kernel, by decide +kernel⟩
theorem cf_X12_figures : CallF mX12_figures yX12_figures 0 := ⟨k8, k1075, ⟨by decide +kernel, by decide +kernel⟩, by decide +kernel, by decide +kernel⟩
theorem cf_X12_every : CallF mX12_every yX12_every 0 := ⟨k8, k1083, ⟨by decide +kernel, by decide +kernel⟩, by decide +kernel, by decide +kernel⟩
theorem cf_X12_spells : CallF mX12_spells yX12_spells 1 := ⟨k8, k1065, ⟨by decide +kernel, by decide +kernel⟩, by decide +kernel, by decide +kernel⟩
theorem cf_X12_tells : CallF mX12_tells yX12_tells 2 := ⟨k8, k1096, ⟨by decide +kernel, by decide +kernel⟩, by decide +kernel, by decide +kernel⟩
theorem cf_X12_clause : CallF mX12_clause yX12_clause 0 := ⟨k8, k1056, ⟨by decide +kernel, by decide +kernel⟩, by decide +kernel, by decide +kernel⟩
theorem cf_X12_size : CallF mX12_size yX12_size 1 := ⟨k8, k1109, ⟨by decide +kernel, by decide +kernel⟩, by decide +kernel, by decide +kernel⟩
theorem cf_X12_costOf : CallF mX12_costOf yX12_costOf 2 := ⟨k8, k1106, ⟨by decide +kernel, by decide +kernel⟩, by decide +kernel, by decide +kernel⟩
theorem cf_X12_forceOf : CallF mX12_forceOf yX12_forceOf 2 := ⟨k8, k1117, ⟨by decide +kernel, by decide +kernel⟩, by decide +kernel, by decide +kernel⟩
theorem cf_X12_isStanding : CallF mX12_isStanding yX12_isStanding 1 := ⟨k8, k1129, ⟨by decide +kernel, by decide +kernel⟩, by decide +kernel, by decide +kernel⟩
theorem cf_X12_blockOf : CallF mX12_blockOf yX12_blockOf 1 := ⟨k8, k1153, ⟨by decide +kernel, by decide +kernel⟩, by decide +kernel, by decide +kernel⟩
theorem cf_X12_strengths : CallF mX12_strengths yX12_strengths 1 := ⟨k8, k1157, ⟨by decide +kernel, by decide +kernel⟩, by decide +kernel, by decide +kernel⟩
theorem cf_X12_alive : CallF mX12_alive yX12_alive 0 := ⟨k8, k1145, ⟨by decide +kernel, by decide +kernel⟩, by decide +kernel, by decide +kernel⟩
theorem cf_X12_pactOf : CallF mX12_pactOf yX12_pactOf 2 := ⟨k8, k1165, ⟨by decide +kernel, by decide +kernel⟩, by decide +kernel, by decide +kernel⟩
theorem cf_X12_isTrue : CallF mX12_isTrue yX12_isTrue 2 := ⟨k8, k1169, ⟨by decide +kernel, by decide +kernel⟩, by decide +kernel, by decide +kernel⟩
theorem cf_X12_sides : CallF mX12_sides yX12_sides 2 := ⟨k8, k1149, ⟨by decide +kernel, by decide +kernel⟩, by decide +kernel, by decide +kernel⟩
theorem cf_X12_web : CallF mX12_web yX12_web 2 := ⟨k8, k1161, ⟨by decide +kernel, by decide +kernel⟩, by decide +kernel, by decide +kernel⟩
theorem cf_X12_takes : CallF mX12_takes yX12_takes 1 := ⟨k8, k1137, ⟨by decide +kernel, by decide +kernel⟩, by decide +kernel, by decide +kernel⟩
theorem cf_X12_comesTo : CallF mX12_comesTo yX12_comesTo 2 := ⟨k8, k1141, ⟨by decide +kernel, by decide +kernel⟩, by decide +kernel, by decide +kernel⟩
theorem cf_X12_sums : CallF mX12_sums yX12_sums 2 := ⟨k8, k1182, ⟨by decide +kernel, by decide +kernel⟩, by decide +kernel, by decide +kernel⟩
theorem cf_X12_gainOf : CallF mX12_gainOf yX12_gainOf 2 := ⟨k8, k1178, ⟨by decide +kernel, by decide +kernel⟩, by decide +kernel, by decide +kernel⟩
theorem cf_X12_doesDare : CallF mX12_doesDare yX12_doesDare 2 := ⟨k8, k1194, ⟨by decide +kernel, by decide +kernel⟩, by decide +kernel, by decide +kernel⟩
theorem cf_X12_darers : CallF mX12_darers yX12_darers 1 := ⟨k8, k1190, ⟨by decide +kernel, by decide +kernel⟩, by decide +kernel, by decide +kernel⟩
theorem cf_X12_firstWar : CallF mX12_firstWar yX12_firstWar 0 := ⟨k8, k1202, ⟨by decide +kernel, by decide +kernel⟩, by decide +kernel, by decide +kernel⟩
theorem cf_X12_doesKeep : CallF mX12_doesKeep yX12_doesKeep 3 := ⟨k8, k1210, ⟨by decide +kernel, by decide +kernel⟩, by decide +kernel, by decide +kernel⟩
theorem cf_X12_doesDareAny : CallF mX12_doesDareAny yX12_doesDareAny 1 := ⟨k8, k1237, ⟨by decide +kernel, by decide +kernel⟩, by decide +kernel, by decide +kernel⟩
theorem cf_X12_wouldHold : CallF mX12_wouldHold yX12_wouldHold 1 := ⟨k8, k1233, ⟨by decide +kernel, by decide +kernel⟩, by decide +kernel, by decide +kernel⟩
theorem cf_X12_parts : CallF mX12_parts yX12_parts 2 := ⟨k8, k1229, ⟨by decide +kernel, by decide +kernel⟩, by decide +kernel, by decide +kernel⟩
theorem cf_X12_count1 : CallF mX12_count1 yX12_count1 1 := ⟨k8, k1221, ⟨by decide +kernel, by decide +kernel⟩, by decide +kernel, by decide +kernel⟩
theorem cf_X12_partsAll : CallF mX12_partsAll yX12_partsAll 3 := ⟨k8, k1225, ⟨by decide +kernel, by decide +kernel⟩, by decide +kernel, by decide +kernel⟩
theorem cf_X12_leads : CallF mX12_leads yX12_leads 2 := ⟨k8, k1249, ⟨by decide +kernel, by decide +kernel⟩, by decide +kernel, by decide +kernel⟩
theorem cf_X12_turnsOf : CallF mX12_turnsOf yX12_turnsOf 1 := ⟨k8, k1262, ⟨by decide +kernel, by decide +kernel⟩, by decide +kernel, by decide +kernel⟩
theorem cf_X12_isQuietWith : CallF mX12_isQuietWith yX12_isQuietWith 2 := ⟨k8, k1278, ⟨by decide +kernel, by decide +kernel⟩, by decide +kernel, by decide +kernel⟩
theorem cf_X12_runs : CallF mX12_runs yX12_runs 1 := ⟨k8, k1298, ⟨by decide +kernel, by decide +kernel⟩, by decide +kernel, by decide +kernel⟩
theorem cf_X12_plainComes : CallF mX12_plainComes yX12_plainComes 1 := ⟨k8, k1302, ⟨by decide +kernel, by decide +kernel⟩, by decide +kernel, by decide +kernel⟩
theorem cf_X12_isUnder : CallF mX12_isUnder yX12_isUnder 2 := ⟨k8, k1305, ⟨by decide +kernel, by decide +kernel⟩, by decide +kernel, by decide +kernel⟩
theorem cf_X12_comesActs : CallF mX12_comesActs yX12_comesActs 1 := ⟨k8, k1294, ⟨by decide +kernel, by decide +kernel⟩, by decide +kernel, by decide +kernel⟩
theorem cf_X12_plainDares : CallF mX12_plainDares yX12_plainDares 1 := ⟨k8, k1313, ⟨by decide +kernel, by decide +kernel⟩, by decide +kernel, by decide +kernel⟩
theorem cf_X12_daresActs : CallF mX12_daresActs yX12_daresActs 1 := ⟨k8, k1309, ⟨by decide +kernel, by decide +kernel⟩, by decide +kernel, by decide +kernel⟩
theorem cf_X12_plainHolds : CallF mX12_plainHolds yX12_plainHolds 1 := ⟨k8, k1321, ⟨by decide +kernel, by decide +kernel⟩, by decide +kernel, by decide +kernel⟩
theorem cf_X12_holdsActs : CallF mX12_holdsActs yX12_holdsActs 1 := ⟨k8, k1317, ⟨by decide +kernel, by decide +kernel⟩, by decide +kernel, by decide +kernel⟩
theorem cf_J0_coder_7d493 : CallF mJ0_coder_7d493 yJ0_coder_7d493 0 := ⟨k9, k312, ⟨by decide +kernel, by decide +kernel⟩, by decide +kernel, by decide +kernel⟩
theorem cf_J0_isLatin1_aae02 : CallF mJ0_isLatin1_aae02 yJ0_isLatin1_aae02 0 := ⟨k9, k322, ⟨by decide +kernel, by decide +kernel⟩, by decide +kernel, by decide +kernel⟩
theorem cf_J1_charAt_3b067 : CallF mJ1_charAt_3b067 yJ1_charAt_3b067 2 := ⟨k10, k325, ⟨by decide +kernel, by decide +kernel⟩, by decide +kernel, by decide +kernel⟩
theorem cf_J2_charAt_3b067 : CallF mJ2_charAt_3b067 yJ2_charAt_3b067 2 := ⟨k12, k336, ⟨by decide +kernel, by decide +kernel⟩, by decide +kernel, by decide +kernel⟩
theorem cf_J3_checkIndex_8e157 : CallF mJ3_checkIndex_8e157 yJ3_checkIndex_8e157 3 := ⟨k11, k333, ⟨by decide +kernel, by decide +kernel⟩, by decide +kernel, by decide +kernel⟩
theorem cf_J0_checkIndex_df160 : CallF mJ0_checkIndex_df160 yJ0_checkIndex_df160 2 := ⟨k9, k328, ⟨by decide +kernel, by decide +kernel⟩, by decide +kernel, by decide +kernel⟩
theorem cf_J2_length_9d52b : CallF mJ2_length_9d52b yJ2_length_9d52b 1 := ⟨k12, k342, ⟨by decide +kernel, by decide +kernel⟩, by decide +kernel, by decide +kernel⟩
theorem cf_J2_checkIndex_2214a : CallF mJ2_checkIndex_2214a yJ2_checkIndex_2214a 2 := ⟨k12, k339, ⟨by decide +kernel, by decide +kernel⟩, by decide +kernel, by decide +kernel⟩
theorem cf_J2_getChar_3b067 : CallF mJ2_getChar_3b067 yJ2_getChar_3b067 2 := ⟨k12, k346, ⟨by decide +kernel, by decide +kernel⟩, by decide +kernel, by decide +kernel⟩
theorem in_X0 : ∀ w ∈ u_ws RX0 TX0 2, w ∈ TT := by
  show ∀ w ∈ [u_lay RX0 TX0 0, u_lay RX0 TX0 1], w ∈ TT
  exact List.forall_mem_cons.mpr ⟨k447, List.forall_mem_cons.mpr ⟨k448, fun _ h => absurd h List.not_mem_nil⟩⟩
theorem in_X1 : ∀ w ∈ u_ws RX1 TX1 2, w ∈ TT := by
  show ∀ w ∈ [u_lay RX1 TX1 0, u_lay RX1 TX1 1], w ∈ TT
  exact List.forall_mem_cons.mpr ⟨k476, List.forall_mem_cons.mpr ⟨k477, fun _ h => absurd h List.not_mem_nil⟩⟩
theorem in_X2 : ∀ w ∈ u_ws RX2 TX2 2, w ∈ TT := by
  show ∀ w ∈ [u_lay RX2 TX2 0, u_lay RX2 TX2 1], w ∈ TT
  exact List.forall_mem_cons.mpr ⟨k467, List.forall_mem_cons.mpr ⟨k468, fun _ h => absurd h List.not_mem_nil⟩⟩
theorem in_X3 : ∀ w ∈ u_ws RX3 TX3 14, w ∈ TT := by
  show ∀ w ∈ [u_lay RX3 TX3 0, u_lay RX3 TX3 1, u_lay RX3 TX3 2, u_lay RX3 TX3 3, u_lay RX3 TX3 4, u_lay RX3 TX3 5, u_lay RX3 TX3 6, u_lay RX3 TX3 7, u_lay RX3 TX3 8, u_lay RX3 TX3 9, u_lay RX3 TX3 10, u_lay RX3 TX3 11, u_lay RX3 TX3 12, u_lay RX3 TX3 13], w ∈ TT
  exact List.forall_mem_cons.mpr ⟨k151, List.forall_mem_cons.mpr ⟨k153, List.forall_mem_cons.mpr ⟨k155, List.forall_mem_cons.mpr ⟨k157, List.forall_mem_cons.mpr ⟨k159, List.forall_mem_cons.mpr ⟨k161, List.forall_mem_cons.mpr ⟨k163, List.forall_mem_cons.mpr ⟨k165, List.forall_mem_cons.mpr ⟨k167, List.forall_mem_cons.mpr ⟨k169, List.forall_mem_cons.mpr ⟨k171, List.forall_mem_cons.mpr ⟨k173, List.forall_mem_cons.mpr ⟨k175, List.forall_mem_cons.mpr ⟨k177, fun _ h => absurd h List.not_mem_nil⟩⟩⟩⟩⟩⟩⟩⟩⟩⟩⟩⟩⟩⟩
theorem in_X4 : ∀ w ∈ u_ws RX4 TX4 2, w ∈ TT := by
  show ∀ w ∈ [u_lay RX4 TX4 0, u_lay RX4 TX4 1], w ∈ TT
  exact List.forall_mem_cons.mpr ⟨k208, List.forall_mem_cons.mpr ⟨k210, fun _ h => absurd h List.not_mem_nil⟩⟩
theorem in_X5 : ∀ w ∈ u_ws RX5 TX5 2, w ∈ TT := by
  show ∀ w ∈ [u_lay RX5 TX5 0, u_lay RX5 TX5 1], w ∈ TT
  exact List.forall_mem_cons.mpr ⟨k491, List.forall_mem_cons.mpr ⟨k492, fun _ h => absurd h List.not_mem_nil⟩⟩
theorem in_X6 : ∀ w ∈ u_ws RX6 TX6 3, w ∈ TT := by
  show ∀ w ∈ [u_lay RX6 TX6 0, u_lay RX6 TX6 1, u_lay RX6 TX6 2], w ∈ TT
  exact List.forall_mem_cons.mpr ⟨k49, List.forall_mem_cons.mpr ⟨k51, List.forall_mem_cons.mpr ⟨k53, fun _ h => absurd h List.not_mem_nil⟩⟩⟩
theorem in_X7 : ∀ w ∈ u_ws RX7 TX7 2, w ∈ TT := by
  show ∀ w ∈ [u_lay RX7 TX7 0, u_lay RX7 TX7 1], w ∈ TT
  exact List.forall_mem_cons.mpr ⟨k485, List.forall_mem_cons.mpr ⟨k486, fun _ h => absurd h List.not_mem_nil⟩⟩
theorem in_X8 : ∀ w ∈ u_ws RX8 TX8 3, w ∈ TT := by
  show ∀ w ∈ [u_lay RX8 TX8 0, u_lay RX8 TX8 1, u_lay RX8 TX8 2], w ∈ TT
  exact List.forall_mem_cons.mpr ⟨k216, List.forall_mem_cons.mpr ⟨k218, List.forall_mem_cons.mpr ⟨k220, fun _ h => absurd h List.not_mem_nil⟩⟩⟩
theorem in_X9 : ∀ w ∈ u_ws RX9 TX9 2, w ∈ TT := by
  show ∀ w ∈ [u_lay RX9 TX9 0, u_lay RX9 TX9 1], w ∈ TT
  exact List.forall_mem_cons.mpr ⟨k458, List.forall_mem_cons.mpr ⟨k459, fun _ h => absurd h List.not_mem_nil⟩⟩
theorem in_X10 : ∀ w ∈ u_ws RX10 TX10 11, w ∈ TT := by
  show ∀ w ∈ [u_lay RX10 TX10 0, u_lay RX10 TX10 1, u_lay RX10 TX10 2, u_lay RX10 TX10 3, u_lay RX10 TX10 4, u_lay RX10 TX10 5, u_lay RX10 TX10 6, u_lay RX10 TX10 7, u_lay RX10 TX10 8, u_lay RX10 TX10 9, u_lay RX10 TX10 10], w ∈ TT
  exact List.forall_mem_cons.mpr ⟨k78, List.forall_mem_cons.mpr ⟨k80, List.forall_mem_cons.mpr ⟨k82, List.forall_mem_cons.mpr ⟨k84, List.forall_mem_cons.mpr ⟨k86, List.forall_mem_cons.mpr ⟨k88, List.forall_mem_cons.mpr ⟨k90, List.forall_mem_cons.mpr ⟨k92, List.forall_mem_cons.mpr ⟨k94, List.forall_mem_cons.mpr ⟨k96, List.forall_mem_cons.mpr ⟨k98, fun _ h => absurd h List.not_mem_nil⟩⟩⟩⟩⟩⟩⟩⟩⟩⟩⟩
theorem in_X11 : ∀ w ∈ u_ws RX11 TX11 7, w ∈ TT := by
  show ∀ w ∈ [u_lay RX11 TX11 0, u_lay RX11 TX11 1, u_lay RX11 TX11 2, u_lay RX11 TX11 3, u_lay RX11 TX11 4, u_lay RX11 TX11 5, u_lay RX11 TX11 6], w ∈ TT
  exact List.forall_mem_cons.mpr ⟨k230, List.forall_mem_cons.mpr ⟨k232, List.forall_mem_cons.mpr ⟨k234, List.forall_mem_cons.mpr ⟨k236, List.forall_mem_cons.mpr ⟨k238, List.forall_mem_cons.mpr ⟨k240, List.forall_mem_cons.mpr ⟨k242, fun _ h => absurd h List.not_mem_nil⟩⟩⟩⟩⟩⟩⟩
theorem in_X12 : ∀ w ∈ u_ws RX12 TX12 32, w ∈ TT := by
  show ∀ w ∈ [u_lay RX12 TX12 0, u_lay RX12 TX12 1, u_lay RX12 TX12 2, u_lay RX12 TX12 3, u_lay RX12 TX12 4, u_lay RX12 TX12 5, u_lay RX12 TX12 6, u_lay RX12 TX12 7, u_lay RX12 TX12 8, u_lay RX12 TX12 9, u_lay RX12 TX12 10, u_lay RX12 TX12 11, u_lay RX12 TX12 12, u_lay RX12 TX12 13, u_lay RX12 TX12 14, u_lay RX12 TX12 15, u_lay RX12 TX12 16, u_lay RX12 TX12 17, u_lay RX12 TX12 18, u_lay RX12 TX12 19, u_lay RX12 TX12 20, u_lay RX12 TX12 21, u_lay RX12 TX12 22, u_lay RX12 TX12 23, u_lay RX12 TX12 24, u_lay RX12 TX12 25, u_lay RX12 TX12 26, u_lay RX12 TX12 27, u_lay RX12 TX12 28, u_lay RX12 TX12 29, u_lay RX12 TX12 30, u_lay RX12 TX12 31], w ∈ TT
  exact List.forall_mem_cons.mpr ⟨k947, List.forall_mem_cons.mpr ⟨k949, List.forall_mem_cons.mpr ⟨k951, List.forall_mem_cons.mpr ⟨k953, List.forall_mem_cons.mpr ⟨k955, List.forall_mem_cons.mpr ⟨k957, List.forall_mem_cons.mpr ⟨k959, List.forall_mem_cons.mpr ⟨k961, List.forall_mem_cons.mpr ⟨k963, List.forall_mem_cons.mpr ⟨k965, List.forall_mem_cons.mpr ⟨k967, List.forall_mem_cons.mpr ⟨k969, List.forall_mem_cons.mpr ⟨k971, List.forall_mem_cons.mpr ⟨k973, List.forall_mem_cons.mpr ⟨k975, List.forall_mem_cons.mpr ⟨k977, List.forall_mem_cons.mpr ⟨k979, List.forall_mem_cons.mpr ⟨k981, List.forall_mem_cons.mpr ⟨k983, List.forall_mem_cons.mpr ⟨k985, List.forall_mem_cons.mpr ⟨k987, List.forall_mem_cons.mpr ⟨k989, List.forall_mem_cons.mpr ⟨k991, List.forall_mem_cons.mpr ⟨k993, List.forall_mem_cons.mpr ⟨k995, List.forall_mem_cons.mpr ⟨k997, List.forall_mem_cons.mpr ⟨k999, List.forall_mem_cons.mpr ⟨k1001, List.forall_mem_cons.mpr ⟨k1003, List.forall_mem_cons.mpr ⟨k1005, List.forall_mem_cons.mpr ⟨k1007, List.forall_mem_cons.mpr ⟨k1009, fun _ h => absurd h List.not_mem_nil⟩⟩⟩⟩⟩⟩⟩⟩⟩⟩⟩⟩⟩⟩⟩⟩⟩⟩⟩⟩⟩⟩⟩⟩⟩⟩⟩⟩⟩⟩⟩⟩
theorem wX11_3 : Cond.methodLink RX11 3 Lib.objectInit ∈ TT := k26
theorem wX11_9 : Cond.classLink RX11 9 "KingsBalance$Realm" ∈ TT := k29
theorem vX11_11 : CI RX11 11 mX3_init 0 := ⟨cf_X3_init, k31, k32, by decide +kernel, rfl⟩
theorem fX11_12 : FdOK RX11 12 11 0 := ⟨(RX11, TX11, 7), "KingsBalance", rfl, by decide, k223, in_X11, Or.inl rfl⟩
theorem pX11_12 : FpOK RX11 12 11 0 true (.object "KingsBalance$Realm") := ⟨(RX11, TX11, 7), "KingsBalance", tyX11, rfl, by decide, k223, in_X11, rfl, tyX11_ok, nmX11, rfl, by decide +kernel, fun _ => rfl⟩
theorem fX11_18 : FdOK RX11 18 11 1 := ⟨(RX11, TX11, 7), "KingsBalance", rfl, by decide, k224, in_X11, Or.inl rfl⟩
theorem pX11_18 : FpOK RX11 18 11 1 true (.object "KingsBalance$Realm") := ⟨(RX11, TX11, 7), "KingsBalance", tyX11, rfl, by decide, k224, in_X11, rfl, tyX11_ok, nmX11, rfl, by decide +kernel, fun _ => rfl⟩
theorem fX11_21 : FdOK RX11 21 11 2 := ⟨(RX11, TX11, 7), "KingsBalance", rfl, by decide, k225, in_X11, Or.inl rfl⟩
theorem pX11_21 : FpOK RX11 21 11 2 false (.boolean) := ⟨(RX11, TX11, 7), "KingsBalance", tyX11, rfl, by decide, k225, in_X11, rfl, tyX11_ok, nmX11, rfl, by decide +kernel, fun h => absurd h (by decide)⟩
theorem wX11_25 : Cond.classLink RX11 25 "KingsBalance$World" ∈ TT := k180
theorem vX11_27 : CN RX11 27 mX10_init 0 := ⟨cf_X10_init, List.mem_of_getElem? (i := 2) rfl, k60, by decide +kernel, rfl⟩
theorem fX11_28 : FdOK RX11 28 11 3 := ⟨(RX11, TX11, 7), "KingsBalance", rfl, by decide, k226, in_X11, Or.inl rfl⟩
theorem pX11_28 : FpOK RX11 28 11 3 true (.object "KingsBalance$World") := ⟨(RX11, TX11, 7), "KingsBalance", tyX11, rfl, by decide, k226, in_X11, rfl, tyX11_ok, nmX11, rfl, by decide +kernel, fun _ => rfl⟩
theorem wX11_32 : Cond.classLink RX11 32 "KingsBalance$Ways" ∈ TT := k182
theorem vX11_34 : CN RX11 34 mX8_init 0 := ⟨cf_X8_init, List.mem_of_getElem? (i := 3) rfl, k185, by decide +kernel, rfl⟩
theorem fX11_35 : FdOK RX11 35 11 4 := ⟨(RX11, TX11, 7), "KingsBalance", rfl, by decide, k227, in_X11, Or.inl rfl⟩
theorem pX11_35 : FpOK RX11 35 11 4 true (.object "KingsBalance$Ways") := ⟨(RX11, TX11, 7), "KingsBalance", tyX11, rfl, by decide, k227, in_X11, rfl, tyX11_ok, nmX11, rfl, by decide +kernel, fun _ => rfl⟩
theorem fX11_39 : FdOK RX11 39 11 5 := ⟨(RX11, TX11, 7), "KingsBalance", rfl, by decide, k228, in_X11, Or.inl rfl⟩
theorem pX11_39 : FpOK RX11 39 11 5 true (.array .int) := ⟨(RX11, TX11, 7), "KingsBalance", tyX11, rfl, by decide, k228, in_X11, rfl, tyX11_ok, nmX11, rfl, by decide +kernel, fun _ => rfl⟩
theorem fX11_43 : FdOK RX11 43 11 6 := ⟨(RX11, TX11, 7), "KingsBalance", rfl, by decide, k229, in_X11, Or.inl rfl⟩
theorem pX11_43 : FpOK RX11 43 11 6 true (.array .int) := ⟨(RX11, TX11, 7), "KingsBalance", tyX11, rfl, by decide, k229, in_X11, rfl, tyX11_ok, nmX11, rfl, by decide +kernel, fun _ => rfl⟩
theorem vX11_46 : CS RX11 46 mX11_outside 2 := ⟨cf_X11_outside, k249, k250⟩
theorem fX11_50 : FdOK RX11 50 3 0 := ⟨(RX3, TX3, 14), "KingsBalance$Realm", rfl, by decide, k105, in_X3, Or.inl rfl⟩
theorem vX11_54 : CV RX11 54 mX3_add 2 := ⟨cf_X3_add, k252, k253, k254⟩
theorem vX11_58 : CV RX11 58 mX3_has 1 := ⟨cf_X3_has, k260, k261, k262⟩
theorem fX11_62 : FdOK RX11 62 3 5 := ⟨(RX3, TX3, 14), "KingsBalance$Realm", rfl, by decide, k125, in_X3, Or.inl rfl⟩
theorem fX11_65 : FdOK RX11 65 3 6 := ⟨(RX3, TX3, 14), "KingsBalance$Realm", rfl, by decide, k129, in_X3, Or.inl rfl⟩
theorem vX11_68 : CV RX11 68 mX3_lives 1 := ⟨cf_X3_lives, k264, k265, k266⟩
theorem fX11_71 : FdOK RX11 71 3 7 := ⟨(RX3, TX3, 14), "KingsBalance$Realm", rfl, by decide, k132, in_X3, Or.inl rfl⟩
theorem fX11_74 : FdOK RX11 74 3 8 := ⟨(RX3, TX3, 14), "KingsBalance$Realm", rfl, by decide, k134, in_X3, Or.inl rfl⟩
theorem fX11_78 : FdOK RX11 78 3 9 := ⟨(RX3, TX3, 14), "KingsBalance$Realm", rfl, by decide, k138, in_X3, Or.inl rfl⟩
theorem fX11_81 : FdOK RX11 81 3 10 := ⟨(RX3, TX3, 14), "KingsBalance$Realm", rfl, by decide, k140, in_X3, Or.inl rfl⟩
theorem fX11_85 : FdOK RX11 85 6 1 := ⟨(RX6, TX6, 3), "KingsBalance$Tape", rfl, by decide, k46, in_X6, Or.inl rfl⟩
theorem pX11_85 : FpOK RX11 85 6 1 false (.int) := ⟨(RX6, TX6, 3), "KingsBalance$Tape", tyX6, rfl, by decide, k46, in_X6, rfl, tyX6_ok, nmX6, rfl, by decide +kernel, fun h => absurd h (by decide)⟩
theorem vX11_90 : CV RX11 90 mX6_put 1 := ⟨cf_X6_put, k284, k285, k286⟩
theorem vX11_94 : CV RX11 94 mX10_read 1 := ⟨cf_X10_read, k292, k293, k294⟩
theorem fX11_98 : FdOK RX11 98 3 11 := ⟨(RX3, TX3, 14), "KingsBalance$Realm", rfl, by decide, k144, in_X3, Or.inl rfl⟩
theorem vX11_101 : CV RX11 101 mX10_become 1 := ⟨cf_X10_become, k403, k404, k405⟩
theorem fX11_105 : FdOK RX11 105 3 2 := ⟨(RX3, TX3, 14), "KingsBalance$Realm", rfl, by decide, k117, in_X3, Or.inl rfl⟩
theorem pX11_105 : FpOK RX11 105 3 2 false (.int) := ⟨(RX3, TX3, 14), "KingsBalance$Realm", tyX3, rfl, by decide, k117, in_X3, rfl, tyX3_ok, nmX3, rfl, by decide +kernel, fun h => absurd h (by decide)⟩
theorem vX11_108 : CV RX11 108 mX10_costOf 3 := ⟨cf_X10_costOf, k415, k416, k417⟩
theorem vX11_112 : CV RX11 112 mX3_forceAt 2 := ⟨cf_X3_forceAt, k426, k427, k428⟩
theorem fX11_115 : FdOK RX11 115 3 3 := ⟨(RX3, TX3, 14), "KingsBalance$Realm", rfl, by decide, k119, in_X3, Or.inl rfl⟩
theorem pX11_115 : FpOK RX11 115 3 3 false (.int) := ⟨(RX3, TX3, 14), "KingsBalance$Realm", tyX3, rfl, by decide, k119, in_X3, rfl, tyX3_ok, nmX3, rfl, by decide +kernel, fun h => absurd h (by decide)⟩
theorem fX11_118 : FdOK RX11 118 3 12 := ⟨(RX3, TX3, 14), "KingsBalance$Realm", rfl, by decide, k146, in_X3, Or.inl rfl⟩
theorem vX11_122 : CS RX11 122 mX11_made 3 := ⟨cf_X11_made, k438, k439⟩
theorem vX11_126 : CV RX11 126 mX3_standingAt 1 := ⟨cf_X3_standingAt, k498, k499, k500⟩
theorem fX11_130 : FdOK RX11 130 3 13 := ⟨(RX3, TX3, 14), "KingsBalance$Realm", rfl, by decide, k150, in_X3, Or.inl rfl⟩
theorem vX11_133 : CV RX11 133 mX11_pairRefusal 2 := ⟨cf_X11_pairRefusal, k506, k508, s8⟩
theorem uX11_136_X5 : CU RX11 136 RX5 mX5_camps 3 := ⟨"KingsBalance$Standing", ⟨"KingsBalance$Standing", "camps", "(LKingsBalance$Realm;II)I"⟩, cX5_camps, 4, (some .int), cf_X5_camps, k510, k513, k511, k572, k512, k511, ⟨by decide +kernel, by decide +kernel⟩⟩
theorem uX11_136_X0 : CU RX11 136 RX0 mX0_camps 3 := ⟨"KingsBalance$Standing", ⟨"KingsBalance$Standing", "camps", "(LKingsBalance$Realm;II)I"⟩, cX5_camps, 4, (some .int), cf_X0_camps, k510, k513, k511, k572, k514, k515, ⟨by decide +kernel, by decide +kernel⟩⟩
theorem uX11_136_X1 : CU RX11 136 RX1 mX1_camps 3 := ⟨"KingsBalance$Standing", ⟨"KingsBalance$Standing", "camps", "(LKingsBalance$Realm;II)I"⟩, cX5_camps, 4, (some .int), cf_X1_camps, k510, k513, k511, k572, k521, k522, ⟨by decide +kernel, by decide +kernel⟩⟩
theorem uX11_136_X2 : CU RX11 136 RX2 mX2_camps 3 := ⟨"KingsBalance$Standing", ⟨"KingsBalance$Standing", "camps", "(LKingsBalance$Realm;II)I"⟩, cX5_camps, 4, (some .int), cf_X2_camps, k510, k513, k511, k572, k531, k532, ⟨by decide +kernel, by decide +kernel⟩⟩
theorem uX11_136_X4 : CU RX11 136 RX4 mX4_camps 3 := ⟨"KingsBalance$Standing", ⟨"KingsBalance$Standing", "camps", "(LKingsBalance$Realm;II)I"⟩, cX5_camps, 4, (some .int), cf_X4_camps, k510, k513, k511, k572, k552, k545, ⟨by decide +kernel, by decide +kernel⟩⟩
theorem uX11_136_X7 : CU RX11 136 RX7 mX7_camps 3 := ⟨"KingsBalance$Standing", ⟨"KingsBalance$Standing", "camps", "(LKingsBalance$Realm;II)I"⟩, cX5_camps, 4, (some .int), cf_X7_camps, k510, k513, k511, k572, k553, k554, ⟨by decide +kernel, by decide +kernel⟩⟩
theorem uX11_136_X9 : CU RX11 136 RX9 mX9_camps 3 := ⟨"KingsBalance$Standing", ⟨"KingsBalance$Standing", "camps", "(LKingsBalance$Realm;II)I"⟩, cX5_camps, 4, (some .int), cf_X9_camps, k510, k513, k511, k572, k571, k527, ⟨by decide +kernel, by decide +kernel⟩⟩
theorem wX11_137 : Cond.classLink RX11 137 "KingsBalance$Standing" ∈ TT := k488
theorem vX11_141 : CS RX11 141 mX5_attackers 1 := ⟨cf_X5_attackers, k574, k559⟩
theorem vX11_145 : CS RX11 145 mX5_defenders 1 := ⟨cf_X5_defenders, k575, k567⟩
theorem vX11_150 : CV RX11 150 mX3_forcesAt 2 := ⟨cf_X3_forcesAt, k581, k582, k583⟩
theorem uX11_153_X5 : CU RX11 153 RX5 mX5_prey 2 := ⟨"KingsBalance$Standing", ⟨"KingsBalance$Standing", "prey", "(LKingsBalance$Realm;I)I"⟩, cX5_prey, 5, (some .int), cf_X5_prey, k590, k593, k591, k600, k592, k591, ⟨by decide +kernel, by decide +kernel⟩⟩
theorem uX11_153_X0 : CU RX11 153 RX0 mX5_prey 2 := ⟨"KingsBalance$Standing", ⟨"KingsBalance$Standing", "prey", "(LKingsBalance$Realm;I)I"⟩, cX5_prey, 5, (some .int), cf_X5_prey, k590, k593, k591, k600, k594, k591, ⟨by decide +kernel, by decide +kernel⟩⟩
theorem uX11_153_X1 : CU RX11 153 RX1 mX5_prey 2 := ⟨"KingsBalance$Standing", ⟨"KingsBalance$Standing", "prey", "(LKingsBalance$Realm;I)I"⟩, cX5_prey, 5, (some .int), cf_X5_prey, k590, k593, k591, k600, k595, k591, ⟨by decide +kernel, by decide +kernel⟩⟩
theorem uX11_153_X2 : CU RX11 153 RX2 mX5_prey 2 := ⟨"KingsBalance$Standing", ⟨"KingsBalance$Standing", "prey", "(LKingsBalance$Realm;I)I"⟩, cX5_prey, 5, (some .int), cf_X5_prey, k590, k593, k591, k600, k596, k591, ⟨by decide +kernel, by decide +kernel⟩⟩
theorem uX11_153_X4 : CU RX11 153 RX4 mX5_prey 2 := ⟨"KingsBalance$Standing", ⟨"KingsBalance$Standing", "prey", "(LKingsBalance$Realm;I)I"⟩, cX5_prey, 5, (some .int), cf_X5_prey, k590, k593, k591, k600, k597, k591, ⟨by decide +kernel, by decide +kernel⟩⟩
theorem uX11_153_X7 : CU RX11 153 RX7 mX5_prey 2 := ⟨"KingsBalance$Standing", ⟨"KingsBalance$Standing", "prey", "(LKingsBalance$Realm;I)I"⟩, cX5_prey, 5, (some .int), cf_X5_prey, k590, k593, k591, k600, k598, k591, ⟨by decide +kernel, by decide +kernel⟩⟩
theorem uX11_153_X9 : CU RX11 153 RX9 mX5_prey 2 := ⟨"KingsBalance$Standing", ⟨"KingsBalance$Standing", "prey", "(LKingsBalance$Realm;I)I"⟩, cX5_prey, 5, (some .int), cf_X5_prey, k590, k593, k591, k600, k599, k591, ⟨by decide +kernel, by decide +kernel⟩⟩
theorem uX11_157_X5 : CU RX11 157 RX5 mX5_hunters 2 := ⟨"KingsBalance$Standing", ⟨"KingsBalance$Standing", "hunters", "(LKingsBalance$Realm;I)I"⟩, cX5_hunters, 5, (some .int), cf_X5_hunters, k611, k614, k612, k621, k613, k612, ⟨by decide +kernel, by decide +kernel⟩⟩
theorem uX11_157_X0 : CU RX11 157 RX0 mX5_hunters 2 := ⟨"KingsBalance$Standing", ⟨"KingsBalance$Standing", "hunters", "(LKingsBalance$Realm;I)I"⟩, cX5_hunters, 5, (some .int), cf_X5_hunters, k611, k614, k612, k621, k615, k612, ⟨by decide +kernel, by decide +kernel⟩⟩
theorem uX11_157_X1 : CU RX11 157 RX1 mX5_hunters 2 := ⟨"KingsBalance$Standing", ⟨"KingsBalance$Standing", "hunters", "(LKingsBalance$Realm;I)I"⟩, cX5_hunters, 5, (some .int), cf_X5_hunters, k611, k614, k612, k621, k616, k612, ⟨by decide +kernel, by decide +kernel⟩⟩
theorem uX11_157_X2 : CU RX11 157 RX2 mX5_hunters 2 := ⟨"KingsBalance$Standing", ⟨"KingsBalance$Standing", "hunters", "(LKingsBalance$Realm;I)I"⟩, cX5_hunters, 5, (some .int), cf_X5_hunters, k611, k614, k612, k621, k617, k612, ⟨by decide +kernel, by decide +kernel⟩⟩
theorem uX11_157_X4 : CU RX11 157 RX4 mX5_hunters 2 := ⟨"KingsBalance$Standing", ⟨"KingsBalance$Standing", "hunters", "(LKingsBalance$Realm;I)I"⟩, cX5_hunters, 5, (some .int), cf_X5_hunters, k611, k614, k612, k621, k618, k612, ⟨by decide +kernel, by decide +kernel⟩⟩
theorem uX11_157_X7 : CU RX11 157 RX7 mX5_hunters 2 := ⟨"KingsBalance$Standing", ⟨"KingsBalance$Standing", "hunters", "(LKingsBalance$Realm;I)I"⟩, cX5_hunters, 5, (some .int), cf_X5_hunters, k611, k614, k612, k621, k619, k612, ⟨by decide +kernel, by decide +kernel⟩⟩
theorem uX11_157_X9 : CU RX11 157 RX9 mX5_hunters 2 := ⟨"KingsBalance$Standing", ⟨"KingsBalance$Standing", "hunters", "(LKingsBalance$Realm;I)I"⟩, cX5_hunters, 5, (some .int), cf_X5_hunters, k611, k614, k612, k621, k620, k612, ⟨by decide +kernel, by decide +kernel⟩⟩
theorem uX11_160_X5 : CU RX11 160 RX5 mX5_firstWar 1 := ⟨"KingsBalance$Standing", ⟨"KingsBalance$Standing", "firstWar", "(LKingsBalance$Realm;)I"⟩, cX5_firstWar, 4, (some .int), cf_X5_firstWar, k626, k629, k627, k636, k628, k627, ⟨by decide +kernel, by decide +kernel⟩⟩
theorem uX11_160_X0 : CU RX11 160 RX0 mX5_firstWar 1 := ⟨"KingsBalance$Standing", ⟨"KingsBalance$Standing", "firstWar", "(LKingsBalance$Realm;)I"⟩, cX5_firstWar, 4, (some .int), cf_X5_firstWar, k626, k629, k627, k636, k630, k627, ⟨by decide +kernel, by decide +kernel⟩⟩
theorem uX11_160_X1 : CU RX11 160 RX1 mX5_firstWar 1 := ⟨"KingsBalance$Standing", ⟨"KingsBalance$Standing", "firstWar", "(LKingsBalance$Realm;)I"⟩, cX5_firstWar, 4, (some .int), cf_X5_firstWar, k626, k629, k627, k636, k631, k627, ⟨by decide +kernel, by decide +kernel⟩⟩
theorem uX11_160_X2 : CU RX11 160 RX2 mX5_firstWar 1 := ⟨"KingsBalance$Standing", ⟨"KingsBalance$Standing", "firstWar", "(LKingsBalance$Realm;)I"⟩, cX5_firstWar, 4, (some .int), cf_X5_firstWar, k626, k629, k627, k636, k632, k627, ⟨by decide +kernel, by decide +kernel⟩⟩
theorem uX11_160_X4 : CU RX11 160 RX4 mX5_firstWar 1 := ⟨"KingsBalance$Standing", ⟨"KingsBalance$Standing", "firstWar", "(LKingsBalance$Realm;)I"⟩, cX5_firstWar, 4, (some .int), cf_X5_firstWar, k626, k629, k627, k636, k633, k627, ⟨by decide +kernel, by decide +kernel⟩⟩
theorem uX11_160_X7 : CU RX11 160 RX7 mX5_firstWar 1 := ⟨"KingsBalance$Standing", ⟨"KingsBalance$Standing", "firstWar", "(LKingsBalance$Realm;)I"⟩, cX5_firstWar, 4, (some .int), cf_X5_firstWar, k626, k629, k627, k636, k634, k627, ⟨by decide +kernel, by decide +kernel⟩⟩
theorem uX11_160_X9 : CU RX11 160 RX9 mX5_firstWar 1 := ⟨"KingsBalance$Standing", ⟨"KingsBalance$Standing", "firstWar", "(LKingsBalance$Realm;)I"⟩, cX5_firstWar, 4, (some .int), cf_X5_firstWar, k626, k629, k627, k636, k635, k627, ⟨by decide +kernel, by decide +kernel⟩⟩
theorem vX11_164 : CV RX11 164 mX3_standsWith 2 := ⟨cf_X3_standsWith, k641, k642, k643⟩
theorem vX11_167 : CV RX11 167 mX3_bears 2 := ⟨cf_X3_bears, k645, k646, k647⟩
theorem vX11_170 : CV RX11 170 mX3_bearsOneBut 2 := ⟨cf_X3_bearsOneBut, k654, k655, k656⟩
theorem vX11_173 : CV RX11 173 mX8_fits 1 := ⟨cf_X8_fits, k663, k664, k665⟩
theorem vX11_177 : CV RX11 177 mX8_number 3 := ⟨cf_X8_number, k673, k674, k675⟩
theorem vX11_181 : CV RX11 181 mX8_find 3 := ⟨cf_X8_find, k709, k710, k711⟩
theorem vX11_185 : CV RX11 185 mX8_blockOf 2 := ⟨cf_X8_blockOf, k713, k714, k715⟩
theorem uX11_188_X5 : CU RX11 188 RX5 mX5_fight 3 := ⟨"KingsBalance$Standing", ⟨"KingsBalance$Standing", "fight", "(LKingsBalance$Realm;II)Z"⟩, cX5_fight, 9, (some .boolean), cf_X5_fight, k721, k724, k722, k731, k723, k722, ⟨by decide +kernel, by decide +kernel⟩⟩
theorem uX11_188_X0 : CU RX11 188 RX0 mX5_fight 3 := ⟨"KingsBalance$Standing", ⟨"KingsBalance$Standing", "fight", "(LKingsBalance$Realm;II)Z"⟩, cX5_fight, 9, (some .boolean), cf_X5_fight, k721, k724, k722, k731, k725, k722, ⟨by decide +kernel, by decide +kernel⟩⟩
theorem uX11_188_X1 : CU RX11 188 RX1 mX5_fight 3 := ⟨"KingsBalance$Standing", ⟨"KingsBalance$Standing", "fight", "(LKingsBalance$Realm;II)Z"⟩, cX5_fight, 9, (some .boolean), cf_X5_fight, k721, k724, k722, k731, k726, k722, ⟨by decide +kernel, by decide +kernel⟩⟩
theorem uX11_188_X2 : CU RX11 188 RX2 mX5_fight 3 := ⟨"KingsBalance$Standing", ⟨"KingsBalance$Standing", "fight", "(LKingsBalance$Realm;II)Z"⟩, cX5_fight, 9, (some .boolean), cf_X5_fight, k721, k724, k722, k731, k727, k722, ⟨by decide +kernel, by decide +kernel⟩⟩
theorem uX11_188_X4 : CU RX11 188 RX4 mX5_fight 3 := ⟨"KingsBalance$Standing", ⟨"KingsBalance$Standing", "fight", "(LKingsBalance$Realm;II)Z"⟩, cX5_fight, 9, (some .boolean), cf_X5_fight, k721, k724, k722, k731, k728, k722, ⟨by decide +kernel, by decide +kernel⟩⟩
theorem uX11_188_X7 : CU RX11 188 RX7 mX5_fight 3 := ⟨"KingsBalance$Standing", ⟨"KingsBalance$Standing", "fight", "(LKingsBalance$Realm;II)Z"⟩, cX5_fight, 9, (some .boolean), cf_X5_fight, k721, k724, k722, k731, k729, k722, ⟨by decide +kernel, by decide +kernel⟩⟩
theorem uX11_188_X9 : CU RX11 188 RX9 mX5_fight 3 := ⟨"KingsBalance$Standing", ⟨"KingsBalance$Standing", "fight", "(LKingsBalance$Realm;II)Z"⟩, cX5_fight, 9, (some .boolean), cf_X5_fight, k721, k724, k722, k731, k730, k722, ⟨by decide +kernel, by decide +kernel⟩⟩
theorem vX11_192 : CV RX11 192 mX3_turns 1 := ⟨cf_X3_turns, k755, k756, k757⟩
theorem vX11_195 : CV RX11 195 mX11_armedInRound 1 := ⟨cf_X11_armedInRound, k768, k770, s14⟩
theorem vX11_199 : CV RX11 199 mX11_upsetBy 2 := ⟨cf_X11_upsetBy, k776, k778, s15⟩
theorem vX11_203 : CV RX11 203 mX11_married 4 := ⟨cf_X11_married, k788, k790, s16⟩
theorem uX11_207_X5 : CU RX11 207 RX5 mX5_comesAct 2 := ⟨"KingsBalance$Standing", ⟨"KingsBalance$Standing", "comesAct", "([II)I"⟩, cX5_comesAct, 3, (some .int), cf_X5_comesAct, k798, k801, k799, k822, k800, k799, ⟨by decide +kernel, by decide +kernel⟩⟩
theorem uX11_207_X0 : CU RX11 207 RX0 mX5_comesAct 2 := ⟨"KingsBalance$Standing", ⟨"KingsBalance$Standing", "comesAct", "([II)I"⟩, cX5_comesAct, 3, (some .int), cf_X5_comesAct, k798, k801, k799, k822, k802, k799, ⟨by decide +kernel, by decide +kernel⟩⟩
theorem uX11_207_X1 : CU RX11 207 RX1 mX1_comesAct 2 := ⟨"KingsBalance$Standing", ⟨"KingsBalance$Standing", "comesAct", "([II)I"⟩, cX5_comesAct, 3, (some .int), cf_X1_comesAct, k798, k801, k799, k822, k803, k804, ⟨by decide +kernel, by decide +kernel⟩⟩
theorem uX11_207_X2 : CU RX11 207 RX2 mX4_comesAct 2 := ⟨"KingsBalance$Standing", ⟨"KingsBalance$Standing", "comesAct", "([II)I"⟩, cX5_comesAct, 3, (some .int), cf_X4_comesAct, k798, k801, k799, k822, k813, k814, ⟨by decide +kernel, by decide +kernel⟩⟩
theorem uX11_207_X4 : CU RX11 207 RX4 mX4_comesAct 2 := ⟨"KingsBalance$Standing", ⟨"KingsBalance$Standing", "comesAct", "([II)I"⟩, cX5_comesAct, 3, (some .int), cf_X4_comesAct, k798, k801, k799, k822, k819, k814, ⟨by decide +kernel, by decide +kernel⟩⟩
theorem uX11_207_X7 : CU RX11 207 RX7 mX5_comesAct 2 := ⟨"KingsBalance$Standing", ⟨"KingsBalance$Standing", "comesAct", "([II)I"⟩, cX5_comesAct, 3, (some .int), cf_X5_comesAct, k798, k801, k799, k822, k820, k799, ⟨by decide +kernel, by decide +kernel⟩⟩
theorem uX11_207_X9 : CU RX11 207 RX9 mX5_comesAct 2 := ⟨"KingsBalance$Standing", ⟨"KingsBalance$Standing", "comesAct", "([II)I"⟩, cX5_comesAct, 3, (some .int), cf_X5_comesAct, k798, k801, k799, k822, k821, k799, ⟨by decide +kernel, by decide +kernel⟩⟩
theorem uX11_211_X5 : CU RX11 211 RX5 mX5_daresAct 2 := ⟨"KingsBalance$Standing", ⟨"KingsBalance$Standing", "daresAct", "([II)I"⟩, cX5_daresAct, 3, (some .int), cf_X5_daresAct, k824, k827, k825, k846, k826, k825, ⟨by decide +kernel, by decide +kernel⟩⟩
theorem uX11_211_X0 : CU RX11 211 RX0 mX0_daresAct 2 := ⟨"KingsBalance$Standing", ⟨"KingsBalance$Standing", "daresAct", "([II)I"⟩, cX5_daresAct, 3, (some .int), cf_X0_daresAct, k824, k827, k825, k846, k828, k829, ⟨by decide +kernel, by decide +kernel⟩⟩
theorem uX11_211_X1 : CU RX11 211 RX1 mX5_daresAct 2 := ⟨"KingsBalance$Standing", ⟨"KingsBalance$Standing", "daresAct", "([II)I"⟩, cX5_daresAct, 3, (some .int), cf_X5_daresAct, k824, k827, k825, k846, k834, k825, ⟨by decide +kernel, by decide +kernel⟩⟩
theorem uX11_211_X2 : CU RX11 211 RX2 mX5_daresAct 2 := ⟨"KingsBalance$Standing", ⟨"KingsBalance$Standing", "daresAct", "([II)I"⟩, cX5_daresAct, 3, (some .int), cf_X5_daresAct, k824, k827, k825, k846, k835, k825, ⟨by decide +kernel, by decide +kernel⟩⟩
theorem uX11_211_X4 : CU RX11 211 RX4 mX5_daresAct 2 := ⟨"KingsBalance$Standing", ⟨"KingsBalance$Standing", "daresAct", "([II)I"⟩, cX5_daresAct, 3, (some .int), cf_X5_daresAct, k824, k827, k825, k846, k836, k825, ⟨by decide +kernel, by decide +kernel⟩⟩
theorem uX11_211_X7 : CU RX11 211 RX7 mX7_daresAct 2 := ⟨"KingsBalance$Standing", ⟨"KingsBalance$Standing", "daresAct", "([II)I"⟩, cX5_daresAct, 3, (some .int), cf_X7_daresAct, k824, k827, k825, k846, k837, k838, ⟨by decide +kernel, by decide +kernel⟩⟩
theorem uX11_211_X9 : CU RX11 211 RX9 mX5_daresAct 2 := ⟨"KingsBalance$Standing", ⟨"KingsBalance$Standing", "daresAct", "([II)I"⟩, cX5_daresAct, 3, (some .int), cf_X5_daresAct, k824, k827, k825, k846, k845, k825, ⟨by decide +kernel, by decide +kernel⟩⟩
theorem uX11_214_X5 : CU RX11 214 RX5 mX5_holdsAct 2 := ⟨"KingsBalance$Standing", ⟨"KingsBalance$Standing", "holdsAct", "([II)I"⟩, cX5_holdsAct, 3, (some .int), cf_X5_holdsAct, k848, k851, k849, k874, k850, k849, ⟨by decide +kernel, by decide +kernel⟩⟩
theorem uX11_214_X0 : CU RX11 214 RX0 mX5_holdsAct 2 := ⟨"KingsBalance$Standing", ⟨"KingsBalance$Standing", "holdsAct", "([II)I"⟩, cX5_holdsAct, 3, (some .int), cf_X5_holdsAct, k848, k851, k849, k874, k852, k849, ⟨by decide +kernel, by decide +kernel⟩⟩
theorem uX11_214_X1 : CU RX11 214 RX1 mX9_holdsAct 2 := ⟨"KingsBalance$Standing", ⟨"KingsBalance$Standing", "holdsAct", "([II)I"⟩, cX5_holdsAct, 3, (some .int), cf_X9_holdsAct, k848, k851, k849, k874, k853, k854, ⟨by decide +kernel, by decide +kernel⟩⟩
theorem uX11_214_X2 : CU RX11 214 RX2 mX2_holdsAct 2 := ⟨"KingsBalance$Standing", ⟨"KingsBalance$Standing", "holdsAct", "([II)I"⟩, cX5_holdsAct, 3, (some .int), cf_X2_holdsAct, k848, k851, k849, k874, k859, k860, ⟨by decide +kernel, by decide +kernel⟩⟩
theorem uX11_214_X4 : CU RX11 214 RX4 mX5_holdsAct 2 := ⟨"KingsBalance$Standing", ⟨"KingsBalance$Standing", "holdsAct", "([II)I"⟩, cX5_holdsAct, 3, (some .int), cf_X5_holdsAct, k848, k851, k849, k874, k871, k849, ⟨by decide +kernel, by decide +kernel⟩⟩
theorem uX11_214_X7 : CU RX11 214 RX7 mX9_holdsAct 2 := ⟨"KingsBalance$Standing", ⟨"KingsBalance$Standing", "holdsAct", "([II)I"⟩, cX5_holdsAct, 3, (some .int), cf_X9_holdsAct, k848, k851, k849, k874, k872, k854, ⟨by decide +kernel, by decide +kernel⟩⟩
theorem uX11_214_X9 : CU RX11 214 RX9 mX9_holdsAct 2 := ⟨"KingsBalance$Standing", ⟨"KingsBalance$Standing", "holdsAct", "([II)I"⟩, cX5_holdsAct, 3, (some .int), cf_X9_holdsAct, k848, k851, k849, k874, k873, k854, ⟨by decide +kernel, by decide +kernel⟩⟩
theorem vX11_217 : CS RX11 217 mX11_isOf 2 := ⟨cf_X11_isOf, k884, k885⟩
theorem fX11_221_X0 : FdOK RX11 221 0 1 := ⟨(RX0, TX0, 2), "KingsBalance$Standing", rfl, by decide, k207, in_X0, Or.inl rfl⟩
theorem fX11_221_X1 : FdOK RX11 221 1 1 := ⟨(RX1, TX1, 2), "KingsBalance$Standing", rfl, by decide, k207, in_X1, Or.inl rfl⟩
theorem fX11_221_X2 : FdOK RX11 221 2 1 := ⟨(RX2, TX2, 2), "KingsBalance$Standing", rfl, by decide, k207, in_X2, Or.inl rfl⟩
theorem fX11_221_X4 : FdOK RX11 221 4 1 := ⟨(RX4, TX4, 2), "KingsBalance$Standing", rfl, by decide, k207, in_X4, Or.inl rfl⟩
theorem fX11_221_X5 : FdOK RX11 221 5 1 := ⟨(RX5, TX5, 2), "KingsBalance$Standing", rfl, by decide, k207, in_X5, Or.inl rfl⟩
theorem fX11_221_X7 : FdOK RX11 221 7 1 := ⟨(RX7, TX7, 2), "KingsBalance$Standing", rfl, by decide, k207, in_X7, Or.inl rfl⟩
theorem fX11_221_X9 : FdOK RX11 221 9 1 := ⟨(RX9, TX9, 2), "KingsBalance$Standing", rfl, by decide, k207, in_X9, Or.inl rfl⟩
theorem vX11_224 : CV RX11 224 mX3_become 1 := ⟨cf_X3_become, k891, k892, k893⟩
theorem fX11_227 : FdOK RX11 227 3 1 := ⟨(RX3, TX3, 14), "KingsBalance$Realm", rfl, by decide, k115, in_X3, Or.inl rfl⟩
theorem pX11_227 : FpOK RX11 227 3 1 false (.int) := ⟨(RX3, TX3, 14), "KingsBalance$Realm", tyX3, rfl, by decide, k115, in_X3, rfl, tyX3_ok, nmX3, rfl, by decide +kernel, fun h => absurd h (by decide)⟩
theorem vX11_230 : CS RX11 230 mJ6_bitCount_0f7a4 1 := ⟨cf_J6_bitCount_0f7a4, k792, k668⟩
theorem fX11_235 : FdOK RX11 235 3 4 := ⟨(RX3, TX3, 14), "KingsBalance$Realm", rfl, by decide, k122, in_X3, Or.inl rfl⟩
theorem wX11_238 : Cond.classLink RX11 238 "KingsBalance$Alone" ∈ TT := k441
theorem vX11_240 : CI RX11 240 mX0_init 2 := ⟨cf_X0_init, k443, k444, by decide +kernel, rfl⟩
theorem wX11_243 : Cond.classLink RX11 243 "KingsBalance$Sides" ∈ TT := k450
theorem vX11_245 : CI RX11 245 mX4_init 2 := ⟨cf_X4_init, k451, k191, by decide +kernel, rfl⟩
theorem wX11_246 : Cond.classLink RX11 246 "KingsBalance$Web" ∈ TT := k452
theorem vX11_248 : CI RX11 248 mX9_init 2 := ⟨cf_X9_init, k454, k455, by decide +kernel, rfl⟩
theorem wX11_249 : Cond.classLink RX11 249 "KingsBalance$League" ∈ TT := k461
theorem vX11_251 : CI RX11 251 mX2_init 2 := ⟨cf_X2_init, k463, k464, by decide +kernel, rfl⟩
theorem wX11_252 : Cond.classLink RX11 252 "KingsBalance$Guard" ∈ TT := k470
theorem vX11_254 : CI RX11 254 mX1_init 2 := ⟨cf_X1_init, k472, k473, by decide +kernel, rfl⟩
theorem wX11_255 : Cond.classLink RX11 255 "KingsBalance$True" ∈ TT := k479
theorem vX11_257 : CI RX11 257 mX7_init 2 := ⟨cf_X7_init, k481, k482, by decide +kernel, rfl⟩
theorem vX11_258 : CI RX11 258 mX5_init 2 := ⟨cf_X5_init, k490, k194, by decide +kernel, rfl⟩
theorem wX11_259 : Cond.methodLink RX11 259 Lib.Math.min.name ∈ TT := k793
theorem vX0_1 : CI RX0 1 mX5_init 2 := ⟨cf_X5_init, k446, k194, by decide +kernel, rfl⟩
theorem vX0_7 : CT RX0 7 mX5_joined 5 := ⟨⟨"KingsBalance$Alone", "joined", "(LKingsBalance$Realm;IIII)I"⟩, cf_X5_joined, k517, k518, k519, rfl⟩
theorem vX0_13 : CT RX0 13 mX5_note 2 := ⟨⟨"KingsBalance$Alone", "note", "([II)V"⟩, cf_X5_note, k831, k832, k808, rfl⟩
theorem vX0_17 : CP RX0 17 mX5_daresAct 2 := ⟨cf_X5_daresAct, k833, k827, k449, k825, by decide +kernel⟩
theorem vX1_1 : CI RX1 1 mX9_init 2 := ⟨cf_X9_init, k475, k455, by decide +kernel, rfl⟩
theorem fX1_7_X1 : FdOK RX1 7 1 1 := ⟨(RX1, TX1, 2), "KingsBalance$Guard", rfl, by decide, k203, in_X1, Or.inr (k204)⟩
theorem fX1_13 : FdOK RX1 13 3 1 := ⟨(RX3, TX3, 14), "KingsBalance$Realm", rfl, by decide, k112, in_X3, Or.inl rfl⟩
theorem vX1_18 : CT RX1 18 mX5_joined 5 := ⟨⟨"KingsBalance$Guard", "joined", "(LKingsBalance$Realm;IIII)I"⟩, cf_X5_joined, k524, k525, k519, rfl⟩
theorem vX1_22 : CP RX1 22 mX9_camps 3 := ⟨cf_X9_camps, k526, k1343, k478, k527, by decide +kernel⟩
theorem vX1_26 : CT RX1 26 mX5_note 2 := ⟨⟨"KingsBalance$Guard", "note", "([II)V"⟩, cf_X5_note, k806, k807, k808, rfl⟩
theorem vX1_30 : CQ RX1 30 mX5_comesAct 2 := ⟨⟨"KingsBalance$Web", "comesAct", "([II)I"⟩, cf_X5_comesAct, k810, k811, k478, k460, k799, rfl, by decide +kernel⟩
theorem fX1_34_X1 : FdOK RX1 34 1 0 := ⟨(RX1, TX1, 2), "KingsBalance$Guard", rfl, by decide, k200, in_X1, Or.inr (k201)⟩
theorem vX2_1 : CI RX2 1 mX4_init 2 := ⟨cf_X4_init, k466, k191, by decide +kernel, rfl⟩
theorem uX2_7_X2 : CU RX2 7 RX2 mX4_blockBits 2 := ⟨"KingsBalance$Sides", ⟨"KingsBalance$League", "blockBits", "(LKingsBalance$Realm;I)I"⟩, cX4_blockBits, 6, (some .int), cf_X4_blockBits, k534, k535, k538, k539, k537, k538, ⟨by decide +kernel, by decide +kernel⟩⟩
theorem vX2_13 : CV RX2 13 mX3_strengthOf 1 := ⟨cf_X3_strengthOf, k540, k541, k542⟩
theorem fX2_19 : FdOK RX2 19 3 1 := ⟨(RX3, TX3, 14), "KingsBalance$Realm", rfl, by decide, k113, in_X3, Or.inl rfl⟩
theorem vX2_23 : CP RX2 23 mX4_camps 3 := ⟨cf_X4_camps, k544, k1344, k469, k545, by decide +kernel⟩
theorem vX2_27 : CT RX2 27 mX5_joined 5 := ⟨⟨"KingsBalance$League", "joined", "(LKingsBalance$Realm;IIII)I"⟩, cf_X5_joined, k550, k551, k519, rfl⟩
theorem vX2_31 : CT RX2 31 mX5_note 2 := ⟨⟨"KingsBalance$League", "note", "([II)V"⟩, cf_X5_note, k862, k863, k808, rfl⟩
theorem vX2_35 : CQ RX2 35 mX5_holdsAct 2 := ⟨⟨"KingsBalance$Sides", "holdsAct", "([II)I"⟩, cf_X5_holdsAct, k864, k865, k469, k212, k849, rfl, by decide +kernel⟩
theorem uX2_39_X2 : CU RX2 39 RX2 mX4_comesAct 2 := ⟨"KingsBalance$Sides", ⟨"KingsBalance$League", "comesAct", "([II)I"⟩, cX4_comesAct, 3, (some .int), cf_X4_comesAct, k867, k868, k814, k815, k870, k814, ⟨by decide +kernel, by decide +kernel⟩⟩
theorem wX3_3 : Cond.methodLink RX3 3 Lib.objectInit ∈ TT := k34
theorem fX3_9 : FdOK RX3 9 3 0 := ⟨(RX3, TX3, 14), "KingsBalance$Realm", rfl, by decide, k103, in_X3, Or.inl rfl⟩
theorem pX3_9 : FpOK RX3 9 3 0 false (.int) := ⟨(RX3, TX3, 14), "KingsBalance$Realm", tyX3, rfl, by decide, k103, in_X3, rfl, tyX3_ok, nmX3, rfl, by decide +kernel, fun h => absurd h (by decide)⟩
theorem fX3_15 : FdOK RX3 15 3 1 := ⟨(RX3, TX3, 14), "KingsBalance$Realm", rfl, by decide, k110, in_X3, Or.inl rfl⟩
theorem pX3_15 : FpOK RX3 15 3 1 false (.int) := ⟨(RX3, TX3, 14), "KingsBalance$Realm", tyX3, rfl, by decide, k110, in_X3, rfl, tyX3_ok, nmX3, rfl, by decide +kernel, fun h => absurd h (by decide)⟩
theorem fX3_18 : FdOK RX3 18 3 2 := ⟨(RX3, TX3, 14), "KingsBalance$Realm", rfl, by decide, k116, in_X3, Or.inl rfl⟩
theorem pX3_18 : FpOK RX3 18 3 2 false (.int) := ⟨(RX3, TX3, 14), "KingsBalance$Realm", tyX3, rfl, by decide, k116, in_X3, rfl, tyX3_ok, nmX3, rfl, by decide +kernel, fun h => absurd h (by decide)⟩
theorem fX3_21 : FdOK RX3 21 3 3 := ⟨(RX3, TX3, 14), "KingsBalance$Realm", rfl, by decide, k118, in_X3, Or.inl rfl⟩
theorem pX3_21 : FpOK RX3 21 3 3 false (.int) := ⟨(RX3, TX3, 14), "KingsBalance$Realm", tyX3, rfl, by decide, k118, in_X3, rfl, tyX3_ok, nmX3, rfl, by decide +kernel, fun h => absurd h (by decide)⟩
theorem fX3_24 : FdOK RX3 24 3 4 := ⟨(RX3, TX3, 14), "KingsBalance$Realm", rfl, by decide, k120, in_X3, Or.inl rfl⟩
theorem pX3_24 : FpOK RX3 24 3 4 false (.int) := ⟨(RX3, TX3, 14), "KingsBalance$Realm", tyX3, rfl, by decide, k120, in_X3, rfl, tyX3_ok, nmX3, rfl, by decide +kernel, fun h => absurd h (by decide)⟩
theorem fX3_27 : FdOK RX3 27 3 5 := ⟨(RX3, TX3, 14), "KingsBalance$Realm", rfl, by decide, k123, in_X3, Or.inl rfl⟩
theorem pX3_27 : FpOK RX3 27 3 5 true (.array .int) := ⟨(RX3, TX3, 14), "KingsBalance$Realm", tyX3, rfl, by decide, k123, in_X3, rfl, tyX3_ok, nmX3, rfl, by decide +kernel, fun _ => rfl⟩
theorem fX3_31 : FdOK RX3 31 3 6 := ⟨(RX3, TX3, 14), "KingsBalance$Realm", rfl, by decide, k127, in_X3, Or.inl rfl⟩
theorem pX3_31 : FpOK RX3 31 3 6 true (.array .int) := ⟨(RX3, TX3, 14), "KingsBalance$Realm", tyX3, rfl, by decide, k127, in_X3, rfl, tyX3_ok, nmX3, rfl, by decide +kernel, fun _ => rfl⟩
theorem fX3_34 : FdOK RX3 34 3 7 := ⟨(RX3, TX3, 14), "KingsBalance$Realm", rfl, by decide, k131, in_X3, Or.inl rfl⟩
theorem pX3_34 : FpOK RX3 34 3 7 true (.array .int) := ⟨(RX3, TX3, 14), "KingsBalance$Realm", tyX3, rfl, by decide, k131, in_X3, rfl, tyX3_ok, nmX3, rfl, by decide +kernel, fun _ => rfl⟩
theorem fX3_39 : FdOK RX3 39 3 8 := ⟨(RX3, TX3, 14), "KingsBalance$Realm", rfl, by decide, k133, in_X3, Or.inl rfl⟩
theorem pX3_39 : FpOK RX3 39 3 8 true (.array (.array .int)) := ⟨(RX3, TX3, 14), "KingsBalance$Realm", tyX3, rfl, by decide, k133, in_X3, rfl, tyX3_ok, nmX3, rfl, by decide +kernel, fun _ => rfl⟩
theorem fX3_42 : FdOK RX3 42 3 9 := ⟨(RX3, TX3, 14), "KingsBalance$Realm", rfl, by decide, k136, in_X3, Or.inl rfl⟩
theorem pX3_42 : FpOK RX3 42 3 9 true (.array (.array .int)) := ⟨(RX3, TX3, 14), "KingsBalance$Realm", tyX3, rfl, by decide, k136, in_X3, rfl, tyX3_ok, nmX3, rfl, by decide +kernel, fun _ => rfl⟩
theorem wX3_45 : Cond.classLink RX3 45 "KingsBalance$Tape" ∈ TT := k37
theorem vX3_47 : CN RX3 47 mX6_init 0 := ⟨cf_X6_init, List.mem_of_getElem? (i := 0) rfl, k40, by decide +kernel, rfl⟩
theorem fX3_48 : FdOK RX3 48 3 10 := ⟨(RX3, TX3, 14), "KingsBalance$Realm", rfl, by decide, k139, in_X3, Or.inl rfl⟩
theorem pX3_48 : FpOK RX3 48 3 10 true (.object "KingsBalance$Tape") := ⟨(RX3, TX3, 14), "KingsBalance$Realm", tyX3, rfl, by decide, k139, in_X3, rfl, tyX3_ok, nmX3, rfl, by decide +kernel, fun _ => rfl⟩
theorem wX3_52 : Cond.classLink RX3 52 "KingsBalance$World" ∈ TT := k57
theorem vX3_54 : CN RX3 54 mX10_init 0 := ⟨cf_X10_init, List.mem_of_getElem? (i := 1) rfl, k60, by decide +kernel, rfl⟩
theorem fX3_55 : FdOK RX3 55 3 11 := ⟨(RX3, TX3, 14), "KingsBalance$Realm", rfl, by decide, k141, in_X3, Or.inl rfl⟩
theorem pX3_55 : FpOK RX3 55 3 11 true (.object "KingsBalance$World") := ⟨(RX3, TX3, 14), "KingsBalance$Realm", tyX3, rfl, by decide, k141, in_X3, rfl, tyX3_ok, nmX3, rfl, by decide +kernel, fun _ => rfl⟩
theorem wX3_59 : Cond.classLink RX3 59 "KingsBalance$Standing" ∈ TT := k101
theorem fX3_61 : FdOK RX3 61 3 12 := ⟨(RX3, TX3, 14), "KingsBalance$Realm", rfl, by decide, k145, in_X3, Or.inl rfl⟩
theorem pX3_61 : FpOK RX3 61 3 12 true (.array (.object "KingsBalance$Standing")) := ⟨(RX3, TX3, 14), "KingsBalance$Realm", tyX3, rfl, by decide, k145, in_X3, rfl, tyX3_ok, nmX3, rfl, by decide +kernel, fun _ => rfl⟩
theorem fX3_65 : FdOK RX3 65 3 13 := ⟨(RX3, TX3, 14), "KingsBalance$Realm", rfl, by decide, k147, in_X3, Or.inl rfl⟩
theorem pX3_65 : FpOK RX3 65 3 13 true (.array (.array .int)) := ⟨(RX3, TX3, 14), "KingsBalance$Realm", tyX3, rfl, by decide, k147, in_X3, rfl, tyX3_ok, nmX3, rfl, by decide +kernel, fun _ => rfl⟩
theorem wX3_68 : Cond.methodLink RX3 68 arraycopyName ∈ TT := k895
theorem vX3_74 : CV RX3 74 mX6_become 1 := ⟨cf_X6_become, k896, k897, k898⟩
theorem vX3_78 : CV RX3 78 mX10_become 1 := ⟨cf_X10_become, k901, k404, k405⟩
theorem fX3_81 : FdOK RX3 81 10 1 := ⟨(RX10, TX10, 11), "KingsBalance$World", rfl, by decide, k67, in_X10, Or.inl rfl⟩
theorem wX3_84 : Cond.methodLink RX3 84 Lib.Math.abs.name ∈ TT := k430
theorem wX3_90 : Cond.methodLink RX3 90 Lib.Math.max.name ∈ TT := k431
theorem vX3_94 : CV RX3 94 mX3_forceAt 2 := ⟨cf_X3_forceAt, k585, k427, k428⟩
theorem vX3_97 : CV RX3 97 mX10_costOf 3 := ⟨cf_X10_costOf, k649, k416, k417⟩
theorem fX3_101 : FdOK RX3 101 10 0 := ⟨(RX10, TX10, 11), "KingsBalance$World", rfl, by decide, k65, in_X10, Or.inl rfl⟩
theorem vX3_104 : CV RX3 104 mX3_bears 2 := ⟨cf_X3_bears, k658, k646, k647⟩
theorem vX3_108 : CV RX3 108 mX3_strengthOf 1 := ⟨cf_X3_strengthOf, k759, k541, k542⟩
theorem fX3_111 : FdOK RX3 111 10 2 := ⟨(RX10, TX10, 11), "KingsBalance$World", rfl, by decide, k69, in_X10, Or.inl rfl⟩
theorem wX3_114 : Cond.methodLink RX3 114 Lib.Math.min.name ∈ TT := k744
theorem vX4_1 : CI RX4 1 mX5_init 2 := ⟨cf_X5_init, k193, k194, by decide +kernel, rfl⟩
theorem uX4_7_X2 : CU RX4 7 RX2 mX4_blockBits 2 := ⟨"KingsBalance$Sides", ⟨"KingsBalance$Sides", "blockBits", "(LKingsBalance$Realm;I)I"⟩, cX4_blockBits, 6, (some .int), cf_X4_blockBits, k547, k1345, k538, k539, k1346, k538, ⟨by decide +kernel, by decide +kernel⟩⟩
theorem uX4_7_X4 : CU RX4 7 RX4 mX4_blockBits 2 := ⟨"KingsBalance$Sides", ⟨"KingsBalance$Sides", "blockBits", "(LKingsBalance$Realm;I)I"⟩, cX4_blockBits, 6, (some .int), cf_X4_blockBits, k547, k1345, k538, k539, k1347, k538, ⟨by decide +kernel, by decide +kernel⟩⟩
theorem vX4_13 : CT RX4 13 mX5_joined 5 := ⟨⟨"KingsBalance$Sides", "joined", "(LKingsBalance$Realm;IIII)I"⟩, cf_X5_joined, k548, k549, k519, rfl⟩
theorem fX4_17 : FdOK RX4 17 3 13 := ⟨(RX3, TX3, 14), "KingsBalance$Realm", rfl, by decide, k148, in_X3, Or.inl rfl⟩
theorem fX4_23_X4 : FdOK RX4 23 4 0 := ⟨(RX4, TX4, 2), "KingsBalance$Sides", rfl, by decide, k198, in_X4, Or.inr (k199)⟩
theorem fX4_27 : FdOK RX4 27 3 0 := ⟨(RX3, TX3, 14), "KingsBalance$Realm", rfl, by decide, k107, in_X3, Or.inl rfl⟩
theorem vX4_30 : CT RX4 30 mX5_note 2 := ⟨⟨"KingsBalance$Sides", "note", "([II)V"⟩, cf_X5_note, k816, k817, k808, rfl⟩
theorem vX4_34 : CP RX4 34 mX5_comesAct 2 := ⟨cf_X5_comesAct, k818, k801, k212, k799, by decide +kernel⟩
theorem wX5_3 : Cond.methodLink RX5 3 Lib.objectInit ∈ TT := k196
theorem fX5_9_X0 : FdOK RX5 9 0 0 := ⟨(RX0, TX0, 2), "KingsBalance$Standing", rfl, by decide, k197, in_X0, Or.inl rfl⟩
theorem pX5_9_X0 : FpOK RX5 9 0 0 true (.int) := ⟨(RX0, TX0, 2), "KingsBalance$Standing", tyX0, rfl, by decide, k197, in_X0, rfl, tyX0_ok, nmX0, rfl, by decide +kernel, fun _ => rfl⟩
theorem fX5_9_X1 : FdOK RX5 9 1 0 := ⟨(RX1, TX1, 2), "KingsBalance$Standing", rfl, by decide, k197, in_X1, Or.inl rfl⟩
theorem pX5_9_X1 : FpOK RX5 9 1 0 true (.int) := ⟨(RX1, TX1, 2), "KingsBalance$Standing", tyX1, rfl, by decide, k197, in_X1, rfl, tyX1_ok, nmX1, rfl, by decide +kernel, fun _ => rfl⟩
theorem fX5_9_X2 : FdOK RX5 9 2 0 := ⟨(RX2, TX2, 2), "KingsBalance$Standing", rfl, by decide, k197, in_X2, Or.inl rfl⟩
theorem pX5_9_X2 : FpOK RX5 9 2 0 true (.int) := ⟨(RX2, TX2, 2), "KingsBalance$Standing", tyX2, rfl, by decide, k197, in_X2, rfl, tyX2_ok, nmX2, rfl, by decide +kernel, fun _ => rfl⟩
theorem fX5_9_X4 : FdOK RX5 9 4 0 := ⟨(RX4, TX4, 2), "KingsBalance$Standing", rfl, by decide, k197, in_X4, Or.inl rfl⟩
theorem pX5_9_X4 : FpOK RX5 9 4 0 true (.int) := ⟨(RX4, TX4, 2), "KingsBalance$Standing", tyX4, rfl, by decide, k197, in_X4, rfl, tyX4_ok, nmX4, rfl, by decide +kernel, fun _ => rfl⟩
theorem fX5_9_X5 : FdOK RX5 9 5 0 := ⟨(RX5, TX5, 2), "KingsBalance$Standing", rfl, by decide, k197, in_X5, Or.inl rfl⟩
theorem pX5_9_X5 : FpOK RX5 9 5 0 true (.int) := ⟨(RX5, TX5, 2), "KingsBalance$Standing", tyX5, rfl, by decide, k197, in_X5, rfl, tyX5_ok, nmX5, rfl, by decide +kernel, fun _ => rfl⟩
theorem fX5_9_X7 : FdOK RX5 9 7 0 := ⟨(RX7, TX7, 2), "KingsBalance$Standing", rfl, by decide, k197, in_X7, Or.inl rfl⟩
theorem pX5_9_X7 : FpOK RX5 9 7 0 true (.int) := ⟨(RX7, TX7, 2), "KingsBalance$Standing", tyX7, rfl, by decide, k197, in_X7, rfl, tyX7_ok, nmX7, rfl, by decide +kernel, fun _ => rfl⟩
theorem fX5_9_X9 : FdOK RX5 9 9 0 := ⟨(RX9, TX9, 2), "KingsBalance$Standing", rfl, by decide, k197, in_X9, Or.inl rfl⟩
theorem pX5_9_X9 : FpOK RX5 9 9 0 true (.int) := ⟨(RX9, TX9, 2), "KingsBalance$Standing", tyX9, rfl, by decide, k197, in_X9, rfl, tyX9_ok, nmX9, rfl, by decide +kernel, fun _ => rfl⟩
theorem fX5_15_X0 : FdOK RX5 15 0 1 := ⟨(RX0, TX0, 2), "KingsBalance$Standing", rfl, by decide, k202, in_X0, Or.inl rfl⟩
theorem pX5_15_X0 : FpOK RX5 15 0 1 true (.int) := ⟨(RX0, TX0, 2), "KingsBalance$Standing", tyX0, rfl, by decide, k202, in_X0, rfl, tyX0_ok, nmX0, rfl, by decide +kernel, fun _ => rfl⟩
theorem fX5_15_X1 : FdOK RX5 15 1 1 := ⟨(RX1, TX1, 2), "KingsBalance$Standing", rfl, by decide, k202, in_X1, Or.inl rfl⟩
theorem pX5_15_X1 : FpOK RX5 15 1 1 true (.int) := ⟨(RX1, TX1, 2), "KingsBalance$Standing", tyX1, rfl, by decide, k202, in_X1, rfl, tyX1_ok, nmX1, rfl, by decide +kernel, fun _ => rfl⟩
theorem fX5_15_X2 : FdOK RX5 15 2 1 := ⟨(RX2, TX2, 2), "KingsBalance$Standing", rfl, by decide, k202, in_X2, Or.inl rfl⟩
theorem pX5_15_X2 : FpOK RX5 15 2 1 true (.int) := ⟨(RX2, TX2, 2), "KingsBalance$Standing", tyX2, rfl, by decide, k202, in_X2, rfl, tyX2_ok, nmX2, rfl, by decide +kernel, fun _ => rfl⟩
theorem fX5_15_X4 : FdOK RX5 15 4 1 := ⟨(RX4, TX4, 2), "KingsBalance$Standing", rfl, by decide, k202, in_X4, Or.inl rfl⟩
theorem pX5_15_X4 : FpOK RX5 15 4 1 true (.int) := ⟨(RX4, TX4, 2), "KingsBalance$Standing", tyX4, rfl, by decide, k202, in_X4, rfl, tyX4_ok, nmX4, rfl, by decide +kernel, fun _ => rfl⟩
theorem fX5_15_X5 : FdOK RX5 15 5 1 := ⟨(RX5, TX5, 2), "KingsBalance$Standing", rfl, by decide, k202, in_X5, Or.inl rfl⟩
theorem pX5_15_X5 : FpOK RX5 15 5 1 true (.int) := ⟨(RX5, TX5, 2), "KingsBalance$Standing", tyX5, rfl, by decide, k202, in_X5, rfl, tyX5_ok, nmX5, rfl, by decide +kernel, fun _ => rfl⟩
theorem fX5_15_X7 : FdOK RX5 15 7 1 := ⟨(RX7, TX7, 2), "KingsBalance$Standing", rfl, by decide, k202, in_X7, Or.inl rfl⟩
theorem pX5_15_X7 : FpOK RX5 15 7 1 true (.int) := ⟨(RX7, TX7, 2), "KingsBalance$Standing", tyX7, rfl, by decide, k202, in_X7, rfl, tyX7_ok, nmX7, rfl, by decide +kernel, fun _ => rfl⟩
theorem fX5_15_X9 : FdOK RX5 15 9 1 := ⟨(RX9, TX9, 2), "KingsBalance$Standing", rfl, by decide, k202, in_X9, Or.inl rfl⟩
theorem pX5_15_X9 : FpOK RX5 15 9 1 true (.int) := ⟨(RX9, TX9, 2), "KingsBalance$Standing", tyX9, rfl, by decide, k202, in_X9, rfl, tyX9_ok, nmX9, rfl, by decide +kernel, fun _ => rfl⟩
theorem vX5_18 : CS RX5 18 mX5_joined 5 := ⟨cf_X5_joined, k573, k519⟩
theorem fX5_22 : FdOK RX5 22 3 1 := ⟨(RX3, TX3, 14), "KingsBalance$Realm", rfl, by decide, k114, in_X3, Or.inl rfl⟩
theorem fX5_27 : FdOK RX5 27 3 8 := ⟨(RX3, TX3, 14), "KingsBalance$Realm", rfl, by decide, k135, in_X3, Or.inl rfl⟩
theorem uX5_31_X5 : CU RX5 31 RX5 mX5_camps 3 := ⟨"KingsBalance$Standing", ⟨"KingsBalance$Standing", "camps", "(LKingsBalance$Realm;II)I"⟩, cX5_camps, 4, (some .int), cf_X5_camps, k606, k513, k511, k572, k512, k511, ⟨by decide +kernel, by decide +kernel⟩⟩
theorem uX5_31_X0 : CU RX5 31 RX0 mX0_camps 3 := ⟨"KingsBalance$Standing", ⟨"KingsBalance$Standing", "camps", "(LKingsBalance$Realm;II)I"⟩, cX5_camps, 4, (some .int), cf_X0_camps, k606, k513, k511, k572, k514, k515, ⟨by decide +kernel, by decide +kernel⟩⟩
theorem uX5_31_X1 : CU RX5 31 RX1 mX1_camps 3 := ⟨"KingsBalance$Standing", ⟨"KingsBalance$Standing", "camps", "(LKingsBalance$Realm;II)I"⟩, cX5_camps, 4, (some .int), cf_X1_camps, k606, k513, k511, k572, k521, k522, ⟨by decide +kernel, by decide +kernel⟩⟩
theorem uX5_31_X2 : CU RX5 31 RX2 mX2_camps 3 := ⟨"KingsBalance$Standing", ⟨"KingsBalance$Standing", "camps", "(LKingsBalance$Realm;II)I"⟩, cX5_camps, 4, (some .int), cf_X2_camps, k606, k513, k511, k572, k531, k532, ⟨by decide +kernel, by decide +kernel⟩⟩
theorem uX5_31_X4 : CU RX5 31 RX4 mX4_camps 3 := ⟨"KingsBalance$Standing", ⟨"KingsBalance$Standing", "camps", "(LKingsBalance$Realm;II)I"⟩, cX5_camps, 4, (some .int), cf_X4_camps, k606, k513, k511, k572, k552, k545, ⟨by decide +kernel, by decide +kernel⟩⟩
theorem uX5_31_X7 : CU RX5 31 RX7 mX7_camps 3 := ⟨"KingsBalance$Standing", ⟨"KingsBalance$Standing", "camps", "(LKingsBalance$Realm;II)I"⟩, cX5_camps, 4, (some .int), cf_X7_camps, k606, k513, k511, k572, k553, k554, ⟨by decide +kernel, by decide +kernel⟩⟩
theorem uX5_31_X9 : CU RX5 31 RX9 mX9_camps 3 := ⟨"KingsBalance$Standing", ⟨"KingsBalance$Standing", "camps", "(LKingsBalance$Realm;II)I"⟩, cX5_camps, 4, (some .int), cf_X9_camps, k606, k513, k511, k572, k571, k527, ⟨by decide +kernel, by decide +kernel⟩⟩
theorem vX5_35 : CS RX5 35 mX5_attackers 1 := ⟨cf_X5_attackers, k607, k559⟩
theorem fX5_39 : FdOK RX5 39 3 6 := ⟨(RX3, TX3, 14), "KingsBalance$Realm", rfl, by decide, k130, in_X3, Or.inl rfl⟩
theorem vX5_43 : CV RX5 43 mX3_forcesAt 2 := ⟨cf_X3_forcesAt, k608, k582, k583⟩
theorem vX5_47 : CS RX5 47 mX5_defenders 1 := ⟨cf_X5_defenders, k609, k567⟩
theorem fX5_50 : FdOK RX5 50 3 11 := ⟨(RX3, TX3, 14), "KingsBalance$Realm", rfl, by decide, k143, in_X3, Or.inl rfl⟩
theorem vX5_54 : CV RX5 54 mX10_costOf 3 := ⟨cf_X10_costOf, k610, k416, k417⟩
theorem fX5_59 : FdOK RX5 59 3 0 := ⟨(RX3, TX3, 14), "KingsBalance$Realm", rfl, by decide, k109, in_X3, Or.inl rfl⟩
theorem vX5_62 : CV RX5 62 mX3_lives 1 := ⟨cf_X3_lives, k601, k265, k266⟩
theorem fX5_70 : FdOK RX5 70 3 5 := ⟨(RX3, TX3, 14), "KingsBalance$Realm", rfl, by decide, k126, in_X3, Or.inl rfl⟩
theorem vX5_73 : CV RX5 73 mX3_halve 1 := ⟨cf_X3_halve, k732, k733, k734⟩
theorem vX5_77 : CV RX5 77 mX3_wear 3 := ⟨cf_X3_wear, k736, k737, k738⟩
theorem vX5_81 : CV RX5 81 mX3_fall 3 := ⟨cf_X3_fall, k740, k741, k742⟩
theorem fX5_84 : FdOK RX5 84 3 4 := ⟨(RX3, TX3, 14), "KingsBalance$Realm", rfl, by decide, k121, in_X3, Or.inl rfl⟩
theorem pX5_84 : FpOK RX5 84 3 4 false (.int) := ⟨(RX3, TX3, 14), "KingsBalance$Realm", tyX3, rfl, by decide, k121, in_X3, rfl, tyX3_ok, nmX3, rfl, by decide +kernel, fun h => absurd h (by decide)⟩
theorem vX5_87 : CS RX5 87 mX5_note 2 := ⟨cf_X5_note, k823, k808⟩
theorem uX5_91_X5 : CU RX5 91 RX5 mX5_comesAct 2 := ⟨"KingsBalance$Standing", ⟨"KingsBalance$Standing", "comesAct", "([II)I"⟩, cX5_comesAct, 3, (some .int), cf_X5_comesAct, k847, k801, k799, k822, k800, k799, ⟨by decide +kernel, by decide +kernel⟩⟩
theorem uX5_91_X0 : CU RX5 91 RX0 mX5_comesAct 2 := ⟨"KingsBalance$Standing", ⟨"KingsBalance$Standing", "comesAct", "([II)I"⟩, cX5_comesAct, 3, (some .int), cf_X5_comesAct, k847, k801, k799, k822, k802, k799, ⟨by decide +kernel, by decide +kernel⟩⟩
theorem uX5_91_X1 : CU RX5 91 RX1 mX1_comesAct 2 := ⟨"KingsBalance$Standing", ⟨"KingsBalance$Standing", "comesAct", "([II)I"⟩, cX5_comesAct, 3, (some .int), cf_X1_comesAct, k847, k801, k799, k822, k803, k804, ⟨by decide +kernel, by decide +kernel⟩⟩
theorem uX5_91_X2 : CU RX5 91 RX2 mX4_comesAct 2 := ⟨"KingsBalance$Standing", ⟨"KingsBalance$Standing", "comesAct", "([II)I"⟩, cX5_comesAct, 3, (some .int), cf_X4_comesAct, k847, k801, k799, k822, k813, k814, ⟨by decide +kernel, by decide +kernel⟩⟩
theorem uX5_91_X4 : CU RX5 91 RX4 mX4_comesAct 2 := ⟨"KingsBalance$Standing", ⟨"KingsBalance$Standing", "comesAct", "([II)I"⟩, cX5_comesAct, 3, (some .int), cf_X4_comesAct, k847, k801, k799, k822, k819, k814, ⟨by decide +kernel, by decide +kernel⟩⟩
theorem uX5_91_X7 : CU RX5 91 RX7 mX5_comesAct 2 := ⟨"KingsBalance$Standing", ⟨"KingsBalance$Standing", "comesAct", "([II)I"⟩, cX5_comesAct, 3, (some .int), cf_X5_comesAct, k847, k801, k799, k822, k820, k799, ⟨by decide +kernel, by decide +kernel⟩⟩
theorem uX5_91_X9 : CU RX5 91 RX9 mX5_comesAct 2 := ⟨"KingsBalance$Standing", ⟨"KingsBalance$Standing", "comesAct", "([II)I"⟩, cX5_comesAct, 3, (some .int), cf_X5_comesAct, k847, k801, k799, k822, k821, k799, ⟨by decide +kernel, by decide +kernel⟩⟩
theorem uX5_95_X5 : CU RX5 95 RX5 mX5_daresAct 2 := ⟨"KingsBalance$Standing", ⟨"KingsBalance$Standing", "daresAct", "([II)I"⟩, cX5_daresAct, 3, (some .int), cf_X5_daresAct, k875, k827, k825, k846, k826, k825, ⟨by decide +kernel, by decide +kernel⟩⟩
theorem uX5_95_X0 : CU RX5 95 RX0 mX0_daresAct 2 := ⟨"KingsBalance$Standing", ⟨"KingsBalance$Standing", "daresAct", "([II)I"⟩, cX5_daresAct, 3, (some .int), cf_X0_daresAct, k875, k827, k825, k846, k828, k829, ⟨by decide +kernel, by decide +kernel⟩⟩
theorem uX5_95_X1 : CU RX5 95 RX1 mX5_daresAct 2 := ⟨"KingsBalance$Standing", ⟨"KingsBalance$Standing", "daresAct", "([II)I"⟩, cX5_daresAct, 3, (some .int), cf_X5_daresAct, k875, k827, k825, k846, k834, k825, ⟨by decide +kernel, by decide +kernel⟩⟩
theorem uX5_95_X2 : CU RX5 95 RX2 mX5_daresAct 2 := ⟨"KingsBalance$Standing", ⟨"KingsBalance$Standing", "daresAct", "([II)I"⟩, cX5_daresAct, 3, (some .int), cf_X5_daresAct, k875, k827, k825, k846, k835, k825, ⟨by decide +kernel, by decide +kernel⟩⟩
theorem uX5_95_X4 : CU RX5 95 RX4 mX5_daresAct 2 := ⟨"KingsBalance$Standing", ⟨"KingsBalance$Standing", "daresAct", "([II)I"⟩, cX5_daresAct, 3, (some .int), cf_X5_daresAct, k875, k827, k825, k846, k836, k825, ⟨by decide +kernel, by decide +kernel⟩⟩
theorem uX5_95_X7 : CU RX5 95 RX7 mX7_daresAct 2 := ⟨"KingsBalance$Standing", ⟨"KingsBalance$Standing", "daresAct", "([II)I"⟩, cX5_daresAct, 3, (some .int), cf_X7_daresAct, k875, k827, k825, k846, k837, k838, ⟨by decide +kernel, by decide +kernel⟩⟩
theorem uX5_95_X9 : CU RX5 95 RX9 mX5_daresAct 2 := ⟨"KingsBalance$Standing", ⟨"KingsBalance$Standing", "daresAct", "([II)I"⟩, cX5_daresAct, 3, (some .int), cf_X5_daresAct, k875, k827, k825, k846, k845, k825, ⟨by decide +kernel, by decide +kernel⟩⟩
theorem wX6_3 : Cond.methodLink RX6 3 Lib.objectInit ∈ TT := k42
theorem fX6_9 : FdOK RX6 9 6 0 := ⟨(RX6, TX6, 3), "KingsBalance$Tape", rfl, by decide, k43, in_X6, Or.inl rfl⟩
theorem pX6_9 : FpOK RX6 9 6 0 true (.array .int) := ⟨(RX6, TX6, 3), "KingsBalance$Tape", tyX6, rfl, by decide, k43, in_X6, rfl, tyX6_ok, nmX6, rfl, by decide +kernel, fun _ => rfl⟩
theorem fX6_15 : FdOK RX6 15 6 1 := ⟨(RX6, TX6, 3), "KingsBalance$Tape", rfl, by decide, k44, in_X6, Or.inl rfl⟩
theorem pX6_15 : FpOK RX6 15 6 1 false (.int) := ⟨(RX6, TX6, 3), "KingsBalance$Tape", tyX6, rfl, by decide, k44, in_X6, rfl, tyX6_ok, nmX6, rfl, by decide +kernel, fun h => absurd h (by decide)⟩
theorem fX6_19 : FdOK RX6 19 6 2 := ⟨(RX6, TX6, 3), "KingsBalance$Tape", rfl, by decide, k47, in_X6, Or.inl rfl⟩
theorem pX6_19 : FpOK RX6 19 6 2 false (.int) := ⟨(RX6, TX6, 3), "KingsBalance$Tape", tyX6, rfl, by decide, k47, in_X6, rfl, tyX6_ok, nmX6, rfl, by decide +kernel, fun h => absurd h (by decide)⟩
theorem wX6_22 : Cond.methodLink RX6 22 arraycopyName ∈ TT := k900
theorem vX6_28 : CV RX6 28 mJ0_length_8abf5 0 := ⟨cf_J0_length_8abf5, k305, k306, k307⟩
theorem vX6_34 : CV RX6 34 mJ0_charAt_5068e 1 := ⟨cf_J0_charAt_5068e, k315, k316, k317⟩
theorem vX6_40 : CV RX6 40 mX6_pick 1 := ⟨cf_X6_pick, k371, k302, k303⟩
theorem vX7_1 : CI RX7 1 mX9_init 2 := ⟨cf_X9_init, k484, k455, by decide +kernel, rfl⟩
theorem vX7_7 : CP RX7 7 mX9_camps 3 := ⟨cf_X9_camps, k556, k1343, k487, k527, by decide +kernel⟩
theorem vX7_11 : CT RX7 11 mX5_attackers 1 := ⟨⟨"KingsBalance$True", "attackers", "(I)I"⟩, cf_X5_attackers, k557, k558, k559, rfl⟩
theorem vX7_17 : CS RX7 17 mX7_keepers 3 := ⟨cf_X7_keepers, k561, k562⟩
theorem vX7_20 : CT RX7 20 mX5_defenders 1 := ⟨⟨"KingsBalance$True", "defenders", "(I)I"⟩, cf_X5_defenders, k565, k566, k567, rfl⟩
theorem vX7_23 : CT RX7 23 mX5_joined 5 := ⟨⟨"KingsBalance$True", "joined", "(LKingsBalance$Realm;IIII)I"⟩, cf_X5_joined, k569, k570, k519, rfl⟩
theorem fX7_27 : FdOK RX7 27 3 0 := ⟨(RX3, TX3, 14), "KingsBalance$Realm", rfl, by decide, k106, in_X3, Or.inl rfl⟩
theorem fX7_33 : FdOK RX7 33 3 11 := ⟨(RX3, TX3, 14), "KingsBalance$Realm", rfl, by decide, k142, in_X3, Or.inl rfl⟩
theorem vX7_37 : CV RX7 37 mX10_costOf 3 := ⟨cf_X10_costOf, k564, k416, k417⟩
theorem fX7_42 : FdOK RX7 42 10 0 := ⟨(RX10, TX10, 11), "KingsBalance$World", rfl, by decide, k64, in_X10, Or.inl rfl⟩
theorem vX7_45 : CT RX7 45 mX5_note 2 := ⟨⟨"KingsBalance$True", "note", "([II)V"⟩, cf_X5_note, k840, k841, k808, rfl⟩
theorem vX7_49 : CQ RX7 49 mX5_daresAct 2 := ⟨⟨"KingsBalance$Web", "daresAct", "([II)I"⟩, cf_X5_daresAct, k842, k843, k487, k460, k825, rfl, by decide +kernel⟩
theorem fX7_53_X7 : FdOK RX7 53 7 1 := ⟨(RX7, TX7, 2), "KingsBalance$True", rfl, by decide, k205, in_X7, Or.inr (k206)⟩
theorem wX8_3 : Cond.methodLink RX8 3 Lib.objectInit ∈ TT := k187
theorem wX8_9 : Cond.classLink RX8 9 "KingsBalance$Sides" ∈ TT := k188
theorem vX8_13 : CI RX8 13 mX4_init 2 := ⟨cf_X4_init, k190, k191, by decide +kernel, rfl⟩
theorem fX8_16 : FdOK RX8 16 8 0 := ⟨(RX8, TX8, 3), "KingsBalance$Ways", rfl, by decide, k213, in_X8, Or.inl rfl⟩
theorem pX8_16 : FpOK RX8 16 8 0 true (.object "KingsBalance$Sides") := ⟨(RX8, TX8, 3), "KingsBalance$Ways", tyX8, rfl, by decide, k213, in_X8, rfl, tyX8_ok, nmX8, rfl, by decide +kernel, fun _ => rfl⟩
theorem fX8_20 : FdOK RX8 20 8 1 := ⟨(RX8, TX8, 3), "KingsBalance$Ways", rfl, by decide, k214, in_X8, Or.inl rfl⟩
theorem pX8_20 : FpOK RX8 20 8 1 true (.array .int) := ⟨(RX8, TX8, 3), "KingsBalance$Ways", tyX8, rfl, by decide, k214, in_X8, rfl, tyX8_ok, nmX8, rfl, by decide +kernel, fun _ => rfl⟩
theorem fX8_24 : FdOK RX8 24 8 2 := ⟨(RX8, TX8, 3), "KingsBalance$Ways", rfl, by decide, k215, in_X8, Or.inl rfl⟩
theorem pX8_24 : FpOK RX8 24 8 2 false (.int) := ⟨(RX8, TX8, 3), "KingsBalance$Ways", tyX8, rfl, by decide, k215, in_X8, rfl, tyX8_ok, nmX8, rfl, by decide +kernel, fun h => absurd h (by decide)⟩
theorem fX8_28 : FdOK RX8 28 3 1 := ⟨(RX3, TX3, 14), "KingsBalance$Realm", rfl, by decide, k111, in_X3, Or.inl rfl⟩
theorem vX8_33 : CS RX8 33 mJ6_bitCount_0f7a4 1 := ⟨cf_J6_bitCount_0f7a4, k667, k668⟩
theorem fX8_39 : FdOK RX8 39 3 13 := ⟨(RX3, TX3, 14), "KingsBalance$Realm", rfl, by decide, k149, in_X3, Or.inl rfl⟩
theorem vX8_43 : CV RX8 43 mX8_begin 1 := ⟨cf_X8_begin, k677, k679, s10⟩
theorem uX8_47_X2 : CU RX8 47 RX2 mX5_firstWar 1 := ⟨"KingsBalance$Standing", ⟨"KingsBalance$Sides", "firstWar", "(LKingsBalance$Realm;)I"⟩, cX5_firstWar, 4, (some .int), cf_X5_firstWar, k682, k683, k627, k636, k685, k627, ⟨by decide +kernel, by decide +kernel⟩⟩
theorem uX8_47_X4 : CU RX8 47 RX4 mX5_firstWar 1 := ⟨"KingsBalance$Standing", ⟨"KingsBalance$Sides", "firstWar", "(LKingsBalance$Realm;)I"⟩, cX5_firstWar, 4, (some .int), cf_X5_firstWar, k682, k683, k627, k636, k686, k627, ⟨by decide +kernel, by decide +kernel⟩⟩
theorem vX8_51 : CV RX8 51 mX8_steady 1 := ⟨cf_X8_steady, k687, k689, s11⟩
theorem vX8_55 : CV RX8 55 mX8_advance 1 := ⟨cf_X8_advance, k701, k703, s13⟩
theorem fX8_59 : FdOK RX8 59 3 0 := ⟨(RX3, TX3, 14), "KingsBalance$Realm", rfl, by decide, k108, in_X3, Or.inl rfl⟩
theorem vX8_62 : CV RX8 62 mX3_lives 1 := ⟨cf_X3_lives, k681, k265, k266⟩
theorem vX8_66 : CV RX8 66 mX8_highest 2 := ⟨cf_X8_highest, k691, k693, s12⟩
theorem wX8_70 : Cond.methodLink RX8 70 Lib.Math.max.name ∈ TT := k695
theorem uX8_76_X2 : CU RX8 76 RX2 mX5_prey 2 := ⟨"KingsBalance$Standing", ⟨"KingsBalance$Sides", "prey", "(LKingsBalance$Realm;I)I"⟩, cX5_prey, 5, (some .int), cf_X5_prey, k696, k697, k591, k600, k699, k591, ⟨by decide +kernel, by decide +kernel⟩⟩
theorem uX8_76_X4 : CU RX8 76 RX4 mX5_prey 2 := ⟨"KingsBalance$Standing", ⟨"KingsBalance$Sides", "prey", "(LKingsBalance$Realm;I)I"⟩, cX5_prey, 5, (some .int), cf_X5_prey, k696, k697, k591, k600, k700, k591, ⟨by decide +kernel, by decide +kernel⟩⟩
theorem vX9_1 : CI RX9 1 mX5_init 2 := ⟨cf_X5_init, k457, k194, by decide +kernel, rfl⟩
theorem fX9_7 : FdOK RX9 7 3 0 := ⟨(RX3, TX3, 14), "KingsBalance$Realm", rfl, by decide, k104, in_X3, Or.inl rfl⟩
theorem fX9_13 : FdOK RX9 13 3 9 := ⟨(RX3, TX3, 14), "KingsBalance$Realm", rfl, by decide, k137, in_X3, Or.inl rfl⟩
theorem vX9_17 : CT RX9 17 mX5_joined 5 := ⟨⟨"KingsBalance$Web", "joined", "(LKingsBalance$Realm;IIII)I"⟩, cf_X5_joined, k529, k530, k519, rfl⟩
theorem vX9_23 : CT RX9 23 mX5_note 2 := ⟨⟨"KingsBalance$Web", "note", "([II)V"⟩, cf_X5_note, k856, k857, k808, rfl⟩
theorem vX9_27 : CP RX9 27 mX5_holdsAct 2 := ⟨cf_X5_holdsAct, k858, k851, k460, k849, by decide +kernel⟩
theorem wX10_3 : Cond.methodLink RX10 3 Lib.objectInit ∈ TT := k62
theorem fX10_9 : FdOK RX10 9 10 0 := ⟨(RX10, TX10, 11), "KingsBalance$World", rfl, by decide, k63, in_X10, Or.inl rfl⟩
theorem pX10_9 : FpOK RX10 9 10 0 false (.int) := ⟨(RX10, TX10, 11), "KingsBalance$World", tyX10, rfl, by decide, k63, in_X10, rfl, tyX10_ok, nmX10, rfl, by decide +kernel, fun h => absurd h (by decide)⟩
theorem fX10_15 : FdOK RX10 15 10 1 := ⟨(RX10, TX10, 11), "KingsBalance$World", rfl, by decide, k66, in_X10, Or.inl rfl⟩
theorem pX10_15 : FpOK RX10 15 10 1 false (.int) := ⟨(RX10, TX10, 11), "KingsBalance$World", tyX10, rfl, by decide, k66, in_X10, rfl, tyX10_ok, nmX10, rfl, by decide +kernel, fun h => absurd h (by decide)⟩
theorem fX10_18 : FdOK RX10 18 10 2 := ⟨(RX10, TX10, 11), "KingsBalance$World", rfl, by decide, k68, in_X10, Or.inl rfl⟩
theorem pX10_18 : FpOK RX10 18 10 2 false (.int) := ⟨(RX10, TX10, 11), "KingsBalance$World", tyX10, rfl, by decide, k68, in_X10, rfl, tyX10_ok, nmX10, rfl, by decide +kernel, fun h => absurd h (by decide)⟩
theorem fX10_21 : FdOK RX10 21 10 3 := ⟨(RX10, TX10, 11), "KingsBalance$World", rfl, by decide, k70, in_X10, Or.inl rfl⟩
theorem pX10_21 : FpOK RX10 21 10 3 false (.int) := ⟨(RX10, TX10, 11), "KingsBalance$World", tyX10, rfl, by decide, k70, in_X10, rfl, tyX10_ok, nmX10, rfl, by decide +kernel, fun h => absurd h (by decide)⟩
theorem fX10_24 : FdOK RX10 24 10 4 := ⟨(RX10, TX10, 11), "KingsBalance$World", rfl, by decide, k71, in_X10, Or.inl rfl⟩
theorem pX10_24 : FpOK RX10 24 10 4 false (.int) := ⟨(RX10, TX10, 11), "KingsBalance$World", tyX10, rfl, by decide, k71, in_X10, rfl, tyX10_ok, nmX10, rfl, by decide +kernel, fun h => absurd h (by decide)⟩
theorem fX10_27 : FdOK RX10 27 10 5 := ⟨(RX10, TX10, 11), "KingsBalance$World", rfl, by decide, k72, in_X10, Or.inl rfl⟩
theorem pX10_27 : FpOK RX10 27 10 5 true (.array .int) := ⟨(RX10, TX10, 11), "KingsBalance$World", tyX10, rfl, by decide, k72, in_X10, rfl, tyX10_ok, nmX10, rfl, by decide +kernel, fun _ => rfl⟩
theorem fX10_31 : FdOK RX10 31 10 6 := ⟨(RX10, TX10, 11), "KingsBalance$World", rfl, by decide, k73, in_X10, Or.inl rfl⟩
theorem pX10_31 : FpOK RX10 31 10 6 true (.array .int) := ⟨(RX10, TX10, 11), "KingsBalance$World", tyX10, rfl, by decide, k73, in_X10, rfl, tyX10_ok, nmX10, rfl, by decide +kernel, fun _ => rfl⟩
theorem fX10_34 : FdOK RX10 34 10 7 := ⟨(RX10, TX10, 11), "KingsBalance$World", rfl, by decide, k74, in_X10, Or.inl rfl⟩
theorem pX10_34 : FpOK RX10 34 10 7 true (.array .int) := ⟨(RX10, TX10, 11), "KingsBalance$World", tyX10, rfl, by decide, k74, in_X10, rfl, tyX10_ok, nmX10, rfl, by decide +kernel, fun _ => rfl⟩
theorem fX10_37 : FdOK RX10 37 10 8 := ⟨(RX10, TX10, 11), "KingsBalance$World", rfl, by decide, k75, in_X10, Or.inl rfl⟩
theorem pX10_37 : FpOK RX10 37 10 8 true (.array .int) := ⟨(RX10, TX10, 11), "KingsBalance$World", tyX10, rfl, by decide, k75, in_X10, rfl, tyX10_ok, nmX10, rfl, by decide +kernel, fun _ => rfl⟩
theorem fX10_40 : FdOK RX10 40 10 9 := ⟨(RX10, TX10, 11), "KingsBalance$World", rfl, by decide, k76, in_X10, Or.inl rfl⟩
theorem pX10_40 : FpOK RX10 40 10 9 true (.array .int) := ⟨(RX10, TX10, 11), "KingsBalance$World", tyX10, rfl, by decide, k76, in_X10, rfl, tyX10_ok, nmX10, rfl, by decide +kernel, fun _ => rfl⟩
theorem fX10_43 : FdOK RX10 43 10 10 := ⟨(RX10, TX10, 11), "KingsBalance$World", rfl, by decide, k77, in_X10, Or.inl rfl⟩
theorem pX10_43 : FpOK RX10 43 10 10 true (.array .int) := ⟨(RX10, TX10, 11), "KingsBalance$World", tyX10, rfl, by decide, k77, in_X10, rfl, tyX10_ok, nmX10, rfl, by decide +kernel, fun _ => rfl⟩
theorem wX10_46 : Cond.methodLink RX10 46 arraycopyName ∈ TT := k407
theorem fX10_52 : FdOK RX10 52 3 6 := ⟨(RX3, TX3, 14), "KingsBalance$Realm", rfl, by decide, k128, in_X3, Or.inl rfl⟩
theorem wX10_57 : Cond.methodLink RX10 57 Lib.Math.abs.name ∈ TT := k419
theorem fX10_63 : FdOK RX10 63 3 5 := ⟨(RX3, TX3, 14), "KingsBalance$Realm", rfl, by decide, k124, in_X3, Or.inl rfl⟩
theorem fX10_66 : FdOK RX10 66 6 2 := ⟨(RX6, TX6, 3), "KingsBalance$Tape", rfl, by decide, k48, in_X6, Or.inl rfl⟩
theorem pX10_66 : FpOK RX10 66 6 2 false (.int) := ⟨(RX6, TX6, 3), "KingsBalance$Tape", tyX6, rfl, by decide, k48, in_X6, rfl, tyX6_ok, nmX6, rfl, by decide +kernel, fun h => absurd h (by decide)⟩
theorem vX10_71 : CV RX10 71 mX10_clause 1 := ⟨cf_X10_clause, k296, k298, s0⟩
theorem fX10_75 : FdOK RX10 75 6 1 := ⟨(RX6, TX6, 3), "KingsBalance$Tape", rfl, by decide, k45, in_X6, Or.inl rfl⟩
theorem vX10_80 : CV RX10 80 mX6_pick 1 := ⟨cf_X6_pick, k301, k302, k303⟩
theorem vX10_86 : CV RX10 86 mX10_priced 1 := ⟨cf_X10_priced, k353, k355, s1⟩
theorem vX10_91 : CV RX10 91 mX10_amount 2 := ⟨cf_X10_amount, k358, k360, s2⟩
theorem vX10_99 : CV RX10 99 mX6_goesOn 1 := ⟨cf_X6_goesOn, k362, k363, k364⟩
theorem vX10_103 : CV RX10 103 mX6_numeral 0 := ⟨cf_X6_numeral, k366, k367, k368⟩
theorem vX10_111 : CV RX10 111 mX10_either 2 := ⟨cf_X10_either, k373, k375, s3⟩
theorem vX10_115 : CV RX10 115 mX10_both 2 := ⟨cf_X10_both, k377, k379, s4⟩
theorem vX10_120 : CV RX10 120 mX10_step 3 := ⟨cf_X10_step, k392, k394, s7⟩
theorem vX10_124 : CV RX10 124 mX10_single 2 := ⟨cf_X10_single, k381, k383, s5⟩
theorem vX10_131 : CV RX10 131 mX10_test 1 := ⟨cf_X10_test, k386, k388, s6⟩
theorem wL_7 : Cond.classLink RL 7 "KingsBalance" ∈ TT := k21
theorem vL_9 : CI RL 9 mX11_init 0 := ⟨cf_X11_init, k23, k24, by decide +kernel, rfl⟩
theorem wL_10 : Cond.classLink RL 10 "KingsBalanceModel" ∈ TT := k910
theorem vL_12 : CI RL 12 mX12_init 0 := ⟨cf_X12_init, k912, k913, by decide +kernel, rfl⟩
theorem vL_13 : CV RL 13 mX11_king 2 := ⟨cf_X11_king, k245, k246, k247⟩
theorem vL_17 : CV RL 17 mX12_king 2 := ⟨cf_X12_king, k1013, k1014, k1015⟩
theorem vL_18 : CV RL 18 mX11_of 2 := ⟨cf_X11_of, k256, k257, k258⟩
theorem vL_21 : CV RL 21 mX12_of 2 := ⟨cf_X12_of, k1020, k1021, k1022⟩
theorem vL_22 : CV RL 22 mX11_arm 2 := ⟨cf_X11_arm, k268, k269, k270⟩
theorem vL_25 : CV RL 25 mX12_arm 2 := ⟨cf_X12_arm, k1028, k1029, k1030⟩
theorem vL_26 : CV RL 26 mX11_worth 3 := ⟨cf_X11_worth, k272, k273, k274⟩
theorem vL_30 : CV RL 30 mX12_worth 3 := ⟨cf_X12_worth, k1036, k1037, k1038⟩
theorem vL_31 : CV RL 31 mX11_pact 3 := ⟨cf_X11_pact, k276, k277, k278⟩
theorem vL_34 : CV RL 34 mX12_pact 3 := ⟨cf_X12_pact, k1040, k1041, k1042⟩
theorem vL_37 : CV RL 37 mX11_feed 2 := ⟨cf_X11_feed, k280, k281, k282⟩
theorem vL_41 : CV RL 41 mX12_feed 2 := ⟨cf_X12_feed, k1044, k1045, k1046⟩
theorem vL_42 : CV RL 42 mX11_world 0 := ⟨cf_X11_world, k288, k289, k290⟩
theorem vL_46 : CV RL 46 mX12_world 0 := ⟨cf_X12_world, k1049, k1050, k1051⟩
theorem vL_47 : CV RL 47 mX11_cost 2 := ⟨cf_X11_cost, k411, k412, k413⟩
theorem vL_50 : CV RL 50 mX12_cost 2 := ⟨cf_X12_cost, k1099, k1100, k1101⟩
theorem vL_51 : CV RL 51 mX11_force 2 := ⟨cf_X11_force, k422, k423, k424⟩
theorem vL_54 : CV RL 54 mX12_force 2 := ⟨cf_X12_force, k1110, k1111, k1112⟩
theorem vL_55 : CV RL 55 mX11_standing 2 := ⟨cf_X11_standing, k434, k435, k436⟩
theorem vL_58 : CV RL 58 mX12_standing 2 := ⟨cf_X12_standing, k1118, k1119, k1120⟩
theorem vL_59 : CV RL 59 mX11_block 3 := ⟨cf_X11_block, k494, k495, k496⟩
theorem vL_62 : CV RL 62 mX12_block 3 := ⟨cf_X12_block, k1122, k1123, k1124⟩
theorem vL_63 : CV RL 63 mX11_comes 4 := ⟨cf_X11_comes, k502, k503, k504⟩
theorem vL_67 : CV RL 67 mX12_comes 4 := ⟨cf_X12_comes, k1130, k1131, k1132⟩
theorem vL_68 : CV RL 68 mX11_war 4 := ⟨cf_X11_war, k576, k577, k578⟩
theorem vL_72 : CV RL 72 mX12_war 4 := ⟨cf_X12_war, k1170, k1171, k1172⟩
theorem vL_73 : CV RL 73 mX11_dares 3 := ⟨cf_X11_dares, k586, k587, k588⟩
theorem vL_76 : CV RL 76 mX12_dares 3 := ⟨cf_X12_dares, k1183, k1184, k1185⟩
theorem vL_77 : CV RL 77 mX11_first 1 := ⟨cf_X11_first, k622, k623, k624⟩
theorem vL_81 : CV RL 81 mX12_first 1 := ⟨cf_X12_first, k1195, k1196, k1197⟩
theorem vL_82 : CV RL 82 mX11_keeps 3 := ⟨cf_X11_keeps, k637, k638, k639⟩
theorem vL_85 : CV RL 85 mX12_keeps 3 := ⟨cf_X12_keeps, k1203, k1204, k1205⟩
theorem vL_86 : CV RL 86 mX11_empty 1 := ⟨cf_X11_empty, k650, k651, k652⟩
theorem vL_89 : CV RL 89 mX12_empty 1 := ⟨cf_X12_empty, k1211, k1212, k1213⟩
theorem vL_90 : CV RL 90 mX11_all 1 := ⟨cf_X11_all, k659, k660, k661⟩
theorem vL_93 : CV RL 93 mX12_all 1 := ⟨cf_X12_all, k1215, k1216, k1217⟩
theorem vL_94 : CV RL 94 mX11_quiet 3 := ⟨cf_X11_quiet, k705, k706, k707⟩
theorem vL_98 : CV RL 98 mX12_quiet 3 := ⟨cf_X12_quiet, k1238, k1239, k1240⟩
theorem vL_99 : CV RL 99 mX11_lead 3 := ⟨cf_X11_lead, k717, k718, k719⟩
theorem vL_102 : CV RL 102 mX12_lead 3 := ⟨cf_X12_lead, k1242, k1243, k1244⟩
theorem vL_103 : CV RL 103 mX11_next 1 := ⟨cf_X11_next, k747, k748, k749⟩
theorem vL_106 : CV RL 106 mX12_next 1 := ⟨cf_X12_next, k1251, k1252, k1253⟩
theorem vL_107 : CV RL 107 mX11_edge 1 := ⟨cf_X11_edge, k751, k752, k753⟩
theorem vL_110 : CV RL 110 mX12_edge 1 := ⟨cf_X12_edge, k1255, k1256, k1257⟩
theorem vL_111 : CV RL 111 mX11_courted 0 := ⟨cf_X11_courted, k760, k761, k762⟩
theorem vL_114 : CV RL 114 mX12_courted 0 := ⟨cf_X12_courted, k1263, k1264, k1265⟩
theorem vL_115 : CV RL 115 mX11_race 1 := ⟨cf_X11_race, k764, k765, k766⟩
theorem vL_118 : CV RL 118 mX12_race 1 := ⟨cf_X12_race, k1267, k1268, k1269⟩
theorem vL_119 : CV RL 119 mX11_few 2 := ⟨cf_X11_few, k772, k773, k774⟩
theorem vL_122 : CV RL 122 mX12_few 2 := ⟨cf_X12_few, k1271, k1272, k1273⟩
theorem vL_123 : CV RL 123 mX11_guarded 1 := ⟨cf_X11_guarded, k780, k781, k782⟩
theorem vL_126 : CV RL 126 mX12_guarded 1 := ⟨cf_X12_guarded, k1279, k1280, k1281⟩
theorem vL_127 : CV RL 127 mX11_marry 4 := ⟨cf_X11_marry, k784, k785, k786⟩
theorem vL_130 : CV RL 130 mX12_marry 4 := ⟨cf_X12_marry, k1283, k1284, k1285⟩
theorem vL_131 : CV RL 131 mX11_act 3 := ⟨cf_X11_act, k794, k795, k796⟩
theorem vL_134 : CV RL 134 mX12_act 3 := ⟨cf_X12_act, k1287, k1288, k1289⟩
theorem vL_135 : CV RL 135 mX11_trace 1 := ⟨cf_X11_trace, k876, k877, k878⟩
theorem vL_138 : CV RL 138 mX12_trace 1 := ⟨cf_X12_trace, k1322, k1323, k1324⟩
theorem vL_139 : CV RL 139 mX11_as 2 := ⟨cf_X11_as, k880, k881, k882⟩
theorem vL_142 : CV RL 142 mX12_as 2 := ⟨cf_X12_as, k1326, k1327, k1328⟩
theorem vL_143 : CV RL 143 mX11_image 0 := ⟨cf_X11_image, k887, k888, k889⟩
theorem vL_146 : CV RL 146 mX12_image 0 := ⟨cf_X12_image, k1330, k1331, k1332⟩
theorem vL_147 : CV RL 147 mX11_undo 0 := ⟨cf_X11_undo, k902, k903, k904⟩
theorem vL_150 : CV RL 150 mX12_undo 0 := ⟨cf_X12_undo, k1334, k1335, k1336⟩
theorem vL_151 : CV RL 151 mX11_count 1 := ⟨cf_X11_count, k906, k907, k908⟩
theorem vL_154 : CV RL 154 mX12_count 1 := ⟨cf_X12_count, k1338, k1339, k1340⟩
theorem wX12_3 : Cond.methodLink RX12 3 Lib.objectInit ∈ TT := k915
theorem fX12_9 : FdOK RX12 9 12 1 := ⟨(RX12, TX12, 32), "KingsBalanceModel", rfl, by decide, k916, in_X12, Or.inl rfl⟩
theorem pX12_9 : FpOK RX12 9 12 1 true (.array .int) := ⟨(RX12, TX12, 32), "KingsBalanceModel", tyX12, rfl, by decide, k916, in_X12, rfl, tyX12_ok, nmX12, rfl, by decide +kernel, fun _ => rfl⟩
theorem fX12_15 : FdOK RX12 15 12 2 := ⟨(RX12, TX12, 32), "KingsBalanceModel", rfl, by decide, k917, in_X12, Or.inl rfl⟩
theorem pX12_15 : FpOK RX12 15 12 2 true (.array .int) := ⟨(RX12, TX12, 32), "KingsBalanceModel", tyX12, rfl, by decide, k917, in_X12, rfl, tyX12_ok, nmX12, rfl, by decide +kernel, fun _ => rfl⟩
theorem fX12_18 : FdOK RX12 18 12 8 := ⟨(RX12, TX12, 32), "KingsBalanceModel", rfl, by decide, k923, in_X12, Or.inl rfl⟩
theorem pX12_18 : FpOK RX12 18 12 8 true (.array .int) := ⟨(RX12, TX12, 32), "KingsBalanceModel", tyX12, rfl, by decide, k923, in_X12, rfl, tyX12_ok, nmX12, rfl, by decide +kernel, fun _ => rfl⟩
theorem fX12_21 : FdOK RX12 21 12 9 := ⟨(RX12, TX12, 32), "KingsBalanceModel", rfl, by decide, k924, in_X12, Or.inl rfl⟩
theorem pX12_21 : FpOK RX12 21 12 9 true (.array .int) := ⟨(RX12, TX12, 32), "KingsBalanceModel", tyX12, rfl, by decide, k924, in_X12, rfl, tyX12_ok, nmX12, rfl, by decide +kernel, fun _ => rfl⟩
theorem fX12_24 : FdOK RX12 24 12 11 := ⟨(RX12, TX12, 32), "KingsBalanceModel", rfl, by decide, k926, in_X12, Or.inl rfl⟩
theorem pX12_24 : FpOK RX12 24 12 11 true (.array .boolean) := ⟨(RX12, TX12, 32), "KingsBalanceModel", tyX12, rfl, by decide, k926, in_X12, rfl, tyX12_ok, nmX12, rfl, by decide +kernel, fun _ => rfl⟩
theorem fX12_28 : FdOK RX12 28 12 12 := ⟨(RX12, TX12, 32), "KingsBalanceModel", rfl, by decide, k927, in_X12, Or.inl rfl⟩
theorem pX12_28 : FpOK RX12 28 12 12 true (.array .int) := ⟨(RX12, TX12, 32), "KingsBalanceModel", tyX12, rfl, by decide, k927, in_X12, rfl, tyX12_ok, nmX12, rfl, by decide +kernel, fun _ => rfl⟩
theorem fX12_31 : FdOK RX12 31 12 26 := ⟨(RX12, TX12, 32), "KingsBalanceModel", rfl, by decide, k941, in_X12, Or.inl rfl⟩
theorem pX12_31 : FpOK RX12 31 12 26 true (.array .int) := ⟨(RX12, TX12, 32), "KingsBalanceModel", tyX12, rfl, by decide, k941, in_X12, rfl, tyX12_ok, nmX12, rfl, by decide +kernel, fun _ => rfl⟩
theorem fX12_34 : FdOK RX12 34 12 27 := ⟨(RX12, TX12, 32), "KingsBalanceModel", rfl, by decide, k942, in_X12, Or.inl rfl⟩
theorem pX12_34 : FpOK RX12 34 12 27 true (.array .int) := ⟨(RX12, TX12, 32), "KingsBalanceModel", tyX12, rfl, by decide, k942, in_X12, rfl, tyX12_ok, nmX12, rfl, by decide +kernel, fun _ => rfl⟩
theorem vX12_41 : CS RX12 41 mX12_in 3 := ⟨cf_X12_in, k1017, k1018⟩
theorem vX12_45 : CV RX12 45 mX12_isKing 1 := ⟨cf_X12_isKing, k1024, k1026, s17⟩
theorem vX12_49 : CV RX12 49 mX12_isAlive 1 := ⟨cf_X12_isAlive, k1032, k1034, s18⟩
theorem fX12_54 : FdOK RX12 54 12 4 := ⟨(RX12, TX12, 32), "KingsBalanceModel", rfl, by decide, k919, in_X12, Or.inl rfl⟩
theorem pX12_54 : FpOK RX12 54 12 4 false (.int) := ⟨(RX12, TX12, 32), "KingsBalanceModel", tyX12, rfl, by decide, k919, in_X12, rfl, tyX12_ok, nmX12, rfl, by decide +kernel, fun h => absurd h (by decide)⟩
theorem fX12_57 : FdOK RX12 57 12 5 := ⟨(RX12, TX12, 32), "KingsBalanceModel", rfl, by decide, k920, in_X12, Or.inl rfl⟩
theorem pX12_57 : FpOK RX12 57 12 5 false (.int) := ⟨(RX12, TX12, 32), "KingsBalanceModel", tyX12, rfl, by decide, k920, in_X12, rfl, tyX12_ok, nmX12, rfl, by decide +kernel, fun h => absurd h (by decide)⟩
theorem fX12_60 : FdOK RX12 60 12 6 := ⟨(RX12, TX12, 32), "KingsBalanceModel", rfl, by decide, k921, in_X12, Or.inl rfl⟩
theorem pX12_60 : FpOK RX12 60 12 6 false (.boolean) := ⟨(RX12, TX12, 32), "KingsBalanceModel", tyX12, rfl, by decide, k921, in_X12, rfl, tyX12_ok, nmX12, rfl, by decide +kernel, fun h => absurd h (by decide)⟩
theorem vX12_64 : CV RX12 64 mX12_here 0 := ⟨cf_X12_here, k1057, k1059, s20⟩
theorem vX12_68 : CV RX12 68 mJ0_length_8abf5 0 := ⟨cf_J0_length_8abf5, k1066, k306, k307⟩
theorem vX12_73 : CV RX12 73 mJ0_charAt_5068e 1 := ⟨cf_J0_charAt_5068e, k1067, k316, k317⟩
theorem vX12_77 : CV RX12 77 mX12_must 1 := ⟨cf_X12_must, k1068, k1070, s22⟩
theorem fX12_81 : FdOK RX12 81 12 10 := ⟨(RX12, TX12, 32), "KingsBalanceModel", rfl, by decide, k925, in_X12, Or.inl rfl⟩
theorem pX12_81 : FpOK RX12 81 12 10 false (.int) := ⟨(RX12, TX12, 32), "KingsBalanceModel", tyX12, rfl, by decide, k925, in_X12, rfl, tyX12_ok, nmX12, rfl, by decide +kernel, fun h => absurd h (by decide)⟩
theorem fX12_84 : FdOK RX12 84 12 7 := ⟨(RX12, TX12, 32), "KingsBalanceModel", rfl, by decide, k922, in_X12, Or.inl rfl⟩
theorem pX12_84 : FpOK RX12 84 12 7 false (.int) := ⟨(RX12, TX12, 32), "KingsBalanceModel", tyX12, rfl, by decide, k922, in_X12, rfl, tyX12_ok, nmX12, rfl, by decide +kernel, fun h => absurd h (by decide)⟩
theorem vX12_87 : CV RX12 87 mX12_factor 0 := ⟨cf_X12_factor, k1084, k1086, s26⟩
theorem vX12_90 : CV RX12 90 mX12_emits 1 := ⟨cf_X12_emits, k1088, k1090, s27⟩
theorem vX12_93 : CV RX12 93 mX12_some 0 := ⟨cf_X12_some, k1076, k1078, s24⟩
theorem vX12_96 : CV RX12 96 mX12_figures 0 := ⟨cf_X12_figures, k1072, k1074, s23⟩
theorem vX12_99 : CV RX12 99 mX12_every 0 := ⟨cf_X12_every, k1080, k1082, s25⟩
theorem vX12_102 : CV RX12 102 mX12_spells 1 := ⟨cf_X12_spells, k1062, k1064, s21⟩
theorem vX12_110 : CV RX12 110 mX12_tells 2 := ⟨cf_X12_tells, k1093, k1095, s28⟩
theorem vX12_118 : CV RX12 118 mX12_clause 0 := ⟨cf_X12_clause, k1053, k1055, s19⟩
theorem vX12_121 : CS RX12 121 mX12_size 1 := ⟨cf_X12_size, k1107, k1108⟩
theorem vX12_125 : CV RX12 125 mX12_costOf 2 := ⟨cf_X12_costOf, k1103, k1105, s29⟩
theorem vX12_129 : CV RX12 129 mX12_forceOf 2 := ⟨cf_X12_forceOf, k1114, k1116, s30⟩
theorem vX12_132 : CV RX12 132 mX12_isStanding 1 := ⟨cf_X12_isStanding, k1126, k1128, s31⟩
theorem fX12_135 : FdOK RX12 135 12 13 := ⟨(RX12, TX12, 32), "KingsBalanceModel", rfl, by decide, k928, in_X12, Or.inl rfl⟩
theorem pX12_135 : FpOK RX12 135 12 13 false (.int) := ⟨(RX12, TX12, 32), "KingsBalanceModel", tyX12, rfl, by decide, k928, in_X12, rfl, tyX12_ok, nmX12, rfl, by decide +kernel, fun h => absurd h (by decide)⟩
theorem fX12_138 : FdOK RX12 138 12 14 := ⟨(RX12, TX12, 32), "KingsBalanceModel", rfl, by decide, k929, in_X12, Or.inl rfl⟩
theorem pX12_138 : FpOK RX12 138 12 14 false (.int) := ⟨(RX12, TX12, 32), "KingsBalanceModel", tyX12, rfl, by decide, k929, in_X12, rfl, tyX12_ok, nmX12, rfl, by decide +kernel, fun h => absurd h (by decide)⟩
theorem vX12_141 : CV RX12 141 mX12_blockOf 1 := ⟨cf_X12_blockOf, k1150, k1152, s36⟩
theorem fX12_144 : FdOK RX12 144 12 15 := ⟨(RX12, TX12, 32), "KingsBalanceModel", rfl, by decide, k930, in_X12, Or.inl rfl⟩
theorem pX12_144 : FpOK RX12 144 12 15 false (.int) := ⟨(RX12, TX12, 32), "KingsBalanceModel", tyX12, rfl, by decide, k930, in_X12, rfl, tyX12_ok, nmX12, rfl, by decide +kernel, fun h => absurd h (by decide)⟩
theorem fX12_147 : FdOK RX12 147 12 16 := ⟨(RX12, TX12, 32), "KingsBalanceModel", rfl, by decide, k931, in_X12, Or.inl rfl⟩
theorem pX12_147 : FpOK RX12 147 12 16 false (.int) := ⟨(RX12, TX12, 32), "KingsBalanceModel", tyX12, rfl, by decide, k931, in_X12, rfl, tyX12_ok, nmX12, rfl, by decide +kernel, fun h => absurd h (by decide)⟩
theorem vX12_150 : CV RX12 150 mX12_strengths 1 := ⟨cf_X12_strengths, k1154, k1156, s37⟩
theorem vX12_153 : CV RX12 153 mX12_alive 0 := ⟨cf_X12_alive, k1142, k1144, s34⟩
theorem vX12_156 : CV RX12 156 mX12_pactOf 2 := ⟨cf_X12_pactOf, k1162, k1164, s39⟩
theorem vX12_159 : CV RX12 159 mX12_isTrue 2 := ⟨cf_X12_isTrue, k1166, k1168, s40⟩
theorem vX12_163 : CV RX12 163 mX12_sides 2 := ⟨cf_X12_sides, k1146, k1148, s35⟩
theorem vX12_167 : CV RX12 167 mX12_web 2 := ⟨cf_X12_web, k1158, k1160, s38⟩
theorem vX12_170 : CV RX12 170 mX12_takes 1 := ⟨cf_X12_takes, k1134, k1136, s32⟩
theorem vX12_173 : CV RX12 173 mX12_comesTo 2 := ⟨cf_X12_comesTo, k1138, k1140, s33⟩
theorem fX12_176 : FdOK RX12 176 12 17 := ⟨(RX12, TX12, 32), "KingsBalanceModel", rfl, by decide, k932, in_X12, Or.inl rfl⟩
theorem pX12_176 : FpOK RX12 176 12 17 false (.int) := ⟨(RX12, TX12, 32), "KingsBalanceModel", tyX12, rfl, by decide, k932, in_X12, rfl, tyX12_ok, nmX12, rfl, by decide +kernel, fun h => absurd h (by decide)⟩
theorem fX12_179 : FdOK RX12 179 12 18 := ⟨(RX12, TX12, 32), "KingsBalanceModel", rfl, by decide, k933, in_X12, Or.inl rfl⟩
theorem pX12_179 : FpOK RX12 179 12 18 false (.int) := ⟨(RX12, TX12, 32), "KingsBalanceModel", tyX12, rfl, by decide, k933, in_X12, rfl, tyX12_ok, nmX12, rfl, by decide +kernel, fun h => absurd h (by decide)⟩
theorem vX12_182 : CV RX12 182 mX12_sums 2 := ⟨cf_X12_sums, k1179, k1181, s42⟩
theorem vX12_187 : CV RX12 187 mX12_gainOf 2 := ⟨cf_X12_gainOf, k1175, k1177, s41⟩
theorem vX12_190 : CV RX12 190 mX12_doesDare 2 := ⟨cf_X12_doesDare, k1191, k1193, s44⟩
theorem vX12_193 : CV RX12 193 mX12_darers 1 := ⟨cf_X12_darers, k1187, k1189, s43⟩
theorem vX12_196 : CV RX12 196 mX12_firstWar 0 := ⟨cf_X12_firstWar, k1199, k1201, s45⟩
theorem vX12_199 : CV RX12 199 mX12_doesKeep 3 := ⟨cf_X12_doesKeep, k1207, k1209, s46⟩
theorem vX12_202 : CV RX12 202 mX12_doesDareAny 1 := ⟨cf_X12_doesDareAny, k1234, k1236, s50⟩
theorem fX12_205 : FdOK RX12 205 12 19 := ⟨(RX12, TX12, 32), "KingsBalanceModel", rfl, by decide, k934, in_X12, Or.inl rfl⟩
theorem pX12_205 : FpOK RX12 205 12 19 false (.int) := ⟨(RX12, TX12, 32), "KingsBalanceModel", tyX12, rfl, by decide, k934, in_X12, rfl, tyX12_ok, nmX12, rfl, by decide +kernel, fun h => absurd h (by decide)⟩
theorem vX12_208 : CV RX12 208 mX12_wouldHold 1 := ⟨cf_X12_wouldHold, k1230, k1232, s49⟩
theorem fX12_211 : FdOK RX12 211 12 24 := ⟨(RX12, TX12, 32), "KingsBalanceModel", rfl, by decide, k939, in_X12, Or.inl rfl⟩
theorem pX12_211 : FpOK RX12 211 12 24 false (.boolean) := ⟨(RX12, TX12, 32), "KingsBalanceModel", tyX12, rfl, by decide, k939, in_X12, rfl, tyX12_ok, nmX12, rfl, by decide +kernel, fun h => absurd h (by decide)⟩
theorem fX12_214 : FdOK RX12 214 12 21 := ⟨(RX12, TX12, 32), "KingsBalanceModel", rfl, by decide, k936, in_X12, Or.inl rfl⟩
theorem pX12_214 : FpOK RX12 214 12 21 false (.int) := ⟨(RX12, TX12, 32), "KingsBalanceModel", tyX12, rfl, by decide, k936, in_X12, rfl, tyX12_ok, nmX12, rfl, by decide +kernel, fun h => absurd h (by decide)⟩
theorem fX12_217 : FdOK RX12 217 12 20 := ⟨(RX12, TX12, 32), "KingsBalanceModel", rfl, by decide, k935, in_X12, Or.inl rfl⟩
theorem pX12_217 : FpOK RX12 217 12 20 false (.int) := ⟨(RX12, TX12, 32), "KingsBalanceModel", tyX12, rfl, by decide, k935, in_X12, rfl, tyX12_ok, nmX12, rfl, by decide +kernel, fun h => absurd h (by decide)⟩
theorem fX12_220 : FdOK RX12 220 12 22 := ⟨(RX12, TX12, 32), "KingsBalanceModel", rfl, by decide, k937, in_X12, Or.inl rfl⟩
theorem pX12_220 : FpOK RX12 220 12 22 false (.int) := ⟨(RX12, TX12, 32), "KingsBalanceModel", tyX12, rfl, by decide, k937, in_X12, rfl, tyX12_ok, nmX12, rfl, by decide +kernel, fun h => absurd h (by decide)⟩
theorem fX12_223 : FdOK RX12 223 12 23 := ⟨(RX12, TX12, 32), "KingsBalanceModel", rfl, by decide, k938, in_X12, Or.inl rfl⟩
theorem pX12_223 : FpOK RX12 223 12 23 false (.int) := ⟨(RX12, TX12, 32), "KingsBalanceModel", tyX12, rfl, by decide, k938, in_X12, rfl, tyX12_ok, nmX12, rfl, by decide +kernel, fun h => absurd h (by decide)⟩
theorem fX12_226 : FdOK RX12 226 12 25 := ⟨(RX12, TX12, 32), "KingsBalanceModel", rfl, by decide, k940, in_X12, Or.inl rfl⟩
theorem pX12_226 : FpOK RX12 226 12 25 false (.int) := ⟨(RX12, TX12, 32), "KingsBalanceModel", tyX12, rfl, by decide, k940, in_X12, rfl, tyX12_ok, nmX12, rfl, by decide +kernel, fun h => absurd h (by decide)⟩
theorem vX12_229 : CV RX12 229 mX12_parts 2 := ⟨cf_X12_parts, k1226, k1228, s48⟩
theorem vX12_232 : CS RX12 232 mX12_count1 1 := ⟨cf_X12_count1, k1219, k1220⟩
theorem vX12_235 : CV RX12 235 mX12_partsAll 3 := ⟨cf_X12_partsAll, k1222, k1224, s47⟩
theorem vX12_241 : CV RX12 241 mX12_leads 2 := ⟨cf_X12_leads, k1246, k1248, s51⟩
theorem vX12_244 : CV RX12 244 mX12_turnsOf 1 := ⟨cf_X12_turnsOf, k1259, k1261, s52⟩
theorem vX12_247 : CV RX12 247 mX12_isQuietWith 2 := ⟨cf_X12_isQuietWith, k1275, k1277, s53⟩
theorem fX12_250 : FdOK RX12 250 12 28 := ⟨(RX12, TX12, 32), "KingsBalanceModel", rfl, by decide, k943, in_X12, Or.inl rfl⟩
theorem pX12_250 : FpOK RX12 250 12 28 false (.int) := ⟨(RX12, TX12, 32), "KingsBalanceModel", tyX12, rfl, by decide, k943, in_X12, rfl, tyX12_ok, nmX12, rfl, by decide +kernel, fun h => absurd h (by decide)⟩
theorem vX12_253 : CV RX12 253 mX12_runs 1 := ⟨cf_X12_runs, k1295, k1297, s55⟩
theorem fX12_256 : FdOK RX12 256 12 30 := ⟨(RX12, TX12, 32), "KingsBalanceModel", rfl, by decide, k945, in_X12, Or.inl rfl⟩
theorem pX12_256 : FpOK RX12 256 12 30 false (.int) := ⟨(RX12, TX12, 32), "KingsBalanceModel", tyX12, rfl, by decide, k945, in_X12, rfl, tyX12_ok, nmX12, rfl, by decide +kernel, fun h => absurd h (by decide)⟩
theorem fX12_259 : FdOK RX12 259 12 29 := ⟨(RX12, TX12, 32), "KingsBalanceModel", rfl, by decide, k944, in_X12, Or.inl rfl⟩
theorem pX12_259 : FpOK RX12 259 12 29 false (.int) := ⟨(RX12, TX12, 32), "KingsBalanceModel", tyX12, rfl, by decide, k944, in_X12, rfl, tyX12_ok, nmX12, rfl, by decide +kernel, fun h => absurd h (by decide)⟩
theorem vX12_262 : CV RX12 262 mX12_plainComes 1 := ⟨cf_X12_plainComes, k1299, k1301, s56⟩
theorem vX12_265 : CS RX12 265 mX12_isUnder 2 := ⟨cf_X12_isUnder, k1303, k1304⟩
theorem vX12_268 : CV RX12 268 mX12_comesActs 1 := ⟨cf_X12_comesActs, k1291, k1293, s54⟩
theorem fX12_271 : FdOK RX12 271 12 31 := ⟨(RX12, TX12, 32), "KingsBalanceModel", rfl, by decide, k946, in_X12, Or.inl rfl⟩
theorem pX12_271 : FpOK RX12 271 12 31 false (.int) := ⟨(RX12, TX12, 32), "KingsBalanceModel", tyX12, rfl, by decide, k946, in_X12, rfl, tyX12_ok, nmX12, rfl, by decide +kernel, fun h => absurd h (by decide)⟩
theorem vX12_274 : CV RX12 274 mX12_plainDares 1 := ⟨cf_X12_plainDares, k1310, k1312, s58⟩
theorem vX12_277 : CV RX12 277 mX12_daresActs 1 := ⟨cf_X12_daresActs, k1306, k1308, s57⟩
theorem vX12_280 : CV RX12 280 mX12_plainHolds 1 := ⟨cf_X12_plainHolds, k1318, k1320, s60⟩
theorem vX12_283 : CV RX12 283 mX12_holdsActs 1 := ⟨cf_X12_holdsActs, k1314, k1316, s59⟩
theorem fX12_286 : FdOK RX12 286 12 3 := ⟨(RX12, TX12, 32), "KingsBalanceModel", rfl, by decide, k918, in_X12, Or.inl rfl⟩
theorem pX12_286 : FpOK RX12 286 12 3 false (.boolean) := ⟨(RX12, TX12, 32), "KingsBalanceModel", tyX12, rfl, by decide, k918, in_X12, rfl, tyX12_ok, nmX12, rfl, by decide +kernel, fun h => absurd h (by decide)⟩
theorem wJ0_9 : Cond.fieldLink RJ0 9 "java/lang/String" "value" "[B" ∈ TT := k1358
theorem wJ0_15 : Cond.fieldLink RJ0 15 "java/lang/String" "coder" "B" ∈ TT := k1359
theorem wJ0_38 : Cond.fieldLink RJ0 38 "java/lang/String" "COMPACT_STRINGS" "Z" ∈ TT := k313
theorem vJ0_335 : CV RJ0 335 mJ0_coder_7d493 0 := ⟨cf_J0_coder_7d493, k309, k310, k311⟩
theorem vJ0_492 : CV RJ0 492 mJ0_isLatin1_aae02 0 := ⟨cf_J0_isLatin1_aae02, k319, k320, k321⟩
theorem vJ0_495 : CS RJ0 495 mJ1_charAt_3b067 2 := ⟨cf_J1_charAt_3b067, k323, k324⟩
theorem vJ0_498 : CS RJ0 498 mJ2_charAt_3b067 2 := ⟨cf_J2_charAt_3b067, k334, k335⟩
theorem wJ0_1053 : Cond.fieldLink RJ0 1053 "jdk/internal/util/Preconditions" "SIOOBE_FORMATTER" "Ljava/util/function/BiFunction;" ∈ TT := k329
theorem vJ0_1059 : CS RJ0 1059 mJ3_checkIndex_8e157 3 := ⟨cf_J3_checkIndex_8e157, k331, k332⟩
theorem vJ1_9 : CS RJ1 9 mJ0_checkIndex_df160 2 := ⟨cf_J0_checkIndex_df160, k326, k327⟩
theorem wJ2_44 : Cond.fieldLink RJ2 44 "java/lang/StringUTF16" "$assertionsDisabled" "Z" ∈ TT := k347
theorem vJ2_48 : CS RJ2 48 mJ2_length_9d52b 1 := ⟨cf_J2_length_9d52b, k340, k341⟩
theorem wJ2_59 : Cond.fieldLink RJ2 59 "java/lang/StringUTF16" "HI_BYTE_SHIFT" "I" ∈ TT := k349
theorem wJ2_63 : Cond.fieldLink RJ2 63 "java/lang/StringUTF16" "LO_BYTE_SHIFT" "I" ∈ TT := k351
theorem vJ2_67 : CS RJ2 67 mJ2_checkIndex_2214a 2 := ⟨cf_J2_checkIndex_2214a, k337, k338⟩
theorem vJ2_71 : CS RJ2 71 mJ2_getChar_3b067 2 := ⟨cf_J2_getChar_3b067, k344, k345⟩
theorem vJ2_414 : CS RJ2 414 mJ0_checkIndex_df160 2 := ⟨cf_J0_checkIndex_df160, k343, k327⟩
theorem w_init_L : Cond.initialized RL ∈ TT := k0
theorem w_init_X11 : Cond.initialized RX11 ∈ TT := k1
theorem w_init_X3 : Cond.initialized RX3 ∈ TT := k2
theorem w_init_X6 : Cond.initialized RX6 ∈ TT := k3
theorem w_init_X10 : Cond.initialized RX10 ∈ TT := k4
theorem w_init_X8 : Cond.initialized RX8 ∈ TT := k5
theorem w_init_X5 : Cond.initialized RX5 ∈ TT := k6
theorem w_init_X4 : Cond.initialized RX4 ∈ TT := k7
theorem w_init_X12 : Cond.initialized RX12 ∈ TT := k8
theorem w_init_J0 : Cond.initialized RJ0 ∈ TT := k9
theorem w_init_J1 : Cond.initialized RJ1 ∈ TT := k10
theorem w_init_J3 : Cond.initialized RJ3 ∈ TT := k11
theorem w_init_J2 : Cond.initialized RJ2 ∈ TT := k12
theorem w_init_J10 : Cond.initialized RJ10 ∈ TT := k13
theorem w_init_J9 : Cond.initialized RJ9 ∈ TT := k14
theorem w_init_X0 : Cond.initialized RX0 ∈ TT := k15
theorem w_init_X9 : Cond.initialized RX9 ∈ TT := k16
theorem w_init_X2 : Cond.initialized RX2 ∈ TT := k17
theorem w_init_X1 : Cond.initialized RX1 ∈ TT := k18
theorem w_init_X7 : Cond.initialized RX7 ∈ TT := k19
theorem w_init_J6 : Cond.initialized RJ6 ∈ TT := k20
theorem w_inst_X11 : Cond.instantiable RX11 7 ∈ TT := k22
theorem w_inst_X3 : Cond.instantiable RX3 14 ∈ TT := k30
theorem w_inst_X6 : Cond.instantiable RX6 3 ∈ TT := k38
theorem w_inst_X10 : Cond.instantiable RX10 11 ∈ TT := k58
theorem w_inst_X8 : Cond.instantiable RX8 3 ∈ TT := k183
theorem w_inst_X4 : Cond.instantiable RX4 2 ∈ TT := k189
theorem w_inst_X0 : Cond.instantiable RX0 2 ∈ TT := k442
theorem w_inst_X9 : Cond.instantiable RX9 2 ∈ TT := k453
theorem w_inst_X2 : Cond.instantiable RX2 2 ∈ TT := k462
theorem w_inst_X1 : Cond.instantiable RX1 2 ∈ TT := k471
theorem w_inst_X7 : Cond.instantiable RX7 2 ∈ TT := k480
theorem w_inst_X5 : Cond.instantiable RX5 2 ∈ TT := k489
theorem wX11_148 : Cond.constantLong RX11 148 (-9223372036854775808) ∈ TT := k580
theorem wJ6_265 : Cond.constant RJ6 265 (1431655765) ∈ TT := k670
theorem wJ6_266 : Cond.constant RJ6 266 (858993459) ∈ TT := k671
theorem wJ6_267 : Cond.constant RJ6 267 (252645135) ∈ TT := k672
theorem w_inst_X12 : Cond.instantiable RX12 32 ∈ TT := k911
theorem wX12_52 : Cond.constantLong RX12 52 (255) ∈ TT := k1048
theorem wX12_185 : Cond.constantLong RX12 185 (-9223372036854775808) ∈ TT := k1174
theorem wX12_239 : Cond.constantLong RX12 239 (2) ∈ TT := k1250
theorem wL_35 : Cond.constantLong RL 35 (4294967295) ∈ TT := k1342
theorem w_acI : Cond.arrayClass .int ∈ TT := k56
theorem w_acZ : Cond.arrayClass .boolean ∈ TT := k1012
theorem w_oi2 : Cond.instanceMethod Lib.objectInit ∈ TT := k27
theorem w_oi3 : Cond.code Lib.objectInit ⟨#[0xb1]⟩ 1 none ∈ TT := k28
theorem w_max2 : Cond.static Lib.Math.max.name ∈ TT := k432
theorem w_max4 : Cond.code Lib.Math.max.name Lib.Math.max.code 2 (some .int) ∈ TT := k433
theorem w_min2 : Cond.static Lib.Math.min.name ∈ TT := k745
theorem w_min4 : Cond.code Lib.Math.min.name Lib.Math.min.code 2 (some .int) ∈ TT := k746
theorem w_abs2 : Cond.static Lib.Math.abs.name ∈ TT := k420
theorem w_abs4 : Cond.code Lib.Math.abs.name Lib.Math.abs.code 1 (some .int) ∈ TT := k421
theorem w_math3 : Cond.initialized "java/lang/Math" ∈ TT := k14
theorem w_ac2 : Cond.native arraycopyName ∈ TT := k409
theorem w_ac3 : Cond.static arraycopyName ∈ TT := k408
theorem w_ac4 : Cond.initialized "java/lang/System" ∈ TT := k13
