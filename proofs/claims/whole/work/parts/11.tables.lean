theorem kl_0 : KL 0 RX0 TX0 6 tyX0 := ⟨rfl, by decide +kernel, tyX0_ok, nmX0, rfl⟩
theorem kl_1 : KL 1 RX1 TX1 4 tyX1 := ⟨rfl, by decide +kernel, tyX1_ok, nmX1, rfl⟩
theorem kl_2 : KL 2 RX2 TX2 6 tyX2 := ⟨rfl, by decide +kernel, tyX2_ok, nmX2, rfl⟩
theorem kl_3 : KL 3 RX3 TX3 1 tyX3 := ⟨rfl, by decide +kernel, tyX3_ok, nmX3, rfl⟩
theorem kl_4 : KL 4 RX4 TX4 4 tyX4 := ⟨rfl, by decide +kernel, tyX4_ok, nmX4, rfl⟩
theorem kl_5 : KL 5 RX5 TX5 9 tyX5 := ⟨rfl, by decide +kernel, tyX5_ok, nmX5, rfl⟩
theorem kl_6 : KL 6 RX6 TX6 7 tyX6 := ⟨rfl, by decide +kernel, tyX6_ok, nmX6, rfl⟩
theorem kl_7 : KL 7 RX7 TX7 6 tyX7 := ⟨rfl, by decide +kernel, tyX7_ok, nmX7, rfl⟩
theorem kl_8 : KL 8 RX8 TX8 9 tyX8 := ⟨rfl, by decide +kernel, tyX8_ok, nmX8, rfl⟩
theorem kl_9 : KL 9 RX9 TX9 15 tyX9 := ⟨rfl, by decide +kernel, tyX9_ok, nmX9, rfl⟩
theorem kl_10 : KL 10 RX10 TX10 51 tyX10 := ⟨rfl, by decide +kernel, tyX10_ok, nmX10, rfl⟩
theorem mw_X6_append : MW yX6_append cX6_append 2 (some .boolean) 1 := ⟨(lx_in_10 _ (List.mem_of_getElem? (i := 30) rfl)), tw_89, ⟨by decide, by decide⟩, by decide +kernel⟩
theorem mw_X9_type : MW yX9_type cX9_type 2 (some .int) 1 := ⟨(lx_in_10 _ (List.mem_of_getElem? (i := 26) rfl)), tw_87, ⟨by decide, by decide⟩, by decide +kernel⟩
theorem mw_X9_clear : MW yX9_clear cX9_clear 2 (some .int) 0 := ⟨(lx_in_10 _ (List.mem_of_getElem? (i := 34) rfl)), tw_87, ⟨by decide, by decide⟩, by decide +kernel⟩
theorem mw_X5_reset : MW yX5_reset cX5_reset 1 none 0 := ⟨(lx_in_11 _ (List.mem_of_getElem? (i := 6) rfl)), tw_88, ⟨by decide, by decide⟩, by decide +kernel⟩
theorem mw_X6_isDigit : MW yX6_isDigit cX6_isDigit 1 (some .boolean) 1 := ⟨(lx_in_11 _ (List.mem_of_getElem? (i := 12) rfl)), tw_89, ⟨by decide, by decide⟩, by decide +kernel⟩
theorem mw_J9_min_7cf53 : MW yJ9_min_7cf53 cJ9_min_7cf53 2 (some .int) 2 := ⟨(lx_in_11 _ (List.mem_of_getElem? (i := 18) rfl)), tw_98, ⟨by decide, by decide⟩, by decide +kernel⟩
theorem mw_X6_readNumber : MW yX6_readNumber cX6_readNumber 1 none 0 := ⟨(lx_in_11 _ (List.mem_of_getElem? (i := 15) rfl)), tw_89, ⟨by decide, by decide⟩, by decide +kernel⟩
theorem mw_X6_isToken : MW yX6_isToken cX6_isToken 2 (some .boolean) 1 := ⟨(lx_in_11 _ (List.mem_of_getElem? (i := 21) rfl)), tw_89, ⟨by decide, by decide⟩, by decide +kernel⟩
theorem mw_X6_step : MW yX6_step cX6_step 1 none 0 := ⟨(lx_in_11 _ (List.mem_of_getElem? (i := 9) rfl)), tw_89, ⟨by decide, by decide⟩, by decide +kernel⟩
theorem mw_X6_isNumber : MW yX6_isNumber cX6_isNumber 3 (some .boolean) 2 := ⟨(lx_in_11 _ (List.mem_of_getElem? (i := 27) rfl)), tw_89, ⟨by decide, by decide⟩, by decide +kernel⟩
theorem mw_X6_readSemicolon : MW yX6_readSemicolon cX6_readSemicolon 1 (some .boolean) 0 := ⟨(lx_in_11 _ (List.mem_of_getElem? (i := 30) rfl)), tw_89, ⟨by decide, by decide⟩, by decide +kernel⟩
theorem mw_X6_readVariables : MW yX6_readVariables cX6_readVariables 2 (some .boolean) 1 := ⟨(lx_in_11 _ (List.mem_of_getElem? (i := 24) rfl)), tw_89, ⟨by decide, by decide⟩, by decide +kernel⟩
theorem mw_X5_hasVariable : MW yX5_hasVariable cX5_hasVariable 2 (some .boolean) 1 := ⟨(lx_in_12 _ (List.mem_of_getElem? (i := 0) rfl)), tw_88, ⟨by decide, by decide⟩, by decide +kernel⟩
theorem mw_X6_readTerm : MW yX6_readTerm cX6_readTerm 4 (some .boolean) 1 := ⟨(lx_in_11 _ (List.mem_of_getElem? (i := 36) rfl)), tw_89, ⟨by decide, by decide⟩, by decide +kernel⟩
theorem mw_X5_allowsCoefficient : MW yX5_allowsCoefficient cX5_allowsCoefficient 3 (some .boolean) 2 := ⟨(lx_in_12 _ (List.mem_of_getElem? (i := 7) rfl)), tw_88, ⟨by decide, by decide⟩, by decide +kernel⟩
theorem mw_X5_allowsForm : MW yX5_allowsForm cX5_allowsForm 4 (some .boolean) 3 := ⟨(lx_in_12 _ (List.mem_of_getElem? (i := 4) rfl)), tw_88, ⟨by decide, by decide⟩, by decide +kernel⟩
theorem mw_X5_addForm : MW yX5_addForm cX5_addForm 4 (some .boolean) 3 := ⟨(lx_in_12 _ (List.mem_of_getElem? (i := 11) rfl)), tw_88, ⟨by decide, by decide⟩, by decide +kernel⟩
theorem mw_X6_readForm : MW yX6_readForm cX6_readForm 4 (some .boolean) 1 := ⟨(lx_in_11 _ (List.mem_of_getElem? (i := 33) rfl)), tw_89, ⟨by decide, by decide⟩, by decide +kernel⟩
theorem mw_X5_addConstraint : MW yX5_addConstraint cX5_addConstraint 4 (some .boolean) 3 := ⟨(lx_in_12 _ (List.mem_of_getElem? (i := 18) rfl)), tw_88, ⟨by decide, by decide⟩, by decide +kernel⟩
theorem mw_X6_readConstraint : MW yX6_readConstraint cX6_readConstraint 5 (some .boolean) 1 := ⟨(lx_in_12 _ (List.mem_of_getElem? (i := 14) rfl)), tw_89, ⟨by decide, by decide⟩, by decide +kernel⟩
theorem mw_X6_read : MW yX6_read cX6_read 4 (some .int) 1 := ⟨(lx_in_11 _ (List.mem_of_getElem? (i := 2) rfl)), tw_89, ⟨by decide, by decide⟩, by decide +kernel⟩
theorem mw_X5_copy : MW yX5_copy cX5_copy 2 none 1 := ⟨(lx_in_12 _ (List.mem_of_getElem? (i := 22) rfl)), tw_88, ⟨by decide, by decide⟩, by decide +kernel⟩
theorem mw_X7_restart : MW yX7_restart cX7_restart 2 none 1 := ⟨(lx_in_12 _ (List.mem_of_getElem? (i := 32) rfl)), tw_92, ⟨by decide, by decide⟩, by decide +kernel⟩
theorem mw_X5_hasForm : MW yX5_hasForm cX5_hasForm 2 (some .boolean) 1 := ⟨(lx_in_13 _ (List.mem_of_getElem? (i := 3) rfl)), tw_88, ⟨by decide, by decide⟩, by decide +kernel⟩
theorem mw_X5_entry : MW yX5_entry cX5_entry 3 (some .int) 2 := ⟨(lx_in_12 _ (List.mem_of_getElem? (i := 39) rfl)), tw_88, ⟨by decide, by decide⟩, by decide +kernel⟩
theorem mw_X7_push : MW yX7_push cX7_push 8 none 5 := ⟨(lx_in_13 _ (List.mem_of_getElem? (i := 8) rfl)), tw_92, ⟨by decide, by decide⟩, by decide +kernel⟩
theorem mw_J6_bitCount_0f7a4 : MW yJ6_bitCount_0f7a4 cJ6_bitCount_0f7a4 1 (some .int) 1 := ⟨(lx_in_13 _ (List.mem_of_getElem? (i := 15) rfl)), tw_100, ⟨by decide, by decide⟩, by decide +kernel⟩
theorem mw_X7_cross : MW yX7_cross cX7_cross 8 (some .int) 3 := ⟨(lx_in_13 _ (List.mem_of_getElem? (i := 30) rfl)), tw_92, ⟨by decide, by decide⟩, by decide +kernel⟩
theorem mw_X7_entry : MW yX7_entry cX7_entry 3 (some .int) 2 := ⟨(lx_in_13 _ (List.mem_of_getElem? (i := 34) rfl)), tw_92, ⟨by decide, by decide⟩, by decide +kernel⟩
theorem mw_X0_setFactors : MW yX0_setFactors cX0_setFactors 6 (some .boolean) 4 := ⟨(lx_in_13 _ (List.mem_of_getElem? (i := 37) rfl)), tw_91, ⟨by decide, by decide⟩, by decide +kernel⟩
theorem mw_X0_dependTwo : MW yX0_dependTwo cX0_dependTwo 4 (some .boolean) 2 := ⟨(lx_in_13 _ (List.mem_of_getElem? (i := 26) rfl)), tw_91, ⟨by decide, by decide⟩, by decide +kernel⟩
theorem mw_X0_turn : MW yX0_turn cX0_turn 5 (some .boolean) 0 := ⟨(lx_in_14 _ (List.mem_of_getElem? (i := 0) rfl)), tw_91, ⟨by decide, by decide⟩, by decide +kernel⟩
theorem mw_X7_determinant : MW yX7_determinant cX7_determinant 8 (some .int) 3 := ⟨(lx_in_14 _ (List.mem_of_getElem? (i := 7) rfl)), tw_92, ⟨by decide, by decide⟩, by decide +kernel⟩
theorem mw_X0_dependThree : MW yX0_dependThree cX0_dependThree 5 (some .boolean) 3 := ⟨(lx_in_14 _ (List.mem_of_getElem? (i := 3) rfl)), tw_91, ⟨by decide, by decide⟩, by decide +kernel⟩
theorem mw_X0_dependFour : MW yX0_dependFour cX0_dependFour 6 (some .boolean) 4 := ⟨(lx_in_14 _ (List.mem_of_getElem? (i := 10) rfl)), tw_91, ⟨by decide, by decide⟩, by decide +kernel⟩
theorem mw_X0_examine : MW yX0_examine cX0_examine 3 (some .boolean) 1 := ⟨(lx_in_13 _ (List.mem_of_getElem? (i := 22) rfl)), tw_91, ⟨by decide, by decide⟩, by decide +kernel⟩
theorem mw_X0_contradicts : MW yX0_contradicts cX0_contradicts 1 (some .boolean) 0 := ⟨(lx_in_14 _ (List.mem_of_getElem? (i := 14) rfl)), tw_91, ⟨by decide, by decide⟩, by decide +kernel⟩
theorem mw_X1_extend : MW yX1_extend cX1_extend 4 none 0 := ⟨(lx_in_13 _ (List.mem_of_getElem? (i := 12) rfl)), tw_90, ⟨by decide, by decide⟩, by decide +kernel⟩
theorem mw_X9_pushRow : MW yX9_pushRow cX9_pushRow 4 none 3 := ⟨(lx_in_12 _ (List.mem_of_getElem? (i := 35) rfl)), tw_87, ⟨by decide, by decide⟩, by decide +kernel⟩
theorem mw_X9_loadRows : MW yX9_loadRows cX9_loadRows 2 none 0 := ⟨(lx_in_12 _ (List.mem_of_getElem? (i := 28) rfl)), tw_87, ⟨by decide, by decide⟩, by decide +kernel⟩
theorem mw_X9_tells : MW yX9_tells cX9_tells 3 (some .int) 0 := ⟨(lx_in_10 _ (List.mem_of_getElem? (i := 38) rfl)), tw_87, ⟨by decide, by decide⟩, by decide +kernel⟩
theorem mw_X9_form : MW yX9_form cX9_form 4 (some .int) 3 := ⟨(lx_in_14 _ (List.mem_of_getElem? (i := 18) rfl)), tw_87, ⟨by decide, by decide⟩, by decide +kernel⟩
theorem mw_X9_coefficient : MW yX9_coefficient cX9_coefficient 3 (some .int) 2 := ⟨(lx_in_14 _ (List.mem_of_getElem? (i := 24) rfl)), tw_87, ⟨by decide, by decide⟩, by decide +kernel⟩
theorem mw_X5_allowsConstraint : MW yX5_allowsConstraint cX5_allowsConstraint 4 (some .boolean) 3 := ⟨(lx_in_14 _ (List.mem_of_getElem? (i := 34) rfl)), tw_88, ⟨by decide, by decide⟩, by decide +kernel⟩
theorem mw_X9_asserts : MW yX9_asserts cX9_asserts 4 (some .int) 3 := ⟨(lx_in_14 _ (List.mem_of_getElem? (i := 30) rfl)), tw_87, ⟨by decide, by decide⟩, by decide +kernel⟩
theorem mw_X5_hasConstraint : MW yX5_hasConstraint cX5_hasConstraint 2 (some .boolean) 1 := ⟨(lx_in_15 _ (List.mem_of_getElem? (i := 3) rfl)), tw_88, ⟨by decide, by decide⟩, by decide +kernel⟩
theorem mw_X9_bound : MW yX9_bound cX9_bound 3 (some .int) 2 := ⟨(lx_in_14 _ (List.mem_of_getElem? (i := 39) rfl)), tw_87, ⟨by decide, by decide⟩, by decide +kernel⟩
theorem mw_X9_level : MW yX9_level cX9_level 1 (some .int) 0 := ⟨(lx_in_15 _ (List.mem_of_getElem? (i := 7) rfl)), tw_87, ⟨by decide, by decide⟩, by decide +kernel⟩
theorem mw_X7_cut : MW yX7_cut cX7_cut 2 none 1 := ⟨(lx_in_15 _ (List.mem_of_getElem? (i := 15) rfl)), tw_92, ⟨by decide, by decide⟩, by decide +kernel⟩
theorem mw_X9_withdraws : MW yX9_withdraws cX9_withdraws 2 (some .int) 1 := ⟨(lx_in_15 _ (List.mem_of_getElem? (i := 11) rfl)), tw_87, ⟨by decide, by decide⟩, by decide +kernel⟩
theorem mw_X9_allConstraints : MW yX9_allConstraints cX9_allConstraints 1 (some .int) 0 := ⟨(lx_in_15 _ (List.mem_of_getElem? (i := 25) rfl)), tw_87, ⟨by decide, by decide⟩, by decide +kernel⟩
theorem mw_X1_size : MW yX1_size cX1_size 1 (some .int) 0 := ⟨(lx_in_15 _ (List.mem_of_getElem? (i := 33) rfl)), tw_90, ⟨by decide, by decide⟩, by decide +kernel⟩
theorem mw_X1_within : MW yX1_within cX1_within 4 (some .boolean) 1 := ⟨(lx_in_15 _ (List.mem_of_getElem? (i := 29) rfl)), tw_90, ⟨by decide, by decide⟩, by decide +kernel⟩
theorem mw_X9_satisfiable : MW yX9_satisfiable cX9_satisfiable 1 (some .boolean) 0 := ⟨(lx_in_15 _ (List.mem_of_getElem? (i := 22) rfl)), tw_87, ⟨by decide, by decide⟩, by decide +kernel⟩
theorem mw_X9_met : MW yX9_met cX9_met 1 (some .int) 0 := ⟨(lx_in_15 _ (List.mem_of_getElem? (i := 19) rfl)), tw_87, ⟨by decide, by decide⟩, by decide +kernel⟩
theorem mw_X9_coreSet : MW yX9_coreSet cX9_coreSet 3 (some .int) 0 := ⟨(lx_in_16 _ (List.mem_of_getElem? (i := 0) rfl)), tw_87, ⟨by decide, by decide⟩, by decide +kernel⟩
theorem mw_X9_core : MW yX9_core cX9_core 1 (some .int) 0 := ⟨(lx_in_15 _ (List.mem_of_getElem? (i := 37) rfl)), tw_87, ⟨by decide, by decide⟩, by decide +kernel⟩
theorem mw_J9_abs_067f4 : MW yJ9_abs_067f4 cJ9_abs_067f4 2 (some .long) 1 := ⟨(lx_in_16 _ (List.mem_of_getElem? (i := 14) rfl)), tw_98, ⟨by decide, by decide⟩, by decide +kernel⟩
theorem mw_X9_commonDivisor : MW yX9_commonDivisor cX9_commonDivisor 11 (some .long) 2 := ⟨(lx_in_16 _ (List.mem_of_getElem? (i := 11) rfl)), tw_87, ⟨by decide, by decide⟩, by decide +kernel⟩
theorem mw_X0_factorOf : MW yX0_factorOf cX0_factorOf 3 (some .int) 1 := ⟨(lx_in_16 _ (List.mem_of_getElem? (i := 18) rfl)), tw_91, ⟨by decide, by decide⟩, by decide +kernel⟩
theorem mw_X0_reducedFactor : MW yX0_reducedFactor cX0_reducedFactor 5 (some .long) 1 := ⟨(lx_in_16 _ (List.mem_of_getElem? (i := 9) rfl)), tw_91, ⟨by decide, by decide⟩, by decide +kernel⟩
theorem mw_X9_proof : MW yX9_proof cX9_proof 3 (some .int) 1 := ⟨(lx_in_16 _ (List.mem_of_getElem? (i := 4) rfl)), tw_87, ⟨by decide, by decide⟩, by decide +kernel⟩
theorem mw_X4_begin : MW yX4_begin cX4_begin 3 none 1 := ⟨(lx_in_16 _ (List.mem_of_getElem? (i := 26) rfl)), tw_93, ⟨by decide, by decide⟩, by decide +kernel⟩
theorem mw_J9_abs_0f7a4 : MW yJ9_abs_0f7a4 cJ9_abs_0f7a4 1 (some .int) 1 := ⟨(lx_in_16 _ (List.mem_of_getElem? (i := 31) rfl)), tw_98, ⟨by decide, by decide⟩, by decide +kernel⟩
theorem mw_X4_lowerTo : MW yX4_lowerTo cX4_lowerTo 8 none 3 := ⟨(lx_in_16 _ (List.mem_of_getElem? (i := 35) rfl)), tw_93, ⟨by decide, by decide⟩, by decide +kernel⟩
theorem mw_X9_find : MW yX9_find cX9_find 7 none 2 := ⟨(lx_in_16 _ (List.mem_of_getElem? (i := 38) rfl)), tw_87, ⟨by decide, by decide⟩, by decide +kernel⟩
theorem mw_X9_relief : MW yX9_relief cX9_relief 3 (some .int) 1 := ⟨(lx_in_16 _ (List.mem_of_getElem? (i := 22) rfl)), tw_87, ⟨by decide, by decide⟩, by decide +kernel⟩
theorem mw_X9_spared : MW yX9_spared cX9_spared 5 (some .int) 1 := ⟨(lx_in_17 _ (List.mem_of_getElem? (i := 3) rfl)), tw_87, ⟨by decide, by decide⟩, by decide +kernel⟩
theorem mw_X4_seek : MW yX4_seek cX4_seek 8 none 4 := ⟨(lx_in_17 _ (List.mem_of_getElem? (i := 12) rfl)), tw_93, ⟨by decide, by decide⟩, by decide +kernel⟩
theorem mw_X9_range : MW yX9_range cX9_range 4 (some .int) 2 := ⟨(lx_in_17 _ (List.mem_of_getElem? (i := 8) rfl)), tw_87, ⟨by decide, by decide⟩, by decide +kernel⟩
theorem mw_X9_deny : MW yX9_deny cX9_deny 4 none 3 := ⟨(lx_in_17 _ (List.mem_of_getElem? (i := 26) rfl)), tw_87, ⟨by decide, by decide⟩, by decide +kernel⟩
theorem mw_X9_followsFrom : MW yX9_followsFrom cX9_followsFrom 3 (some .boolean) 1 := ⟨(lx_in_17 _ (List.mem_of_getElem? (i := 29) rfl)), tw_87, ⟨by decide, by decide⟩, by decide +kernel⟩
theorem mw_X9_follows : MW yX9_follows cX9_follows 5 (some .int) 3 := ⟨(lx_in_17 _ (List.mem_of_getElem? (i := 23) rfl)), tw_87, ⟨by decide, by decide⟩, by decide +kernel⟩
theorem mw_X9_since : MW yX9_since cX9_since 6 (some .int) 3 := ⟨(lx_in_17 _ (List.mem_of_getElem? (i := 33) rfl)), tw_87, ⟨by decide, by decide⟩, by decide +kernel⟩
theorem mw_X9_why : MW yX9_why cX9_why 7 (some .int) 3 := ⟨(lx_in_17 _ (List.mem_of_getElem? (i := 37) rfl)), tw_87, ⟨by decide, by decide⟩, by decide +kernel⟩
theorem mw_X7_copy : MW yX7_copy cX7_copy 3 none 1 := ⟨(lx_in_18 _ (List.mem_of_getElem? (i := 9) rfl)), tw_92, ⟨by decide, by decide⟩, by decide +kernel⟩
theorem mw_X8_seek : MW yX8_seek cX8_seek 4 none 3 := ⟨(lx_in_18 _ (List.mem_of_getElem? (i := 13) rfl)), tw_94, ⟨by decide, by decide⟩, by decide +kernel⟩
theorem mw_X8_reachesZero : MW yX8_reachesZero cX8_reachesZero 1 (some .boolean) 1 := ⟨(lx_in_18 _ (List.mem_of_getElem? (i := 20) rfl)), tw_94, ⟨by decide, by decide⟩, by decide +kernel⟩
theorem mw_J9_floorDiv_f86c9 : MW yJ9_floorDiv_f86c9 cJ9_floorDiv_f86c9 6 (some .long) 2 := ⟨(lx_in_18 _ (List.mem_of_getElem? (i := 26) rfl)), tw_98, ⟨by decide, by decide⟩, by decide +kernel⟩
theorem mw_X8_descend : MW yX8_descend cX8_descend 36 none 2 := ⟨(lx_in_18 _ (List.mem_of_getElem? (i := 23) rfl)), tw_94, ⟨by decide, by decide⟩, by decide +kernel⟩
theorem mw_X8_pick : MW yX8_pick cX8_pick 1 none 0 := ⟨(lx_in_18 _ (List.mem_of_getElem? (i := 17) rfl)), tw_94, ⟨by decide, by decide⟩, by decide +kernel⟩
theorem mw_X8_settle : MW yX8_settle cX8_settle 9 none 1 := ⟨(lx_in_18 _ (List.mem_of_getElem? (i := 29) rfl)), tw_94, ⟨by decide, by decide⟩, by decide +kernel⟩
theorem mw_X8_choose : MW yX8_choose cX8_choose 4 none 2 := ⟨(lx_in_18 _ (List.mem_of_getElem? (i := 5) rfl)), tw_94, ⟨by decide, by decide⟩, by decide +kernel⟩
theorem mw_X9_sample : MW yX9_sample cX9_sample 2 (some .int) 1 := ⟨(lx_in_18 _ (List.mem_of_getElem? (i := 1) rfl)), tw_87, ⟨by decide, by decide⟩, by decide +kernel⟩
theorem mw_X9_addToFound : MW yX9_addToFound cX9_addToFound 9 none 2 := ⟨(lx_in_18 _ (List.mem_of_getElem? (i := 37) rfl)), tw_87, ⟨by decide, by decide⟩, by decide +kernel⟩
theorem mw_X9_value : MW yX9_value cX9_value 3 (some .int) 1 := ⟨(lx_in_18 _ (List.mem_of_getElem? (i := 34) rfl)), tw_87, ⟨by decide, by decide⟩, by decide +kernel⟩
theorem mw_X2_equate : MW yX2_equate cX2_equate 5 none 3 := ⟨(lx_in_19 _ (List.mem_of_getElem? (i := 9) rfl)), tw_95, ⟨by decide, by decide⟩, by decide +kernel⟩
theorem mw_X2_solve : MW yX2_solve cX2_solve 2 (some .boolean) 0 := ⟨(lx_in_19 _ (List.mem_of_getElem? (i := 15) rfl)), tw_95, ⟨by decide, by decide⟩, by decide +kernel⟩
theorem mw_X7_hold : MW yX7_hold cX7_hold 16 (some .boolean) 5 := ⟨(lx_in_19 _ (List.mem_of_getElem? (i := 21) rfl)), tw_92, ⟨by decide, by decide⟩, by decide +kernel⟩
theorem mw_J13_compare_74951 : MW yJ13_compare_74951 cJ13_compare_74951 4 (some .int) 2 := ⟨(lx_in_19 _ (List.mem_of_getElem? (i := 30) rfl)), tw_101, ⟨by decide, by decide⟩, by decide +kernel⟩
theorem mw_X2_compareWith : MW yX2_compareWith cX2_compareWith 4 (some .int) 1 := ⟨(lx_in_19 _ (List.mem_of_getElem? (i := 27) rfl)), tw_95, ⟨by decide, by decide⟩, by decide +kernel⟩
theorem mw_X2_insert : MW yX2_insert cX2_insert 4 none 0 := ⟨(lx_in_19 _ (List.mem_of_getElem? (i := 24) rfl)), tw_95, ⟨by decide, by decide⟩, by decide +kernel⟩
theorem mw_X2_collect : MW yX2_collect cX2_collect 4 none 2 := ⟨(lx_in_19 _ (List.mem_of_getElem? (i := 5) rfl)), tw_95, ⟨by decide, by decide⟩, by decide +kernel⟩
theorem mw_X9_corner : MW yX9_corner cX9_corner 3 (some .int) 2 := ⟨(lx_in_19 _ (List.mem_of_getElem? (i := 1) rfl)), tw_87, ⟨by decide, by decide⟩, by decide +kernel⟩
theorem mw_X3_search : MW yX3_search cX3_search 10 (some .int) 3 := ⟨(lx_in_19 _ (List.mem_of_getElem? (i := 39) rfl)), tw_96, ⟨by decide, by decide⟩, by decide +kernel⟩
theorem mw_X9_whole : MW yX9_whole cX9_whole 3 (some .int) 2 := ⟨(lx_in_19 _ (List.mem_of_getElem? (i := 35) rfl)), tw_87, ⟨by decide, by decide⟩, by decide +kernel⟩
theorem mw_X9_upper : MW yX9_upper cX9_upper 1 (some .long) 0 := ⟨(lx_in_20 _ (List.mem_of_getElem? (i := 4) rfl)), tw_87, ⟨by decide, by decide⟩, by decide +kernel⟩
theorem mw_X9_lower : MW yX9_lower cX9_lower 1 (some .long) 0 := ⟨(lx_in_20 _ (List.mem_of_getElem? (i := 8) rfl)), tw_87, ⟨by decide, by decide⟩, by decide +kernel⟩
theorem mw_X9_told : MW yX9_told cX9_told 1 (some .long) 0 := ⟨(lx_in_20 _ (List.mem_of_getElem? (i := 12) rfl)), tw_87, ⟨by decide, by decide⟩, by decide +kernel⟩
theorem mw_X9_keep : MW yX9_keep cX9_keep 2 (some .int) 1 := ⟨(lx_in_20 _ (List.mem_of_getElem? (i := 16) rfl)), tw_87, ⟨by decide, by decide⟩, by decide +kernel⟩
theorem mw_X9_back : MW yX9_back cX9_back 2 (some .int) 1 := ⟨(lx_in_20 _ (List.mem_of_getElem? (i := 20) rfl)), tw_87, ⟨by decide, by decide⟩, by decide +kernel⟩
theorem mw_X9_count : MW yX9_count cX9_count 2 (some .int) 1 := ⟨(lx_in_20 _ (List.mem_of_getElem? (i := 24) rfl)), tw_87, ⟨by decide, by decide⟩, by decide +kernel⟩
theorem mw_X10_in : MW yX10_in cX10_in 3 (some .boolean) 3 := ⟨(lx_in_24 _ (List.mem_of_getElem? (i := 32) rfl)), tw_97, ⟨by decide, by decide⟩, by decide +kernel⟩
theorem mw_X10_writes : MW yX10_writes cX10_writes 3 none 1 := ⟨(lx_in_24 _ (List.mem_of_getElem? (i := 35) rfl)), tw_97, ⟨by decide, by decide⟩, by decide +kernel⟩
theorem mw_X10_keep : MW yX10_keep cX10_keep 2 (some .int) 1 := ⟨(lx_in_24 _ (List.mem_of_getElem? (i := 29) rfl)), tw_97, ⟨by decide, by decide⟩, by decide +kernel⟩
theorem mw_X10_back : MW yX10_back cX10_back 4 (some .int) 1 := ⟨(lx_in_24 _ (List.mem_of_getElem? (i := 39) rfl)), tw_97, ⟨by decide, by decide⟩, by decide +kernel⟩
theorem mw_X10_isForm : MW yX10_isForm cX10_isForm 2 (some .boolean) 1 := ⟨(lx_in_25 _ (List.mem_of_getElem? (i := 16) rfl)), tw_97, ⟨by decide, by decide⟩, by decide +kernel⟩
theorem mw_X10_isVariable : MW yX10_isVariable cX10_isVariable 2 (some .boolean) 1 := ⟨(lx_in_25 _ (List.mem_of_getElem? (i := 19) rfl)), tw_97, ⟨by decide, by decide⟩, by decide +kernel⟩
theorem mw_X10_isBound : MW yX10_isBound cX10_isBound 2 (some .boolean) 1 := ⟨(lx_in_25 _ (List.mem_of_getElem? (i := 36) rfl)), tw_97, ⟨by decide, by decide⟩, by decide +kernel⟩
theorem mw_X10_isTold : MW yX10_isTold cX10_isTold 4 (some .boolean) 3 := ⟨(lx_in_25 _ (List.mem_of_getElem? (i := 26) rfl)), tw_97, ⟨by decide, by decide⟩, by decide +kernel⟩
theorem mw_X10_isCoefficient : MW yX10_isCoefficient cX10_isCoefficient 3 (some .boolean) 2 := ⟨(lx_in_25 _ (List.mem_of_getElem? (i := 6) rfl)), tw_97, ⟨by decide, by decide⟩, by decide +kernel⟩
theorem mw_X10_comesForm : MW yX10_comesForm cX10_comesForm 4 none 3 := ⟨(lx_in_25 _ (List.mem_of_getElem? (i := 9) rfl)), tw_97, ⟨by decide, by decide⟩, by decide +kernel⟩
theorem mw_X10_form : MW yX10_form cX10_form 4 (some .int) 3 := ⟨(lx_in_25 _ (List.mem_of_getElem? (i := 3) rfl)), tw_97, ⟨by decide, by decide⟩, by decide +kernel⟩
theorem mw_X10_coefficient : MW yX10_coefficient cX10_coefficient 3 (some .int) 2 := ⟨(lx_in_25 _ (List.mem_of_getElem? (i := 13) rfl)), tw_97, ⟨by decide, by decide⟩, by decide +kernel⟩
theorem mw_X10_comesBound : MW yX10_comesBound cX10_comesBound 4 none 3 := ⟨(lx_in_25 _ (List.mem_of_getElem? (i := 29) rfl)), tw_97, ⟨by decide, by decide⟩, by decide +kernel⟩
theorem mw_X10_asserts : MW yX10_asserts cX10_asserts 4 (some .int) 3 := ⟨(lx_in_25 _ (List.mem_of_getElem? (i := 23) rfl)), tw_97, ⟨by decide, by decide⟩, by decide +kernel⟩
theorem mw_X10_bound : MW yX10_bound cX10_bound 3 (some .int) 2 := ⟨(lx_in_25 _ (List.mem_of_getElem? (i := 33) rfl)), tw_97, ⟨by decide, by decide⟩, by decide +kernel⟩
theorem mw_X10_level : MW yX10_level cX10_level 1 (some .int) 0 := ⟨(lx_in_26 _ (List.mem_of_getElem? (i := 0) rfl)), tw_97, ⟨by decide, by decide⟩, by decide +kernel⟩
theorem mw_X10_withdraws : MW yX10_withdraws cX10_withdraws 2 (some .int) 1 := ⟨(lx_in_26 _ (List.mem_of_getElem? (i := 4) rfl)), tw_97, ⟨by decide, by decide⟩, by decide +kernel⟩
theorem mw_X10_comesRow : MW yX10_comesRow cX10_comesRow 10 none 5 := ⟨(lx_in_26 _ (List.mem_of_getElem? (i := 26) rfl)), tw_97, ⟨by decide, by decide⟩, by decide +kernel⟩
theorem mw_X10_comesBySort : MW yX10_comesBySort cX10_comesBySort 10 none 5 := ⟨(lx_in_26 _ (List.mem_of_getElem? (i := 23) rfl)), tw_97, ⟨by decide, by decide⟩, by decide +kernel⟩
theorem mw_X10_comesFlat : MW yX10_comesFlat cX10_comesFlat 8 none 4 := ⟨(lx_in_26 _ (List.mem_of_getElem? (i := 35) rfl)), tw_97, ⟨by decide, by decide⟩, by decide +kernel⟩
theorem mw_X10_withoutZ : MW yX10_withoutZ cX10_withoutZ 7 none 0 := ⟨(lx_in_26 _ (List.mem_of_getElem? (i := 32) rfl)), tw_97, ⟨by decide, by decide⟩, by decide +kernel⟩
theorem mw_X10_cuts : MW yX10_cuts cX10_cuts 8 none 3 := ⟨(lx_in_26 _ (List.mem_of_getElem? (i := 38) rfl)), tw_97, ⟨by decide, by decide⟩, by decide +kernel⟩
theorem mw_X10_sees : MW yX10_sees cX10_sees 7 none 0 := ⟨(lx_in_26 _ (List.mem_of_getElem? (i := 29) rfl)), tw_97, ⟨by decide, by decide⟩, by decide +kernel⟩
theorem mw_X10_coefficientOf : MW yX10_coefficientOf cX10_coefficientOf 3 (some .int) 2 := ⟨(lx_in_26 _ (List.mem_of_getElem? (i := 20) rfl)), tw_97, ⟨by decide, by decide⟩, by decide +kernel⟩
theorem mw_X10_setRows : MW yX10_setRows cX10_setRows 3 none 1 := ⟨(lx_in_26 _ (List.mem_of_getElem? (i := 17) rfl)), tw_97, ⟨by decide, by decide⟩, by decide +kernel⟩
theorem mw_X10_allBounds : MW yX10_allBounds cX10_allBounds 1 (some .int) 0 := ⟨(lx_in_26 _ (List.mem_of_getElem? (i := 11) rfl)), tw_97, ⟨by decide, by decide⟩, by decide +kernel⟩
theorem mw_X10_canBe : MW yX10_canBe cX10_canBe 2 (some .boolean) 1 := ⟨(lx_in_26 _ (List.mem_of_getElem? (i := 14) rfl)), tw_97, ⟨by decide, by decide⟩, by decide +kernel⟩
theorem mw_X10_met : MW yX10_met cX10_met 1 (some .int) 0 := ⟨(lx_in_26 _ (List.mem_of_getElem? (i := 8) rfl)), tw_97, ⟨by decide, by decide⟩, by decide +kernel⟩
theorem mw_X10_seesForm : MW yX10_seesForm cX10_seesForm 13 none 2 := ⟨(lx_in_27 _ (List.mem_of_getElem? (i := 38) rfl)), tw_97, ⟨by decide, by decide⟩, by decide +kernel⟩
theorem mw_X10_coreOf : MW yX10_coreOf cX10_coreOf 3 (some .int) 0 := ⟨(lx_in_27 _ (List.mem_of_getElem? (i := 6) rfl)), tw_97, ⟨by decide, by decide⟩, by decide +kernel⟩
theorem mw_X10_core : MW yX10_core cX10_core 1 (some .int) 0 := ⟨(lx_in_27 _ (List.mem_of_getElem? (i := 3) rfl)), tw_97, ⟨by decide, by decide⟩, by decide +kernel⟩
theorem mw_X10_gcd : MW yX10_gcd cX10_gcd 10 (some .long) 2 := ⟨(lx_in_27 _ (List.mem_of_getElem? (i := 28) rfl)), tw_97, ⟨by decide, by decide⟩, by decide +kernel⟩
theorem mw_X10_turn : MW yX10_turn cX10_turn 3 (some .int) 1 := ⟨(lx_in_27 _ (List.mem_of_getElem? (i := 19) rfl)), tw_97, ⟨by decide, by decide⟩, by decide +kernel⟩
theorem mw_X10_setTable : MW yX10_setTable cX10_setTable 4 none 1 := ⟨(lx_in_27 _ (List.mem_of_getElem? (i := 16) rfl)), tw_97, ⟨by decide, by decide⟩, by decide +kernel⟩
theorem mw_X10_swapsRows : MW yX10_swapsRows cX10_swapsRows 6 none 2 := ⟨(lx_in_27 _ (List.mem_of_getElem? (i := 22) rfl)), tw_97, ⟨by decide, by decide⟩, by decide +kernel⟩
theorem mw_X10_clears : MW yX10_clears cX10_clears 9 none 2 := ⟨(lx_in_27 _ (List.mem_of_getElem? (i := 25) rfl)), tw_97, ⟨by decide, by decide⟩, by decide +kernel⟩
theorem mw_X10_turnsRight : MW yX10_turnsRight cX10_turnsRight 5 (some .boolean) 0 := ⟨(lx_in_27 _ (List.mem_of_getElem? (i := 31) rfl)), tw_97, ⟨by decide, by decide⟩, by decide +kernel⟩
theorem mw_X10_setShares : MW yX10_setShares cX10_setShares 9 none 1 := ⟨(lx_in_27 _ (List.mem_of_getElem? (i := 13) rfl)), tw_97, ⟨by decide, by decide⟩, by decide +kernel⟩
theorem mw_X10_proof : MW yX10_proof cX10_proof 4 (some .int) 1 := ⟨(lx_in_27 _ (List.mem_of_getElem? (i := 10) rfl)), tw_97, ⟨by decide, by decide⟩, by decide +kernel⟩
theorem mw_X10_says : MW yX10_says cX10_says 8 (some .int) 3 := ⟨(lx_in_28 _ (List.mem_of_getElem? (i := 7) rfl)), tw_97, ⟨by decide, by decide⟩, by decide +kernel⟩
theorem mw_X10_lacksLow : MW yX10_lacksLow cX10_lacksLow 5 (some .int) 2 := ⟨(lx_in_28 _ (List.mem_of_getElem? (i := 4) rfl)), tw_97, ⟨by decide, by decide⟩, by decide +kernel⟩
theorem mw_X10_lacksHigh : MW yX10_lacksHigh cX10_lacksHigh 5 (some .int) 2 := ⟨(lx_in_28 _ (List.mem_of_getElem? (i := 10) rfl)), tw_97, ⟨by decide, by decide⟩, by decide +kernel⟩
theorem mw_X10_lacksBoth : MW yX10_lacksBoth cX10_lacksBoth 2 (some .int) 1 := ⟨(lx_in_28 _ (List.mem_of_getElem? (i := 1) rfl)), tw_97, ⟨by decide, by decide⟩, by decide +kernel⟩
theorem mw_X10_relief : MW yX10_relief cX10_relief 4 (some .int) 1 := ⟨(lx_in_27 _ (List.mem_of_getElem? (i := 35) rfl)), tw_97, ⟨by decide, by decide⟩, by decide +kernel⟩
theorem mw_X10_ones : MW yX10_ones cX10_ones 3 (some .int) 1 := ⟨(lx_in_28 _ (List.mem_of_getElem? (i := 20) rfl)), tw_97, ⟨by decide, by decide⟩, by decide +kernel⟩
theorem mw_X10_sparedOf : MW yX10_sparedOf cX10_sparedOf 4 (some .int) 0 := ⟨(lx_in_28 _ (List.mem_of_getElem? (i := 17) rfl)), tw_97, ⟨by decide, by decide⟩, by decide +kernel⟩
theorem mw_X10_spared : MW yX10_spared cX10_spared 3 (some .int) 1 := ⟨(lx_in_28 _ (List.mem_of_getElem? (i := 14) rfl)), tw_97, ⟨by decide, by decide⟩, by decide +kernel⟩
theorem mw_X10_range : MW yX10_range cX10_range 3 (some .int) 2 := ⟨(lx_in_28 _ (List.mem_of_getElem? (i := 24) rfl)), tw_97, ⟨by decide, by decide⟩, by decide +kernel⟩
theorem mw_X10_isAtMost : MW yX10_isAtMost cX10_isAtMost 5 (some .boolean) 2 := ⟨(lx_in_28 _ (List.mem_of_getElem? (i := 34) rfl)), tw_97, ⟨by decide, by decide⟩, by decide +kernel⟩
theorem mw_X10_isAtLeast : MW yX10_isAtLeast cX10_isAtLeast 5 (some .boolean) 2 := ⟨(lx_in_28 _ (List.mem_of_getElem? (i := 37) rfl)), tw_97, ⟨by decide, by decide⟩, by decide +kernel⟩
theorem mw_X10_doesFollow : MW yX10_doesFollow cX10_doesFollow 5 (some .boolean) 4 := ⟨(lx_in_28 _ (List.mem_of_getElem? (i := 31) rfl)), tw_97, ⟨by decide, by decide⟩, by decide +kernel⟩
theorem mw_X10_follows : MW yX10_follows cX10_follows 4 (some .int) 3 := ⟨(lx_in_28 _ (List.mem_of_getElem? (i := 28) rfl)), tw_97, ⟨by decide, by decide⟩, by decide +kernel⟩
theorem mw_X10_since : MW yX10_since cX10_since 5 (some .int) 3 := ⟨(lx_in_29 _ (List.mem_of_getElem? (i := 1) rfl)), tw_97, ⟨by decide, by decide⟩, by decide +kernel⟩
theorem mw_X10_why : MW yX10_why cX10_why 6 (some .int) 3 := ⟨(lx_in_29 _ (List.mem_of_getElem? (i := 5) rfl)), tw_97, ⟨by decide, by decide⟩, by decide +kernel⟩
theorem mw_X10_floorOf : MW yX10_floorOf cX10_floorOf 6 (some .long) 2 := ⟨(lx_in_29 _ (List.mem_of_getElem? (i := 19) rfl)), tw_97, ⟨by decide, by decide⟩, by decide +kernel⟩
theorem mw_X10_setSimplest : MW yX10_setSimplest cX10_setSimplest 11 none 2 := ⟨(lx_in_29 _ (List.mem_of_getElem? (i := 15) rfl)), tw_97, ⟨by decide, by decide⟩, by decide +kernel⟩
theorem mw_X10_setSample : MW yX10_setSample cX10_setSample 8 (some .boolean) 0 := ⟨(lx_in_29 _ (List.mem_of_getElem? (i := 12) rfl)), tw_97, ⟨by decide, by decide⟩, by decide +kernel⟩
theorem mw_X10_sample : MW yX10_sample cX10_sample 2 (some .int) 1 := ⟨(lx_in_29 _ (List.mem_of_getElem? (i := 9) rfl)), tw_97, ⟨by decide, by decide⟩, by decide +kernel⟩
theorem mw_X10_value : MW yX10_value cX10_value 9 (some .int) 1 := ⟨(lx_in_29 _ (List.mem_of_getElem? (i := 23) rfl)), tw_97, ⟨by decide, by decide⟩, by decide +kernel⟩
theorem mw_X10_det : MW yX10_det cX10_det 8 (some .long) 4 := ⟨(lx_in_30 _ (List.mem_of_getElem? (i := 2) rfl)), tw_97, ⟨by decide, by decide⟩, by decide +kernel⟩
theorem mw_X10_twoDet : MW yX10_twoDet cX10_twoDet 12 (some .long) 3 := ⟨(lx_in_29 _ (List.mem_of_getElem? (i := 39) rfl)), tw_97, ⟨by decide, by decide⟩, by decide +kernel⟩
theorem mw_X10_cell : MW yX10_cell cX10_cell 4 (some .long) 3 := ⟨(lx_in_30 _ (List.mem_of_getElem? (i := 8) rfl)), tw_97, ⟨by decide, by decide⟩, by decide +kernel⟩
theorem mw_X10_threeDet : MW yX10_threeDet cX10_threeDet 11 (some .long) 4 := ⟨(lx_in_30 _ (List.mem_of_getElem? (i := 5) rfl)), tw_97, ⟨by decide, by decide⟩, by decide +kernel⟩
theorem mw_X10_setPoint : MW yX10_setPoint cX10_setPoint 7 (some .boolean) 3 := ⟨(lx_in_29 _ (List.mem_of_getElem? (i := 36) rfl)), tw_97, ⟨by decide, by decide⟩, by decide +kernel⟩
theorem mw_X10_isWithin : MW yX10_isWithin cX10_isWithin 5 (some .boolean) 0 := ⟨(lx_in_30 _ (List.mem_of_getElem? (i := 11) rfl)), tw_97, ⟨by decide, by decide⟩, by decide +kernel⟩
theorem mw_X10_against : MW yX10_against cX10_against 5 (some .int) 1 := ⟨(lx_in_30 _ (List.mem_of_getElem? (i := 17) rfl)), tw_97, ⟨by decide, by decide⟩, by decide +kernel⟩
theorem mw_X10_comesCorner : MW yX10_comesCorner cX10_comesCorner 3 none 0 := ⟨(lx_in_30 _ (List.mem_of_getElem? (i := 14) rfl)), tw_97, ⟨by decide, by decide⟩, by decide +kernel⟩
theorem mw_X10_tries : MW yX10_tries cX10_tries 4 none 3 := ⟨(lx_in_29 _ (List.mem_of_getElem? (i := 33) rfl)), tw_97, ⟨by decide, by decide⟩, by decide +kernel⟩
theorem mw_X10_setCorners : MW yX10_setCorners cX10_setCorners 4 none 0 := ⟨(lx_in_29 _ (List.mem_of_getElem? (i := 30) rfl)), tw_97, ⟨by decide, by decide⟩, by decide +kernel⟩
theorem mw_X10_corner : MW yX10_corner cX10_corner 3 (some .int) 2 := ⟨(lx_in_29 _ (List.mem_of_getElem? (i := 27) rfl)), tw_97, ⟨by decide, by decide⟩, by decide +kernel⟩
theorem mw_X10_meets : MW yX10_meets cX10_meets 8 (some .boolean) 3 := ⟨(lx_in_30 _ (List.mem_of_getElem? (i := 30) rfl)), tw_97, ⟨by decide, by decide⟩, by decide +kernel⟩
theorem mw_X10_edge : MW yX10_edge cX10_edge 1 (some .int) 1 := ⟨(lx_in_30 _ (List.mem_of_getElem? (i := 27) rfl)), tw_97, ⟨by decide, by decide⟩, by decide +kernel⟩
theorem mw_X10_wholeAt : MW yX10_wholeAt cX10_wholeAt 8 (some .int) 1 := ⟨(lx_in_30 _ (List.mem_of_getElem? (i := 24) rfl)), tw_97, ⟨by decide, by decide⟩, by decide +kernel⟩
theorem mw_X10_whole : MW yX10_whole cX10_whole 4 (some .int) 2 := ⟨(lx_in_30 _ (List.mem_of_getElem? (i := 21) rfl)), tw_97, ⟨by decide, by decide⟩, by decide +kernel⟩
theorem mw_X10_upper : MW yX10_upper cX10_upper 1 (some .long) 0 := ⟨(lx_in_30 _ (List.mem_of_getElem? (i := 34) rfl)), tw_97, ⟨by decide, by decide⟩, by decide +kernel⟩
theorem mw_X10_lower : MW yX10_lower cX10_lower 1 (some .long) 0 := ⟨(lx_in_30 _ (List.mem_of_getElem? (i := 38) rfl)), tw_97, ⟨by decide, by decide⟩, by decide +kernel⟩
theorem mw_X10_told : MW yX10_told cX10_told 1 (some .long) 0 := ⟨(lx_in_31 _ (List.mem_of_getElem? (i := 2) rfl)), tw_97, ⟨by decide, by decide⟩, by decide +kernel⟩
theorem mw_X10_count : MW yX10_count cX10_count 2 (some .int) 1 := ⟨(lx_in_31 _ (List.mem_of_getElem? (i := 6) rfl)), tw_97, ⟨by decide, by decide⟩, by decide +kernel⟩
theorem mw_X10_type : MW yX10_type cX10_type 2 (some .int) 1 := ⟨(lx_in_31 _ (List.mem_of_getElem? (i := 10) rfl)), tw_97, ⟨by decide, by decide⟩, by decide +kernel⟩
theorem mw_X10_clear : MW yX10_clear cX10_clear 2 (some .int) 0 := ⟨(lx_in_31 _ (List.mem_of_getElem? (i := 14) rfl)), tw_97, ⟨by decide, by decide⟩, by decide +kernel⟩
theorem mw_X10_here : MW yX10_here cX10_here 1 (some .int) 0 := ⟨(lx_in_31 _ (List.mem_of_getElem? (i := 21) rfl)), tw_97, ⟨by decide, by decide⟩, by decide +kernel⟩
theorem mw_X10_takes : MW yX10_takes cX10_takes 2 (some .boolean) 1 := ⟨(lx_in_31 _ (List.mem_of_getElem? (i := 33) rfl)), tw_97, ⟨by decide, by decide⟩, by decide +kernel⟩
theorem mw_X10_number : MW yX10_number cX10_number 5 (some .boolean) 2 := ⟨(lx_in_31 _ (List.mem_of_getElem? (i := 30) rfl)), tw_97, ⟨by decide, by decide⟩, by decide +kernel⟩
theorem mw_X10_readsVariables : MW yX10_readsVariables cX10_readsVariables 2 (some .boolean) 1 := ⟨(lx_in_31 _ (List.mem_of_getElem? (i := 27) rfl)), tw_97, ⟨by decide, by decide⟩, by decide +kernel⟩
theorem mw_X10_readsTerm : MW yX10_readsTerm cX10_readsTerm 4 (some .boolean) 1 := ⟨(lx_in_31 _ (List.mem_of_getElem? (i := 39) rfl)), tw_97, ⟨by decide, by decide⟩, by decide +kernel⟩
theorem mw_X10_readsForm : MW yX10_readsForm cX10_readsForm 5 (some .boolean) 0 := ⟨(lx_in_31 _ (List.mem_of_getElem? (i := 36) rfl)), tw_97, ⟨by decide, by decide⟩, by decide +kernel⟩
theorem mw_X10_readsBound : MW yX10_readsBound cX10_readsBound 3 (some .boolean) 0 := ⟨(lx_in_32 _ (List.mem_of_getElem? (i := 2) rfl)), tw_97, ⟨by decide, by decide⟩, by decide +kernel⟩
theorem mw_X10_readsItem : MW yX10_readsItem cX10_readsItem 3 (some .boolean) 1 := ⟨(lx_in_31 _ (List.mem_of_getElem? (i := 24) rfl)), tw_97, ⟨by decide, by decide⟩, by decide +kernel⟩
theorem mw_X10_tells : MW yX10_tells cX10_tells 3 (some .int) 0 := ⟨(lx_in_31 _ (List.mem_of_getElem? (i := 18) rfl)), tw_97, ⟨by decide, by decide⟩, by decide +kernel⟩
theorem fl_X0_12 : FL RX0 12 0 0 (2, 1) true (.object "BoundProofs$Rows") := ⟨_, _, _, _, kl_0, by decide, tw_234, rfl, rfl, rfl, rfl⟩
theorem fl_X0_18 : FL RX0 18 0 1 (2, 6) true (.array .int) := ⟨_, _, _, _, kl_0, by decide, tw_239, rfl, rfl, rfl, rfl⟩
theorem fl_X0_22 : FL RX0 22 0 2 (2, 7) true (.array .int) := ⟨_, _, _, _, kl_0, by decide, tw_240, rfl, rfl, rfl, rfl⟩
theorem fl_X0_25 : FL RX0 25 0 3 (0, 0) false .int := ⟨_, _, _, _, kl_0, by decide, tw_241, rfl, rfl, rfl, rfl⟩
theorem fl_X0_29 : FL RX0 29 0 4 (1, 0) false .long := ⟨_, _, _, _, kl_0, by decide, tw_242, rfl, rfl, rfl, rfl⟩
theorem fl_X0_33 : FL RX0 33 0 5 (0, 0) false .boolean := ⟨_, _, _, _, kl_0, by decide, tw_245, rfl, rfl, rfl, rfl⟩
theorem fl_X0_43 : FL RX0 43 7 4 (0, 0) false .int := ⟨_, _, _, _, kl_7, by decide, tw_212, rfl, rfl, rfl, rfl⟩
theorem fl_X0_74 : FL RX0 74 7 1 (2, 2) true (.array .long) := ⟨_, _, _, _, kl_7, by decide, tw_203, rfl, rfl, rfl, rfl⟩
theorem fl_X0_78 : FL RX0 78 7 2 (2, 3) true (.array .boolean) := ⟨_, _, _, _, kl_7, by decide, tw_206, rfl, rfl, rfl, rfl⟩
theorem fl_X0_81 : FL RX0 81 7 3 (2, 4) true (.array .boolean) := ⟨_, _, _, _, kl_7, by decide, tw_208, rfl, rfl, rfl, rfl⟩
theorem fl_X1_12 : FL RX1 12 1 0 (2, 1) true (.object "BoundProofs$Circuit") := ⟨_, _, _, _, kl_1, by decide, tw_261, rfl, rfl, rfl, rfl⟩
theorem fl_X1_22 : FL RX1 22 1 1 (2, 2) true (.object "BoundProofs$Rows") := ⟨_, _, _, _, kl_1, by decide, tw_263, rfl, rfl, rfl, rfl⟩
theorem fl_X1_23 : FL RX1 23 1 2 (2, 9) true (.array .int) := ⟨_, _, _, _, kl_1, by decide, tw_264, rfl, rfl, rfl, rfl⟩
theorem fl_X1_27 : FL RX1 27 1 3 (2, 10) true (.array .int) := ⟨_, _, _, _, kl_1, by decide, tw_266, rfl, rfl, rfl, rfl⟩
theorem fl_X1_30 : FL RX1 30 7 4 (0, 0) false .int := ⟨_, _, _, _, kl_7, by decide, tw_210, rfl, rfl, rfl, rfl⟩
theorem fl_X1_42 : FL RX1 42 7 5 (0, 0) false .int := ⟨_, _, _, _, kl_7, by decide, tw_218, rfl, rfl, rfl, rfl⟩
theorem fl_X10_100 : FL RX10 100 10 5 (0, 0) false .int := ⟨_, _, _, _, kl_10, by decide, tw_837, rfl, rfl, rfl, rfl⟩
theorem fl_X10_13 : FL RX10 13 10 2 (2, 1) true (.array .int) := ⟨_, _, _, _, kl_10, by decide, tw_834, rfl, rfl, rfl, rfl⟩
theorem fl_X10_135 : FL RX10 135 10 9 (0, 0) false .int := ⟨_, _, _, _, kl_10, by decide, tw_841, rfl, rfl, rfl, rfl⟩
theorem fl_X10_142 : FL RX10 142 10 15 (0, 0) false .int := ⟨_, _, _, _, kl_10, by decide, tw_847, rfl, rfl, rfl, rfl⟩
theorem fl_X10_149 : FL RX10 149 10 28 (0, 0) false .boolean := ⟨_, _, _, _, kl_10, by decide, tw_860, rfl, rfl, rfl, rfl⟩
theorem fl_X10_153 : FL RX10 153 10 24 (0, 0) false .boolean := ⟨_, _, _, _, kl_10, by decide, tw_856, rfl, rfl, rfl, rfl⟩
theorem fl_X10_156 : FL RX10 156 10 26 (1, 0) false .long := ⟨_, _, _, _, kl_10, by decide, tw_858, rfl, rfl, rfl, rfl⟩
theorem fl_X10_159 : FL RX10 159 10 25 (1, 0) false .long := ⟨_, _, _, _, kl_10, by decide, tw_857, rfl, rfl, rfl, rfl⟩
theorem fl_X10_164 : FL RX10 164 10 27 (0, 0) false .boolean := ⟨_, _, _, _, kl_10, by decide, tw_859, rfl, rfl, rfl, rfl⟩
theorem fl_X10_167 : FL RX10 167 10 20 (0, 0) false .boolean := ⟨_, _, _, _, kl_10, by decide, tw_852, rfl, rfl, rfl, rfl⟩
theorem fl_X10_17 : FL RX10 17 10 4 (2, 2) true (.array .int) := ⟨_, _, _, _, kl_10, by decide, tw_836, rfl, rfl, rfl, rfl⟩
theorem fl_X10_170 : FL RX10 170 10 22 (1, 0) false .long := ⟨_, _, _, _, kl_10, by decide, tw_854, rfl, rfl, rfl, rfl⟩
theorem fl_X10_173 : FL RX10 173 10 21 (1, 0) false .long := ⟨_, _, _, _, kl_10, by decide, tw_853, rfl, rfl, rfl, rfl⟩
theorem fl_X10_176 : FL RX10 176 10 23 (0, 0) false .boolean := ⟨_, _, _, _, kl_10, by decide, tw_855, rfl, rfl, rfl, rfl⟩
theorem fl_X10_20 : FL RX10 20 10 6 (2, 3) true (.array .int) := ⟨_, _, _, _, kl_10, by decide, tw_838, rfl, rfl, rfl, rfl⟩
theorem fl_X10_210 : FL RX10 210 10 29 (0, 0) false .int := ⟨_, _, _, _, kl_10, by decide, tw_861, rfl, rfl, rfl, rfl⟩
theorem fl_X10_23 : FL RX10 23 10 7 (2, 4) true (.array .int) := ⟨_, _, _, _, kl_10, by decide, tw_839, rfl, rfl, rfl, rfl⟩
theorem fl_X10_238 : FL RX10 238 10 36 (1, 0) false .long := ⟨_, _, _, _, kl_10, by decide, tw_868, rfl, rfl, rfl, rfl⟩
theorem fl_X10_241 : FL RX10 241 10 34 (1, 0) false .long := ⟨_, _, _, _, kl_10, by decide, tw_866, rfl, rfl, rfl, rfl⟩
theorem fl_X10_26 : FL RX10 26 10 8 (2, 5) true (.array .int) := ⟨_, _, _, _, kl_10, by decide, tw_840, rfl, rfl, rfl, rfl⟩
theorem fl_X10_29 : FL RX10 29 10 10 (2, 6) true (.array .long) := ⟨_, _, _, _, kl_10, by decide, tw_842, rfl, rfl, rfl, rfl⟩
theorem fl_X10_305 : FL RX10 305 10 39 (0, 0) false .int := ⟨_, _, _, _, kl_10, by decide, tw_871, rfl, rfl, rfl, rfl⟩
theorem fl_X10_33 : FL RX10 33 10 11 (2, 7) true (.array .long) := ⟨_, _, _, _, kl_10, by decide, tw_843, rfl, rfl, rfl, rfl⟩
theorem fl_X10_336 : FL RX10 336 10 43 (0, 0) false .int := ⟨_, _, _, _, kl_10, by decide, tw_875, rfl, rfl, rfl, rfl⟩
theorem fl_X10_339 : FL RX10 339 10 44 (0, 0) false .int := ⟨_, _, _, _, kl_10, by decide, tw_876, rfl, rfl, rfl, rfl⟩
theorem fl_X10_345 : FL RX10 345 10 45 (0, 0) false .int := ⟨_, _, _, _, kl_10, by decide, tw_877, rfl, rfl, rfl, rfl⟩
theorem fl_X10_351 : FL RX10 351 10 46 (0, 0) false .int := ⟨_, _, _, _, kl_10, by decide, tw_878, rfl, rfl, rfl, rfl⟩
theorem fl_X10_357 : FL RX10 357 10 47 (0, 0) false .int := ⟨_, _, _, _, kl_10, by decide, tw_879, rfl, rfl, rfl, rfl⟩
theorem fl_X10_36 : FL RX10 36 10 12 (2, 8) true (.array .long) := ⟨_, _, _, _, kl_10, by decide, tw_844, rfl, rfl, rfl, rfl⟩
theorem fl_X10_363 : FL RX10 363 10 49 (0, 0) false .int := ⟨_, _, _, _, kl_10, by decide, tw_881, rfl, rfl, rfl, rfl⟩
theorem fl_X10_39 : FL RX10 39 10 13 (2, 9) true (.array .long) := ⟨_, _, _, _, kl_10, by decide, tw_845, rfl, rfl, rfl, rfl⟩
theorem fl_X10_42 : FL RX10 42 10 14 (2, 10) true (.array .int) := ⟨_, _, _, _, kl_10, by decide, tw_846, rfl, rfl, rfl, rfl⟩
theorem fl_X10_45 : FL RX10 45 10 16 (2, 11) true (.array .long) := ⟨_, _, _, _, kl_10, by decide, tw_848, rfl, rfl, rfl, rfl⟩
theorem fl_X10_48 : FL RX10 48 10 17 (2, 12) true (.array .long) := ⟨_, _, _, _, kl_10, by decide, tw_849, rfl, rfl, rfl, rfl⟩
theorem fl_X10_51 : FL RX10 51 10 18 (2, 13) true (.array .long) := ⟨_, _, _, _, kl_10, by decide, tw_850, rfl, rfl, rfl, rfl⟩
theorem fl_X10_54 : FL RX10 54 10 19 (2, 14) true (.array .int) := ⟨_, _, _, _, kl_10, by decide, tw_851, rfl, rfl, rfl, rfl⟩
theorem fl_X10_57 : FL RX10 57 10 30 (2, 15) true (.array .int) := ⟨_, _, _, _, kl_10, by decide, tw_862, rfl, rfl, rfl, rfl⟩
theorem fl_X10_60 : FL RX10 60 10 31 (2, 16) true (.array .long) := ⟨_, _, _, _, kl_10, by decide, tw_863, rfl, rfl, rfl, rfl⟩
theorem fl_X10_63 : FL RX10 63 10 32 (2, 17) true (.array .long) := ⟨_, _, _, _, kl_10, by decide, tw_864, rfl, rfl, rfl, rfl⟩
theorem fl_X10_66 : FL RX10 66 10 33 (2, 18) true (.array .int) := ⟨_, _, _, _, kl_10, by decide, tw_865, rfl, rfl, rfl, rfl⟩
theorem fl_X10_69 : FL RX10 69 10 35 (1, 0) false .long := ⟨_, _, _, _, kl_10, by decide, tw_867, rfl, rfl, rfl, rfl⟩
theorem fl_X10_7 : FL RX10 7 10 0 (0, 0) false .int := ⟨_, _, _, _, kl_10, by decide, tw_832, rfl, rfl, rfl, rfl⟩
theorem fl_X10_73 : FL RX10 73 10 37 (2, 19) true (.array .long) := ⟨_, _, _, _, kl_10, by decide, tw_869, rfl, rfl, rfl, rfl⟩
theorem fl_X10_76 : FL RX10 76 10 38 (2, 20) true (.array .long) := ⟨_, _, _, _, kl_10, by decide, tw_870, rfl, rfl, rfl, rfl⟩
theorem fl_X10_79 : FL RX10 79 10 40 (2, 21) true (.array .long) := ⟨_, _, _, _, kl_10, by decide, tw_872, rfl, rfl, rfl, rfl⟩
theorem fl_X10_82 : FL RX10 82 10 41 (2, 22) true (.array .long) := ⟨_, _, _, _, kl_10, by decide, tw_873, rfl, rfl, rfl, rfl⟩
theorem fl_X10_85 : FL RX10 85 10 42 (2, 23) true (.array .int) := ⟨_, _, _, _, kl_10, by decide, tw_874, rfl, rfl, rfl, rfl⟩
theorem fl_X10_88 : FL RX10 88 10 48 (2, 24) true (.array .int) := ⟨_, _, _, _, kl_10, by decide, tw_880, rfl, rfl, rfl, rfl⟩
theorem fl_X10_91 : FL RX10 91 10 50 (2, 25) true (.array .int) := ⟨_, _, _, _, kl_10, by decide, tw_882, rfl, rfl, rfl, rfl⟩
theorem fl_X10_94 : FL RX10 94 10 1 (0, 0) false .int := ⟨_, _, _, _, kl_10, by decide, tw_833, rfl, rfl, rfl, rfl⟩
theorem fl_X10_97 : FL RX10 97 10 3 (0, 0) false .int := ⟨_, _, _, _, kl_10, by decide, tw_835, rfl, rfl, rfl, rfl⟩
theorem fl_X2_15 : FL RX2 15 2 1 (2, 1) true (.array .long) := ⟨_, _, _, _, kl_2, by decide, tw_347, rfl, rfl, rfl, rfl⟩
theorem fl_X2_19 : FL RX2 19 2 2 (2, 2) true (.array .long) := ⟨_, _, _, _, kl_2, by decide, tw_349, rfl, rfl, rfl, rfl⟩
theorem fl_X2_25 : FL RX2 25 2 3 (2, 3) true (.object "BoundProofs$Rows") := ⟨_, _, _, _, kl_2, by decide, tw_351, rfl, rfl, rfl, rfl⟩
theorem fl_X2_29 : FL RX2 29 2 4 (2, 8) true (.array .long) := ⟨_, _, _, _, kl_2, by decide, tw_352, rfl, rfl, rfl, rfl⟩
theorem fl_X2_32 : FL RX2 32 2 5 (1, 0) false .long := ⟨_, _, _, _, kl_2, by decide, tw_353, rfl, rfl, rfl, rfl⟩
theorem fl_X2_36 : FL RX2 36 7 4 (0, 0) false .int := ⟨_, _, _, _, kl_7, by decide, tw_211, rfl, rfl, rfl, rfl⟩
theorem fl_X2_66 : FL RX2 66 7 1 (2, 2) true (.array .long) := ⟨_, _, _, _, kl_7, by decide, tw_202, rfl, rfl, rfl, rfl⟩
theorem fl_X2_9 : FL RX2 9 2 0 (0, 0) false .int := ⟨_, _, _, _, kl_2, by decide, tw_345, rfl, rfl, rfl, rfl⟩
theorem fl_X3_9 : FL RX3 9 3 0 (2, 1) true (.array .int) := ⟨_, _, _, _, kl_3, by decide, tw_372, rfl, rfl, rfl, rfl⟩
theorem fl_X4_15 : FL RX4 15 4 1 (1, 0) false .long := ⟨_, _, _, _, kl_4, by decide, tw_284, rfl, rfl, rfl, rfl⟩
theorem fl_X4_19 : FL RX4 19 4 2 (1, 0) false .long := ⟨_, _, _, _, kl_4, by decide, tw_287, rfl, rfl, rfl, rfl⟩
theorem fl_X4_22 : FL RX4 22 4 3 (0, 0) false .boolean := ⟨_, _, _, _, kl_4, by decide, tw_290, rfl, rfl, rfl, rfl⟩
theorem fl_X4_25 : FL RX4 25 0 0 (2, 1) true (.object "BoundProofs$Rows") := ⟨_, _, _, _, kl_0, by decide, tw_238, rfl, rfl, rfl, rfl⟩
theorem fl_X4_35 : FL RX4 35 7 4 (0, 0) false .int := ⟨_, _, _, _, kl_7, by decide, tw_213, rfl, rfl, rfl, rfl⟩
theorem fl_X4_51 : FL RX4 51 7 5 (0, 0) false .int := ⟨_, _, _, _, kl_7, by decide, tw_219, rfl, rfl, rfl, rfl⟩
theorem fl_X4_58 : FL RX4 58 0 4 (1, 0) false .long := ⟨_, _, _, _, kl_0, by decide, tw_243, rfl, rfl, rfl, rfl⟩
theorem fl_X4_64 : FL RX4 64 0 5 (0, 0) false .boolean := ⟨_, _, _, _, kl_0, by decide, tw_246, rfl, rfl, rfl, rfl⟩
theorem fl_X4_9 : FL RX4 9 4 0 (0, 0) false .boolean := ⟨_, _, _, _, kl_4, by decide, tw_281, rfl, rfl, rfl, rfl⟩
theorem fl_X5_15 : FL RX5 15 5 1 (0, 0) false .int := ⟨_, _, _, _, kl_5, by decide, tw_118, rfl, rfl, rfl, rfl⟩
theorem fl_X5_18 : FL RX5 18 5 2 (0, 0) false .int := ⟨_, _, _, _, kl_5, by decide, tw_121, rfl, rfl, rfl, rfl⟩
theorem fl_X5_21 : FL RX5 21 5 3 (0, 0) false .int := ⟨_, _, _, _, kl_5, by decide, tw_124, rfl, rfl, rfl, rfl⟩
theorem fl_X5_24 : FL RX5 24 5 4 (2, 1) true (.array .int) := ⟨_, _, _, _, kl_5, by decide, tw_126, rfl, rfl, rfl, rfl⟩
theorem fl_X5_28 : FL RX5 28 5 5 (2, 2) true (.array .int) := ⟨_, _, _, _, kl_5, by decide, tw_127, rfl, rfl, rfl, rfl⟩
theorem fl_X5_31 : FL RX5 31 5 6 (2, 3) true (.array .int) := ⟨_, _, _, _, kl_5, by decide, tw_129, rfl, rfl, rfl, rfl⟩
theorem fl_X5_34 : FL RX5 34 5 7 (2, 4) true (.array .int) := ⟨_, _, _, _, kl_5, by decide, tw_131, rfl, rfl, rfl, rfl⟩
theorem fl_X5_37 : FL RX5 37 5 8 (2, 5) true (.array .int) := ⟨_, _, _, _, kl_5, by decide, tw_133, rfl, rfl, rfl, rfl⟩
theorem fl_X5_9 : FL RX5 9 5 0 (0, 0) false .int := ⟨_, _, _, _, kl_5, by decide, tw_115, rfl, rfl, rfl, rfl⟩
theorem fl_X6_15 : FL RX6 15 6 1 (0, 0) false .int := ⟨_, _, _, _, kl_6, by decide, tw_161, rfl, rfl, rfl, rfl⟩
theorem fl_X6_19 : FL RX6 19 6 6 (2, 2) true (.array .int) := ⟨_, _, _, _, kl_6, by decide, tw_167, rfl, rfl, rfl, rfl⟩
theorem fl_X6_27 : FL RX6 27 6 4 (0, 0) false .int := ⟨_, _, _, _, kl_6, by decide, tw_165, rfl, rfl, rfl, rfl⟩
theorem fl_X6_33 : FL RX6 33 6 2 (0, 0) false .int := ⟨_, _, _, _, kl_6, by decide, tw_163, rfl, rfl, rfl, rfl⟩
theorem fl_X6_40 : FL RX6 40 5 1 (0, 0) false .int := ⟨_, _, _, _, kl_5, by decide, tw_119, rfl, rfl, rfl, rfl⟩
theorem fl_X6_46 : FL RX6 46 5 2 (0, 0) false .int := ⟨_, _, _, _, kl_5, by decide, tw_122, rfl, rfl, rfl, rfl⟩
theorem fl_X6_52 : FL RX6 52 6 3 (0, 0) false .int := ⟨_, _, _, _, kl_6, by decide, tw_164, rfl, rfl, rfl, rfl⟩
theorem fl_X6_65 : FL RX6 65 6 5 (0, 0) false .int := ⟨_, _, _, _, kl_6, by decide, tw_166, rfl, rfl, rfl, rfl⟩
theorem fl_X6_78 : FL RX6 78 5 0 (0, 0) false .int := ⟨_, _, _, _, kl_5, by decide, tw_116, rfl, rfl, rfl, rfl⟩
theorem fl_X6_9 : FL RX6 9 6 0 (2, 1) true (.array .int) := ⟨_, _, _, _, kl_6, by decide, tw_160, rfl, rfl, rfl, rfl⟩
theorem fl_X7_15 : FL RX7 15 7 1 (2, 2) true (.array .long) := ⟨_, _, _, _, kl_7, by decide, tw_201, rfl, rfl, rfl, rfl⟩
theorem fl_X7_19 : FL RX7 19 7 2 (2, 3) true (.array .boolean) := ⟨_, _, _, _, kl_7, by decide, tw_205, rfl, rfl, rfl, rfl⟩
theorem fl_X7_23 : FL RX7 23 7 3 (2, 4) true (.array .boolean) := ⟨_, _, _, _, kl_7, by decide, tw_207, rfl, rfl, rfl, rfl⟩
theorem fl_X7_26 : FL RX7 26 7 4 (0, 0) false .int := ⟨_, _, _, _, kl_7, by decide, tw_209, rfl, rfl, rfl, rfl⟩
theorem fl_X7_30 : FL RX7 30 7 5 (0, 0) false .int := ⟨_, _, _, _, kl_7, by decide, tw_216, rfl, rfl, rfl, rfl⟩
theorem fl_X7_9 : FL RX7 9 7 0 (2, 1) true (.array .int) := ⟨_, _, _, _, kl_7, by decide, tw_199, rfl, rfl, rfl, rfl⟩
theorem fl_X8_104 : FL RX8 104 7 4 (0, 0) false .int := ⟨_, _, _, _, kl_7, by decide, tw_214, rfl, rfl, rfl, rfl⟩
theorem fl_X8_107 : FL RX8 107 7 1 (2, 2) true (.array .long) := ⟨_, _, _, _, kl_7, by decide, tw_204, rfl, rfl, rfl, rfl⟩
theorem fl_X8_114 : FL RX8 114 7 0 (2, 1) true (.array .int) := ⟨_, _, _, _, kl_7, by decide, tw_200, rfl, rfl, rfl, rfl⟩
theorem fl_X8_12 : FL RX8 12 8 0 (2, 1) true (.object "BoundProofs$Circuit") := ⟨_, _, _, _, kl_8, by decide, tw_309, rfl, rfl, rfl, rfl⟩
theorem fl_X8_22 : FL RX8 22 8 1 (2, 2) true (.object "BoundProofs$Rows") := ⟨_, _, _, _, kl_8, by decide, tw_310, rfl, rfl, rfl, rfl⟩
theorem fl_X8_25 : FL RX8 25 8 2 (1, 0) false .long := ⟨_, _, _, _, kl_8, by decide, tw_311, rfl, rfl, rfl, rfl⟩
theorem fl_X8_32 : FL RX8 32 8 3 (2, 9) true (.object "BoundProofs$Limit") := ⟨_, _, _, _, kl_8, by decide, tw_312, rfl, rfl, rfl, rfl⟩
theorem fl_X8_36 : FL RX8 36 8 4 (2, 10) true (.object "BoundProofs$Limit") := ⟨_, _, _, _, kl_8, by decide, tw_313, rfl, rfl, rfl, rfl⟩
theorem fl_X8_39 : FL RX8 39 8 5 (1, 0) false .long := ⟨_, _, _, _, kl_8, by decide, tw_314, rfl, rfl, rfl, rfl⟩
theorem fl_X8_42 : FL RX8 42 8 6 (1, 0) false .long := ⟨_, _, _, _, kl_8, by decide, tw_315, rfl, rfl, rfl, rfl⟩
theorem fl_X8_45 : FL RX8 45 8 7 (2, 11) true (.array .long) := ⟨_, _, _, _, kl_8, by decide, tw_316, rfl, rfl, rfl, rfl⟩
theorem fl_X8_49 : FL RX8 49 8 8 (2, 12) true (.array .long) := ⟨_, _, _, _, kl_8, by decide, tw_318, rfl, rfl, rfl, rfl⟩
theorem fl_X8_58 : FL RX8 58 7 5 (0, 0) false .int := ⟨_, _, _, _, kl_7, by decide, tw_217, rfl, rfl, rfl, rfl⟩
theorem fl_X8_76 : FL RX8 76 4 2 (1, 0) false .long := ⟨_, _, _, _, kl_4, by decide, tw_288, rfl, rfl, rfl, rfl⟩
theorem fl_X8_86 : FL RX8 86 4 0 (0, 0) false .boolean := ⟨_, _, _, _, kl_4, by decide, tw_282, rfl, rfl, rfl, rfl⟩
theorem fl_X8_90 : FL RX8 90 4 1 (1, 0) false .long := ⟨_, _, _, _, kl_4, by decide, tw_285, rfl, rfl, rfl, rfl⟩
theorem fl_X8_92 : FL RX8 92 4 3 (0, 0) false .boolean := ⟨_, _, _, _, kl_4, by decide, tw_291, rfl, rfl, rfl, rfl⟩
theorem fl_X9_117 : FL RX9 117 5 1 (0, 0) false .int := ⟨_, _, _, _, kl_5, by decide, tw_120, rfl, rfl, rfl, rfl⟩
theorem fl_X9_12 : FL RX9 12 9 0 (2, 1) true (.object "BoundProofs$Problem") := ⟨_, _, _, _, kl_9, by decide, tw_377, rfl, rfl, rfl, rfl⟩
theorem fl_X9_140 : FL RX9 140 5 2 (0, 0) false .int := ⟨_, _, _, _, kl_5, by decide, tw_123, rfl, rfl, rfl, rfl⟩
theorem fl_X9_146 : FL RX9 146 5 5 (2, 2) true (.array .int) := ⟨_, _, _, _, kl_5, by decide, tw_128, rfl, rfl, rfl, rfl⟩
theorem fl_X9_150 : FL RX9 150 5 6 (2, 3) true (.array .int) := ⟨_, _, _, _, kl_5, by decide, tw_130, rfl, rfl, rfl, rfl⟩
theorem fl_X9_153 : FL RX9 153 5 7 (2, 4) true (.array .int) := ⟨_, _, _, _, kl_5, by decide, tw_132, rfl, rfl, rfl, rfl⟩
theorem fl_X9_156 : FL RX9 156 5 3 (0, 0) false .int := ⟨_, _, _, _, kl_5, by decide, tw_125, rfl, rfl, rfl, rfl⟩
theorem fl_X9_159 : FL RX9 159 5 8 (2, 5) true (.array .int) := ⟨_, _, _, _, kl_5, by decide, tw_134, rfl, rfl, rfl, rfl⟩
theorem fl_X9_16 : FL RX9 16 9 1 (2, 7) true (.object "BoundProofs$Problem") := ⟨_, _, _, _, kl_9, by decide, tw_378, rfl, rfl, rfl, rfl⟩
theorem fl_X9_19 : FL RX9 19 9 2 (2, 13) true (.array (.object "BoundProofs$Problem")) := ⟨_, _, _, _, kl_9, by decide, tw_379, rfl, rfl, rfl, rfl⟩
theorem fl_X9_195 : FL RX9 195 1 2 (2, 9) true (.array .int) := ⟨_, _, _, _, kl_1, by decide, tw_265, rfl, rfl, rfl, rfl⟩
theorem fl_X9_198 : FL RX9 198 0 4 (1, 0) false .long := ⟨_, _, _, _, kl_0, by decide, tw_244, rfl, rfl, rfl, rfl⟩
theorem fl_X9_210 : FL RX9 210 0 5 (0, 0) false .boolean := ⟨_, _, _, _, kl_0, by decide, tw_247, rfl, rfl, rfl, rfl⟩
theorem fl_X9_218 : FL RX9 218 4 1 (1, 0) false .long := ⟨_, _, _, _, kl_4, by decide, tw_286, rfl, rfl, rfl, rfl⟩
theorem fl_X9_221 : FL RX9 221 4 2 (1, 0) false .long := ⟨_, _, _, _, kl_4, by decide, tw_289, rfl, rfl, rfl, rfl⟩
theorem fl_X9_228 : FL RX9 228 4 3 (0, 0) false .boolean := ⟨_, _, _, _, kl_4, by decide, tw_292, rfl, rfl, rfl, rfl⟩
theorem fl_X9_23 : FL RX9 23 9 3 (2, 26) true (.array .boolean) := ⟨_, _, _, _, kl_9, by decide, tw_380, rfl, rfl, rfl, rfl⟩
theorem fl_X9_240 : FL RX9 240 4 0 (0, 0) false .boolean := ⟨_, _, _, _, kl_4, by decide, tw_283, rfl, rfl, rfl, rfl⟩
theorem fl_X9_249 : FL RX9 249 5 0 (0, 0) false .int := ⟨_, _, _, _, kl_5, by decide, tw_117, rfl, rfl, rfl, rfl⟩
theorem fl_X9_256 : FL RX9 256 8 7 (2, 11) true (.array .long) := ⟨_, _, _, _, kl_8, by decide, tw_317, rfl, rfl, rfl, rfl⟩
theorem fl_X9_259 : FL RX9 259 8 8 (2, 12) true (.array .long) := ⟨_, _, _, _, kl_8, by decide, tw_319, rfl, rfl, rfl, rfl⟩
theorem fl_X9_267 : FL RX9 267 2 0 (0, 0) false .int := ⟨_, _, _, _, kl_2, by decide, tw_346, rfl, rfl, rfl, rfl⟩
theorem fl_X9_268 : FL RX9 268 2 1 (2, 1) true (.array .long) := ⟨_, _, _, _, kl_2, by decide, tw_348, rfl, rfl, rfl, rfl⟩
theorem fl_X9_269 : FL RX9 269 2 2 (2, 2) true (.array .long) := ⟨_, _, _, _, kl_2, by decide, tw_350, rfl, rfl, rfl, rfl⟩
theorem fl_X9_274 : FL RX9 274 3 0 (2, 1) true (.array .int) := ⟨_, _, _, _, kl_3, by decide, tw_373, rfl, rfl, rfl, rfl⟩
theorem fl_X9_288 : FL RX9 288 7 4 (0, 0) false .int := ⟨_, _, _, _, kl_7, by decide, tw_215, rfl, rfl, rfl, rfl⟩
theorem fl_X9_30 : FL RX9 30 9 4 (2, 27) true (.object "BoundProofs$Reader") := ⟨_, _, _, _, kl_9, by decide, tw_381, rfl, rfl, rfl, rfl⟩
theorem fl_X9_37 : FL RX9 37 9 5 (2, 30) true (.object "BoundProofs$Clashes") := ⟨_, _, _, _, kl_9, by decide, tw_382, rfl, rfl, rfl, rfl⟩
theorem fl_X9_45 : FL RX9 45 9 6 (2, 31) true (.object "BoundProofs$Circuit") := ⟨_, _, _, _, kl_9, by decide, tw_383, rfl, rfl, rfl, rfl⟩
theorem fl_X9_52 : FL RX9 52 9 7 (2, 32) true (.object "BoundProofs$Rows") := ⟨_, _, _, _, kl_9, by decide, tw_384, rfl, rfl, rfl, rfl⟩
theorem fl_X9_56 : FL RX9 56 9 8 (2, 41) true (.object "BoundProofs$Limit") := ⟨_, _, _, _, kl_9, by decide, tw_385, rfl, rfl, rfl, rfl⟩
theorem fl_X9_63 : FL RX9 63 9 9 (2, 42) true (.object "BoundProofs$Sampler") := ⟨_, _, _, _, kl_9, by decide, tw_386, rfl, rfl, rfl, rfl⟩
theorem fl_X9_70 : FL RX9 70 9 10 (2, 55) true (.object "BoundProofs$Corners") := ⟨_, _, _, _, kl_9, by decide, tw_387, rfl, rfl, rfl, rfl⟩
theorem fl_X9_77 : FL RX9 77 9 11 (2, 64) true (.object "BoundProofs$Grid") := ⟨_, _, _, _, kl_9, by decide, tw_388, rfl, rfl, rfl, rfl⟩
theorem fl_X9_81 : FL RX9 81 9 12 (1, 0) false .long := ⟨_, _, _, _, kl_9, by decide, tw_389, rfl, rfl, rfl, rfl⟩
theorem fl_X9_85 : FL RX9 85 9 13 (1, 0) false .long := ⟨_, _, _, _, kl_9, by decide, tw_390, rfl, rfl, rfl, rfl⟩
theorem fl_X9_88 : FL RX9 88 9 14 (1, 0) false .long := ⟨_, _, _, _, kl_9, by decide, tw_391, rfl, rfl, rfl, rfl⟩
theorem fl_X9_95 : FL RX9 95 6 1 (0, 0) false .int := ⟨_, _, _, _, kl_6, by decide, tw_162, rfl, rfl, rfl, rfl⟩
theorem kf_0_1 {c : Nat} (h : kd c (10 + 0, 0)) : kd (c + 1) (10 + 7, 0) := (by decide : ∀ c, c < 92 → kdL[c]? = some (10 + 0, 0) → kdL[c + 1]? = some (10 + 7, 0)) c (kd_lt h) h
theorem kf_0_6 {c : Nat} (h : kd c (10 + 0, 0)) : kd (c + 6) (0, 4) := (by decide : ∀ c, c < 92 → kdL[c]? = some (10 + 0, 0) → kdL[c + 6]? = some (0, 4)) c (kd_lt h) h
theorem kf_0_7 {c : Nat} (h : kd c (10 + 0, 0)) : kd (c + 7) (0, 4) := (by decide : ∀ c, c < 92 → kdL[c]? = some (10 + 0, 0) → kdL[c + 7]? = some (0, 4)) c (kd_lt h) h
theorem kf_1_1 {c : Nat} (h : kd c (10 + 1, 0)) : kd (c + 1) (10 + 0, 0) := (by decide : ∀ c, c < 92 → kdL[c]? = some (10 + 1, 0) → kdL[c + 1]? = some (10 + 0, 0)) c (kd_lt h) h
theorem kf_1_2 {c : Nat} (h : kd c (10 + 1, 0)) : kd (c + 2) (10 + 7, 0) := (by decide : ∀ c, c < 92 → kdL[c]? = some (10 + 1, 0) → kdL[c + 2]? = some (10 + 7, 0)) c (kd_lt h) h
theorem kf_1_9 {c : Nat} (h : kd c (10 + 1, 0)) : kd (c + 9) (0, 781) := (by decide : ∀ c, c < 92 → kdL[c]? = some (10 + 1, 0) → kdL[c + 9]? = some (0, 781)) c (kd_lt h) h
theorem kf_1_10 {c : Nat} (h : kd c (10 + 1, 0)) : kd (c + 10) (0, 13) := (by decide : ∀ c, c < 92 → kdL[c]? = some (10 + 1, 0) → kdL[c + 10]? = some (0, 13)) c (kd_lt h) h
theorem kf_2_1 {c : Nat} (h : kd c (10 + 2, 0)) : kd (c + 1) (2, 360) := (by decide : ∀ c, c < 92 → kdL[c]? = some (10 + 2, 0) → kdL[c + 1]? = some (2, 360)) c (kd_lt h) h
theorem kf_2_2 {c : Nat} (h : kd c (10 + 2, 0)) : kd (c + 2) (2, 120) := (by decide : ∀ c, c < 92 → kdL[c]? = some (10 + 2, 0) → kdL[c + 2]? = some (2, 120)) c (kd_lt h) h
theorem kf_2_3 {c : Nat} (h : kd c (10 + 2, 0)) : kd (c + 3) (10 + 7, 0) := (by decide : ∀ c, c < 92 → kdL[c]? = some (10 + 2, 0) → kdL[c + 3]? = some (10 + 7, 0)) c (kd_lt h) h
theorem kf_2_8 {c : Nat} (h : kd c (10 + 2, 0)) : kd (c + 8) (2, 3) := (by decide : ∀ c, c < 92 → kdL[c]? = some (10 + 2, 0) → kdL[c + 8]? = some (2, 3)) c (kd_lt h) h
theorem kf_3_1 {c : Nat} (h : kd c (10 + 3, 0)) : kd (c + 1) (0, 3) := (by decide : ∀ c, c < 92 → kdL[c]? = some (10 + 3, 0) → kdL[c + 1]? = some (0, 3)) c (kd_lt h) h
theorem kf_5_1 {c : Nat} (h : kd c (10 + 5, 0)) : kd (c + 1) (0, 24) := (by decide : ∀ c, c < 92 → kdL[c]? = some (10 + 5, 0) → kdL[c + 1]? = some (0, 24)) c (kd_lt h) h
theorem kf_5_2 {c : Nat} (h : kd c (10 + 5, 0)) : kd (c + 2) (0, 10) := (by decide : ∀ c, c < 92 → kdL[c]? = some (10 + 5, 0) → kdL[c + 2]? = some (0, 10)) c (kd_lt h) h
theorem kf_5_3 {c : Nat} (h : kd c (10 + 5, 0)) : kd (c + 3) (0, 10) := (by decide : ∀ c, c < 92 → kdL[c]? = some (10 + 5, 0) → kdL[c + 3]? = some (0, 10)) c (kd_lt h) h
theorem kf_5_4 {c : Nat} (h : kd c (10 + 5, 0)) : kd (c + 4) (0, 10) := (by decide : ∀ c, c < 92 → kdL[c]? = some (10 + 5, 0) → kdL[c + 4]? = some (0, 10)) c (kd_lt h) h
theorem kf_5_5 {c : Nat} (h : kd c (10 + 5, 0)) : kd (c + 5) (0, 4) := (by decide : ∀ c, c < 92 → kdL[c]? = some (10 + 5, 0) → kdL[c + 5]? = some (0, 4)) c (kd_lt h) h
theorem kf_6_1 {c : Nat} (h : kd c (10 + 6, 0)) : kd (c + 1) (0, 90) := (by decide : ∀ c, c < 92 → kdL[c]? = some (10 + 6, 0) → kdL[c + 1]? = some (0, 90)) c (kd_lt h) h
theorem kf_6_2 {c : Nat} (h : kd c (10 + 6, 0)) : kd (c + 2) (0, 3) := (by decide : ∀ c, c < 92 → kdL[c]? = some (10 + 6, 0) → kdL[c + 2]? = some (0, 3)) c (kd_lt h) h
theorem kf_7_1 {c : Nat} (h : kd c (10 + 7, 0)) : kd (c + 1) (0, 36) := (by decide : ∀ c, c < 92 → kdL[c]? = some (10 + 7, 0) → kdL[c + 1]? = some (0, 36)) c (kd_lt h) h
theorem kf_7_2 {c : Nat} (h : kd c (10 + 7, 0)) : kd (c + 2) (2, 12) := (by decide : ∀ c, c < 92 → kdL[c]? = some (10 + 7, 0) → kdL[c + 2]? = some (2, 12)) c (kd_lt h) h
theorem kf_7_3 {c : Nat} (h : kd c (10 + 7, 0)) : kd (c + 3) (1, 12) := (by decide : ∀ c, c < 92 → kdL[c]? = some (10 + 7, 0) → kdL[c + 3]? = some (1, 12)) c (kd_lt h) h
theorem kf_7_4 {c : Nat} (h : kd c (10 + 7, 0)) : kd (c + 4) (1, 12) := (by decide : ∀ c, c < 92 → kdL[c]? = some (10 + 7, 0) → kdL[c + 4]? = some (1, 12)) c (kd_lt h) h
theorem kf_8_1 {c : Nat} (h : kd c (10 + 8, 0)) : kd (c + 1) (10 + 0, 0) := (by decide : ∀ c, c < 92 → kdL[c]? = some (10 + 8, 0) → kdL[c + 1]? = some (10 + 0, 0)) c (kd_lt h) h
theorem kf_8_2 {c : Nat} (h : kd c (10 + 8, 0)) : kd (c + 2) (10 + 7, 0) := (by decide : ∀ c, c < 92 → kdL[c]? = some (10 + 8, 0) → kdL[c + 2]? = some (10 + 7, 0)) c (kd_lt h) h
theorem kf_8_9 {c : Nat} (h : kd c (10 + 8, 0)) : kd (c + 9) (10 + 4, 0) := (by decide : ∀ c, c < 92 → kdL[c]? = some (10 + 8, 0) → kdL[c + 9]? = some (10 + 4, 0)) c (kd_lt h) h
theorem kf_8_10 {c : Nat} (h : kd c (10 + 8, 0)) : kd (c + 10) (10 + 4, 0) := (by decide : ∀ c, c < 92 → kdL[c]? = some (10 + 8, 0) → kdL[c + 10]? = some (10 + 4, 0)) c (kd_lt h) h
theorem kf_8_11 {c : Nat} (h : kd c (10 + 8, 0)) : kd (c + 11) (2, 3) := (by decide : ∀ c, c < 92 → kdL[c]? = some (10 + 8, 0) → kdL[c + 11]? = some (2, 3)) c (kd_lt h) h
theorem kf_8_12 {c : Nat} (h : kd c (10 + 8, 0)) : kd (c + 12) (2, 3) := (by decide : ∀ c, c < 92 → kdL[c]? = some (10 + 8, 0) → kdL[c + 12]? = some (2, 3)) c (kd_lt h) h
theorem kf_9_1 {c : Nat} (h : kd c (10 + 9, 0)) : kd (c + 1) (10 + 5, 0) := (by decide : ∀ c, c < 92 → kdL[c]? = some (10 + 9, 0) → kdL[c + 1]? = some (10 + 5, 0)) c (kd_lt h) h
theorem kf_9_7 {c : Nat} (h : kd c (10 + 9, 0)) : kd (c + 7) (10 + 5, 0) := (by decide : ∀ c, c < 92 → kdL[c]? = some (10 + 9, 0) → kdL[c + 7]? = some (10 + 5, 0)) c (kd_lt h) h
theorem kf_9_13 {c : Nat} (h : kd c (10 + 9, 0)) : kd (c + 13) (3, 2) := (by decide : ∀ c, c < 92 → kdL[c]? = some (10 + 9, 0) → kdL[c + 13]? = some (3, 2)) c (kd_lt h) h
theorem kf_9_26 {c : Nat} (h : kd c (10 + 9, 0)) : kd (c + 26) (1, 2) := (by decide : ∀ c, c < 92 → kdL[c]? = some (10 + 9, 0) → kdL[c + 26]? = some (1, 2)) c (kd_lt h) h
theorem kf_9_27 {c : Nat} (h : kd c (10 + 9, 0)) : kd (c + 27) (10 + 6, 0) := (by decide : ∀ c, c < 92 → kdL[c]? = some (10 + 9, 0) → kdL[c + 27]? = some (10 + 6, 0)) c (kd_lt h) h
theorem kf_9_30 {c : Nat} (h : kd c (10 + 9, 0)) : kd (c + 30) (10 + 1, 0) := (by decide : ∀ c, c < 92 → kdL[c]? = some (10 + 9, 0) → kdL[c + 30]? = some (10 + 1, 0)) c (kd_lt h) h
theorem kf_9_31 {c : Nat} (h : kd c (10 + 9, 0)) : kd (c + 31) (10 + 0, 0) := (by decide : ∀ c, c < 92 → kdL[c]? = some (10 + 9, 0) → kdL[c + 31]? = some (10 + 0, 0)) c (kd_lt h) h
theorem kf_9_32 {c : Nat} (h : kd c (10 + 9, 0)) : kd (c + 32) (10 + 7, 0) := (by decide : ∀ c, c < 92 → kdL[c]? = some (10 + 9, 0) → kdL[c + 32]? = some (10 + 7, 0)) c (kd_lt h) h
theorem kf_9_41 {c : Nat} (h : kd c (10 + 9, 0)) : kd (c + 41) (10 + 4, 0) := (by decide : ∀ c, c < 92 → kdL[c]? = some (10 + 9, 0) → kdL[c + 41]? = some (10 + 4, 0)) c (kd_lt h) h
theorem kf_9_42 {c : Nat} (h : kd c (10 + 9, 0)) : kd (c + 42) (10 + 8, 0) := (by decide : ∀ c, c < 92 → kdL[c]? = some (10 + 9, 0) → kdL[c + 42]? = some (10 + 8, 0)) c (kd_lt h) h
theorem kf_9_55 {c : Nat} (h : kd c (10 + 9, 0)) : kd (c + 55) (10 + 2, 0) := (by decide : ∀ c, c < 92 → kdL[c]? = some (10 + 9, 0) → kdL[c + 55]? = some (10 + 2, 0)) c (kd_lt h) h
theorem kf_9_64 {c : Nat} (h : kd c (10 + 9, 0)) : kd (c + 64) (10 + 3, 0) := (by decide : ∀ c, c < 92 → kdL[c]? = some (10 + 9, 0) → kdL[c + 64]? = some (10 + 3, 0)) c (kd_lt h) h
theorem kf_10_1 {c : Nat} (h : kd c (10 + 10, 0)) : kd (c + 1) (0, 24) := (by decide : ∀ c, c < 92 → kdL[c]? = some (10 + 10, 0) → kdL[c + 1]? = some (0, 24)) c (kd_lt h) h
theorem kf_10_2 {c : Nat} (h : kd c (10 + 10, 0)) : kd (c + 2) (0, 30) := (by decide : ∀ c, c < 92 → kdL[c]? = some (10 + 10, 0) → kdL[c + 2]? = some (0, 30)) c (kd_lt h) h
theorem kf_10_3 {c : Nat} (h : kd c (10 + 10, 0)) : kd (c + 3) (0, 4) := (by decide : ∀ c, c < 92 → kdL[c]? = some (10 + 10, 0) → kdL[c + 3]? = some (0, 4)) c (kd_lt h) h
theorem kf_10_4 {c : Nat} (h : kd c (10 + 10, 0)) : kd (c + 4) (0, 2) := (by decide : ∀ c, c < 92 → kdL[c]? = some (10 + 10, 0) → kdL[c + 4]? = some (0, 2)) c (kd_lt h) h
theorem kf_10_5 {c : Nat} (h : kd c (10 + 10, 0)) : kd (c + 5) (0, 128) := (by decide : ∀ c, c < 92 → kdL[c]? = some (10 + 10, 0) → kdL[c + 5]? = some (0, 128)) c (kd_lt h) h
theorem kf_10_6 {c : Nat} (h : kd c (10 + 10, 0)) : kd (c + 6) (2, 20) := (by decide : ∀ c, c < 92 → kdL[c]? = some (10 + 10, 0) → kdL[c + 6]? = some (2, 20)) c (kd_lt h) h
theorem kf_10_7 {c : Nat} (h : kd c (10 + 10, 0)) : kd (c + 7) (2, 20) := (by decide : ∀ c, c < 92 → kdL[c]? = some (10 + 10, 0) → kdL[c + 7]? = some (2, 20)) c (kd_lt h) h
theorem kf_10_8 {c : Nat} (h : kd c (10 + 10, 0)) : kd (c + 8) (2, 20) := (by decide : ∀ c, c < 92 → kdL[c]? = some (10 + 10, 0) → kdL[c + 8]? = some (2, 20)) c (kd_lt h) h
theorem kf_10_9 {c : Nat} (h : kd c (10 + 10, 0)) : kd (c + 9) (2, 20) := (by decide : ∀ c, c < 92 → kdL[c]? = some (10 + 10, 0) → kdL[c + 9]? = some (2, 20)) c (kd_lt h) h
theorem kf_10_10 {c : Nat} (h : kd c (10 + 10, 0)) : kd (c + 10) (0, 20) := (by decide : ∀ c, c < 92 → kdL[c]? = some (10 + 10, 0) → kdL[c + 10]? = some (0, 20)) c (kd_lt h) h
theorem kf_10_11 {c : Nat} (h : kd c (10 + 10, 0)) : kd (c + 11) (2, 120) := (by decide : ∀ c, c < 92 → kdL[c]? = some (10 + 10, 0) → kdL[c + 11]? = some (2, 120)) c (kd_lt h) h
theorem kf_10_12 {c : Nat} (h : kd c (10 + 10, 0)) : kd (c + 12) (2, 120) := (by decide : ∀ c, c < 92 → kdL[c]? = some (10 + 10, 0) → kdL[c + 12]? = some (2, 120)) c (kd_lt h) h
theorem kf_10_13 {c : Nat} (h : kd c (10 + 10, 0)) : kd (c + 13) (2, 120) := (by decide : ∀ c, c < 92 → kdL[c]? = some (10 + 10, 0) → kdL[c + 13]? = some (2, 120)) c (kd_lt h) h
theorem kf_10_14 {c : Nat} (h : kd c (10 + 10, 0)) : kd (c + 14) (0, 120) := (by decide : ∀ c, c < 92 → kdL[c]? = some (10 + 10, 0) → kdL[c + 14]? = some (0, 120)) c (kd_lt h) h
theorem kf_10_15 {c : Nat} (h : kd c (10 + 10, 0)) : kd (c + 15) (0, 10) := (by decide : ∀ c, c < 92 → kdL[c]? = some (10 + 10, 0) → kdL[c + 15]? = some (0, 10)) c (kd_lt h) h
theorem kf_10_16 {c : Nat} (h : kd c (10 + 10, 0)) : kd (c + 16) (2, 30) := (by decide : ∀ c, c < 92 → kdL[c]? = some (10 + 10, 0) → kdL[c + 16]? = some (2, 30)) c (kd_lt h) h
theorem kf_10_17 {c : Nat} (h : kd c (10 + 10, 0)) : kd (c + 17) (2, 10) := (by decide : ∀ c, c < 92 → kdL[c]? = some (10 + 10, 0) → kdL[c + 17]? = some (2, 10)) c (kd_lt h) h
theorem kf_10_18 {c : Nat} (h : kd c (10 + 10, 0)) : kd (c + 18) (0, 10) := (by decide : ∀ c, c < 92 → kdL[c]? = some (10 + 10, 0) → kdL[c + 18]? = some (0, 10)) c (kd_lt h) h
theorem kf_10_19 {c : Nat} (h : kd c (10 + 10, 0)) : kd (c + 19) (2, 3) := (by decide : ∀ c, c < 92 → kdL[c]? = some (10 + 10, 0) → kdL[c + 19]? = some (2, 3)) c (kd_lt h) h
theorem kf_10_20 {c : Nat} (h : kd c (10 + 10, 0)) : kd (c + 20) (2, 3) := (by decide : ∀ c, c < 92 → kdL[c]? = some (10 + 10, 0) → kdL[c + 20]? = some (2, 3)) c (kd_lt h) h
theorem kf_10_21 {c : Nat} (h : kd c (10 + 10, 0)) : kd (c + 21) (2, 480) := (by decide : ∀ c, c < 92 → kdL[c]? = some (10 + 10, 0) → kdL[c + 21]? = some (2, 480)) c (kd_lt h) h
theorem kf_10_22 {c : Nat} (h : kd c (10 + 10, 0)) : kd (c + 22) (2, 4) := (by decide : ∀ c, c < 92 → kdL[c]? = some (10 + 10, 0) → kdL[c + 22]? = some (2, 4)) c (kd_lt h) h
theorem kf_10_23 {c : Nat} (h : kd c (10 + 10, 0)) : kd (c + 23) (0, 90) := (by decide : ∀ c, c < 92 → kdL[c]? = some (10 + 10, 0) → kdL[c + 23]? = some (0, 90)) c (kd_lt h) h
theorem kf_10_24 {c : Nat} (h : kd c (10 + 10, 0)) : kd (c + 24) (0, 24) := (by decide : ∀ c, c < 92 → kdL[c]? = some (10 + 10, 0) → kdL[c + 24]? = some (0, 24)) c (kd_lt h) h
theorem kf_10_25 {c : Nat} (h : kd c (10 + 10, 0)) : kd (c + 25) (0, 30) := (by decide : ∀ c, c < 92 → kdL[c]? = some (10 + 10, 0) → kdL[c + 25]? = some (0, 30)) c (kd_lt h) h
theorem kf_im {c v : Nat} (h : kd c (3, 2)) (e : v = c + 1 ∨ v = c + 7) : kd v (10 + 5, 0) := by
  have h2 := (by decide : ∀ c, c < 92 → kdL[c]? = some (3, 2) → kdL[c + 1]? = some (10 + 5, 0) ∧ kdL[c + 7]? = some (10 + 5, 0)) c (kd_lt h) h
  rcases e with rfl | rfl
  · exact h2.1
  · exact h2.2
