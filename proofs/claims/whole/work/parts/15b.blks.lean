/-! BLOCKS BY THEIR PLACES -/
theorem bkJ6_bitCount_0f7a4_0 : blk BJ6_bitCount_0f7a4 0 = some bJ6_bitCount_0f7a4_0 := rfl
theorem bkJ6_numberOfTrailingZeros_0f7a4_0 : blk BJ6_numberOfTrailingZeros_0f7a4 0 = some bJ6_numberOfTrailingZeros_0f7a4_0 := rfl
theorem bkJ6_numberOfTrailingZeros_0f7a4_17 : blk BJ6_numberOfTrailingZeros_0f7a4 17 = some bJ6_numberOfTrailingZeros_0f7a4_17 := rfl
theorem bkJ6_numberOfTrailingZeros_0f7a4_34 : blk BJ6_numberOfTrailingZeros_0f7a4 34 = some bJ6_numberOfTrailingZeros_0f7a4_34 := rfl
theorem bkJ6_numberOfTrailingZeros_0f7a4_49 : blk BJ6_numberOfTrailingZeros_0f7a4 49 = some bJ6_numberOfTrailingZeros_0f7a4_49 := rfl
theorem bkJ6_numberOfTrailingZeros_0f7a4_62 : blk BJ6_numberOfTrailingZeros_0f7a4 62 = some bJ6_numberOfTrailingZeros_0f7a4_62 := rfl
theorem bkJ6_numberOfTrailingZeros_0f7a4_74 : blk BJ6_numberOfTrailingZeros_0f7a4 74 = some bJ6_numberOfTrailingZeros_0f7a4_74 := rfl
theorem bkJ7_fill_53178_0 : blk BJ7_fill_53178 0 = some bJ7_fill_53178_0 := rfl
theorem hnJ7_fill_53178_0 : (0 ∈ [5]) = False := eq_false (by decide)
theorem bkJ7_fill_53178_5 : blk BJ7_fill_53178 5 = some bJ7_fill_53178_5 := rfl
theorem hnJ7_fill_53178_5 : (5 ∈ [5]) = True := eq_true (by decide)
theorem bkJ7_fill_53178_20 : blk BJ7_fill_53178 20 = some bJ7_fill_53178_20 := rfl
theorem hnJ7_fill_53178_20 : (20 ∈ [5]) = False := eq_false (by decide)
theorem bkX9_clear_0 : blk BX9_clear 0 = some bX9_clear_0 := rfl
theorem bkX9_copyFrom_0 : blk BX9_copyFrom 0 = some bX9_copyFrom_0 := rfl
theorem bkX9_isPerson_0 : blk BX9_isPerson 0 = some bX9_isPerson_0 := rfl
theorem bkX9_isPerson_22 : blk BX9_isPerson 22 = some bX9_isPerson_22 := rfl
theorem bkX9_isPerson_23 : blk BX9_isPerson 23 = some bX9_isPerson_23 := rfl
theorem bkX9_isCoin_0 : blk BX9_isCoin 0 = some bX9_isCoin_0 := rfl
theorem bkX9_isCoin_22 : blk BX9_isCoin 22 = some bX9_isCoin_22 := rfl
theorem bkX9_isCoin_23 : blk BX9_isCoin 23 = some bX9_isCoin_23 := rfl
theorem bkX9_isBeggar_0 : blk BX9_isBeggar 0 = some bX9_isBeggar_0 := rfl
theorem bkX9_isBeggar_15 : blk BX9_isBeggar 15 = some bX9_isBeggar_15 := rfl
theorem bkX9_isBeggar_16 : blk BX9_isBeggar 16 = some bX9_isBeggar_16 := rfl
theorem bkX9_isFalse_0 : blk BX9_isFalse 0 = some bX9_isFalse_0 := rfl
theorem bkX9_isFalse_15 : blk BX9_isFalse 15 = some bX9_isFalse_15 := rfl
theorem bkX9_isFalse_16 : blk BX9_isFalse 16 = some bX9_isFalse_16 := rfl
theorem bkX9_isCrumbled_0 : blk BX9_isCrumbled 0 = some bX9_isCrumbled_0 := rfl
theorem bkX9_isCrumbled_15 : blk BX9_isCrumbled 15 = some bX9_isCrumbled_15 := rfl
theorem bkX9_isCrumbled_16 : blk BX9_isCrumbled 16 = some bX9_isCrumbled_16 := rfl
theorem bkX9_payeeOf_0 : blk BX9_payeeOf 0 = some bX9_payeeOf_0 := rfl
theorem bkX9_payeeOf_17 : blk BX9_payeeOf 17 = some bX9_payeeOf_17 := rfl
theorem bkX9_payeeOf_18 : blk BX9_payeeOf 18 = some bX9_payeeOf_18 := rfl
theorem bkX9_heldBy_0 : blk BX9_heldBy 0 = some bX9_heldBy_0 := rfl
theorem hnX9_heldBy_0 : (0 ∈ [4]) = False := eq_false (by decide)
theorem bkX9_heldBy_4 : blk BX9_heldBy 4 = some bX9_heldBy_4 := rfl
theorem hnX9_heldBy_4 : (4 ∈ [4]) = True := eq_true (by decide)
theorem bkX9_heldBy_26 : blk BX9_heldBy 26 = some bX9_heldBy_26 := rfl
theorem hnX9_heldBy_26 : (26 ∈ [4]) = False := eq_false (by decide)
theorem bkX9_heldBy_32 : blk BX9_heldBy 32 = some bX9_heldBy_32 := rfl
theorem hnX9_heldBy_32 : (32 ∈ [4]) = False := eq_false (by decide)
theorem bkX9_gifts_0 : blk BX9_gifts 0 = some bX9_gifts_0 := rfl
theorem hnX9_gifts_0 : (0 ∈ [4]) = False := eq_false (by decide)
theorem bkX9_gifts_4 : blk BX9_gifts 4 = some bX9_gifts_4 := rfl
theorem hnX9_gifts_4 : (4 ∈ [4]) = True := eq_true (by decide)
theorem bkX9_gifts_38 : blk BX9_gifts 38 = some bX9_gifts_38 := rfl
theorem hnX9_gifts_38 : (38 ∈ [4]) = False := eq_false (by decide)
theorem bkX9_gifts_44 : blk BX9_gifts 44 = some bX9_gifts_44 := rfl
theorem hnX9_gifts_44 : (44 ∈ [4]) = False := eq_false (by decide)
theorem bkX9_tally_0 : blk BX9_tally 0 = some bX9_tally_0 := rfl
theorem hnX9_tally_0 : (0 ∈ [10]) = False := eq_false (by decide)
theorem bkX9_tally_10 : blk BX9_tally 10 = some bX9_tally_10 := rfl
theorem hnX9_tally_10 : (10 ∈ [10]) = True := eq_true (by decide)
theorem bkX9_tally_57 : blk BX9_tally 57 = some bX9_tally_57 := rfl
theorem hnX9_tally_57 : (57 ∈ [10]) = False := eq_false (by decide)
theorem bkX9_tally_63 : blk BX9_tally 63 = some bX9_tally_63 := rfl
theorem hnX9_tally_63 : (63 ∈ [10]) = False := eq_false (by decide)
theorem bkX9_wealthOf_0 : blk BX9_wealthOf 0 = some bX9_wealthOf_0 := rfl
theorem bkX9_wealthOf_21 : blk BX9_wealthOf 21 = some bX9_wealthOf_21 := rfl
theorem bkX9_wealthOf_22 : blk BX9_wealthOf 22 = some bX9_wealthOf_22 := rfl
theorem bkX9_allWealth_0 : blk BX9_allWealth 0 = some bX9_allWealth_0 := rfl
theorem hnX9_allWealth_0 : (0 ∈ [4]) = False := eq_false (by decide)
theorem bkX9_allWealth_4 : blk BX9_allWealth 4 = some bX9_allWealth_4 := rfl
theorem hnX9_allWealth_4 : (4 ∈ [4]) = True := eq_true (by decide)
theorem bkX9_allWealth_32 : blk BX9_allWealth 32 = some bX9_allWealth_32 := rfl
theorem hnX9_allWealth_32 : (32 ∈ [4]) = False := eq_false (by decide)
theorem bkX9_allWealth_38 : blk BX9_allWealth 38 = some bX9_allWealth_38 := rfl
theorem hnX9_allWealth_38 : (38 ∈ [4]) = False := eq_false (by decide)
theorem bkX9_poorest_0 : blk BX9_poorest 0 = some bX9_poorest_0 := rfl
theorem hnX9_poorest_0 : (0 ∈ [10]) = False := eq_false (by decide)
theorem bkX9_poorest_10 : blk BX9_poorest 10 = some bX9_poorest_10 := rfl
theorem hnX9_poorest_10 : (10 ∈ [10]) = True := eq_true (by decide)
theorem bkX9_poorest_43 : blk BX9_poorest 43 = some bX9_poorest_43 := rfl
theorem hnX9_poorest_43 : (43 ∈ [10]) = False := eq_false (by decide)
theorem bkX9_poorest_49 : blk BX9_poorest 49 = some bX9_poorest_49 := rfl
theorem hnX9_poorest_49 : (49 ∈ [10]) = False := eq_false (by decide)
theorem bkX9_poorest_62 : blk BX9_poorest 62 = some bX9_poorest_62 := rfl
theorem hnX9_poorest_62 : (62 ∈ [10]) = False := eq_false (by decide)
theorem bkX9_poorest_67 : blk BX9_poorest 67 = some bX9_poorest_67 := rfl
theorem hnX9_poorest_67 : (67 ∈ [10]) = False := eq_false (by decide)
theorem bkX9_poorest_73 : blk BX9_poorest 73 = some bX9_poorest_73 := rfl
theorem hnX9_poorest_73 : (73 ∈ [10]) = False := eq_false (by decide)
theorem bkX9_richest_0 : blk BX9_richest 0 = some bX9_richest_0 := rfl
theorem hnX9_richest_0 : (0 ∈ [10]) = False := eq_false (by decide)
theorem bkX9_richest_10 : blk BX9_richest 10 = some bX9_richest_10 := rfl
theorem hnX9_richest_10 : (10 ∈ [10]) = True := eq_true (by decide)
theorem bkX9_richest_39 : blk BX9_richest 39 = some bX9_richest_39 := rfl
theorem hnX9_richest_39 : (39 ∈ [10]) = False := eq_false (by decide)
theorem bkX9_richest_48 : blk BX9_richest 48 = some bX9_richest_48 := rfl
theorem hnX9_richest_48 : (48 ∈ [10]) = False := eq_false (by decide)
theorem bkX9_richest_54 : blk BX9_richest 54 = some bX9_richest_54 := rfl
theorem hnX9_richest_54 : (54 ∈ [10]) = False := eq_false (by decide)
theorem bkX9_dearest_0 : blk BX9_dearest 0 = some bX9_dearest_0 := rfl
theorem hnX9_dearest_0 : (0 ∈ [7]) = False := eq_false (by decide)
theorem bkX9_dearest_7 : blk BX9_dearest 7 = some bX9_dearest_7 := rfl
theorem hnX9_dearest_7 : (7 ∈ [7]) = True := eq_true (by decide)
theorem bkX9_dearest_45 : blk BX9_dearest 45 = some bX9_dearest_45 := rfl
theorem hnX9_dearest_45 : (45 ∈ [7]) = False := eq_false (by decide)
theorem bkX9_dearest_51 : blk BX9_dearest 51 = some bX9_dearest_51 := rfl
theorem hnX9_dearest_51 : (51 ∈ [7]) = False := eq_false (by decide)
theorem bkX9_handTo_0 : blk BX9_handTo 0 = some bX9_handTo_0 := rfl
theorem bkX9_handTo_31 : blk BX9_handTo 31 = some bX9_handTo_31 := rfl
theorem bkX9_nameAnew_0 : blk BX9_nameAnew 0 = some bX9_nameAnew_0 := rfl
theorem bkX9_nameAnew_29 : blk BX9_nameAnew 29 = some bX9_nameAnew_29 := rfl
theorem bkX9_addCoin_0 : blk BX9_addCoin 0 = some bX9_addCoin_0 := rfl
theorem bkX9_addCoin_39 : blk BX9_addCoin 39 = some bX9_addCoin_39 := rfl
theorem bkX9_goYears_0 : blk BX9_goYears 0 = some bX9_goYears_0 := rfl
theorem hnX9_goYears_0 : (0 ∈ [2]) = False := eq_false (by decide)
theorem bkX9_goYears_2 : blk BX9_goYears 2 = some bX9_goYears_2 := rfl
theorem hnX9_goYears_2 : (2 ∈ [2]) = True := eq_true (by decide)
theorem bkX9_goYears_18 : blk BX9_goYears 18 = some bX9_goYears_18 := rfl
theorem hnX9_goYears_18 : (18 ∈ [2]) = False := eq_false (by decide)
theorem bkX9_goYear_0 : blk BX9_goYear 0 = some bX9_goYear_0 := rfl
theorem hnX9_goYear_0 : (0 ∈ [18, 46]) = False := eq_false (by decide)
theorem bkX9_goYear_12 : blk BX9_goYear 12 = some bX9_goYear_12 := rfl
theorem hnX9_goYear_12 : (12 ∈ [18, 46]) = False := eq_false (by decide)
theorem bkX9_goYear_18 : blk BX9_goYear 18 = some bX9_goYear_18 := rfl
theorem hnX9_goYear_18 : (18 ∈ [18, 46]) = True := eq_true (by decide)
theorem bkX9_goYear_44 : blk BX9_goYear 44 = some bX9_goYear_44 := rfl
theorem hnX9_goYear_44 : (44 ∈ [18, 46]) = False := eq_false (by decide)
theorem bkX9_goYear_46 : blk BX9_goYear 46 = some bX9_goYear_46 := rfl
theorem hnX9_goYear_46 : (46 ∈ [18, 46]) = True := eq_true (by decide)
theorem bkX9_goYear_80 : blk BX9_goYear 80 = some bX9_goYear_80 := rfl
theorem hnX9_goYear_80 : (80 ∈ [18, 46]) = False := eq_false (by decide)
theorem bkX9_goYear_86 : blk BX9_goYear 86 = some bX9_goYear_86 := rfl
theorem hnX9_goYear_86 : (86 ∈ [18, 46]) = False := eq_false (by decide)
theorem bkX9_isMintingDue_0 : blk BX9_isMintingDue 0 = some bX9_isMintingDue_0 := rfl
theorem bkX9_isMintingDue_45 : blk BX9_isMintingDue 45 = some bX9_isMintingDue_45 := rfl
theorem bkX9_isMintingDue_46 : blk BX9_isMintingDue 46 = some bX9_isMintingDue_46 := rfl
theorem bkX9_nameCoin_0 : blk BX9_nameCoin 0 = some bX9_nameCoin_0 := rfl
theorem bkX9_nameCoin_14 : blk BX9_nameCoin 14 = some bX9_nameCoin_14 := rfl
theorem bkX9_nameCoin_51 : blk BX9_nameCoin 51 = some bX9_nameCoin_51 := rfl
theorem bkX9_passOn_0 : blk BX9_passOn 0 = some bX9_passOn_0 := rfl
theorem bkX9_passOn_37 : blk BX9_passOn 37 = some bX9_passOn_37 := rfl
theorem bkX9_passOn_38 : blk BX9_passOn 38 = some bX9_passOn_38 := rfl
theorem bkX9_passOn_69 : blk BX9_passOn 69 = some bX9_passOn_69 := rfl
theorem bkX9_passOn_118 : blk BX9_passOn 118 = some bX9_passOn_118 := rfl
theorem bkX9_wearDown_0 : blk BX9_wearDown 0 = some bX9_wearDown_0 := rfl
theorem bkX9_wearDown_60 : blk BX9_wearDown 60 = some bX9_wearDown_60 := rfl
theorem bkX6_clear_0 : blk BX6_clear 0 = some bX6_clear_0 := rfl
theorem bkX6_copyFrom_0 : blk BX6_copyFrom 0 = some bX6_copyFrom_0 := rfl
theorem bkX6_add_0 : blk BX6_add 0 = some bX6_add_0 := rfl
theorem bkX6_add_32 : blk BX6_add 32 = some bX6_add_32 := rfl
theorem bkX6_begin_0 : blk BX6_begin 0 = some bX6_begin_0 := rfl
theorem bkX6_begin_15 : blk BX6_begin 15 = some bX6_begin_15 := rfl
theorem bkX6_begin_23 : blk BX6_begin 23 = some bX6_begin_23 := rfl
theorem bkX6_end_0 : blk BX6_end 0 = some bX6_end_0 := rfl
theorem bkX6_end_15 : blk BX6_end 15 = some bX6_end_15 := rfl
theorem bkX6_end_23 : blk BX6_end 23 = some bX6_end_23 := rfl
theorem bkX6_isTold_0 : blk BX6_isTold 0 = some bX6_isTold_0 := rfl
theorem bkX6_isTold_19 : blk BX6_isTold 19 = some bX6_isTold_19 := rfl
theorem bkX6_isTold_23 : blk BX6_isTold 23 = some bX6_isTold_23 := rfl
theorem bkX6_isTold_38 : blk BX6_isTold 38 = some bX6_isTold_38 := rfl
theorem bkX6_isTold_39 : blk BX6_isTold 39 = some bX6_isTold_39 := rfl
theorem bkX6_nameBy_0 : blk BX6_nameBy 0 = some bX6_nameBy_0 := rfl
theorem bkX6_nameBy_10 : blk BX6_nameBy 10 = some bX6_nameBy_10 := rfl
theorem bkX6_nameBy_30 : blk BX6_nameBy 30 = some bX6_nameBy_30 := rfl
theorem bkX6_isSpent_0 : blk BX6_isSpent 0 = some bX6_isSpent_0 := rfl
theorem bkX6_isSpent_21 : blk BX6_isSpent 21 = some bX6_isSpent_21 := rfl
theorem bkX6_isSpent_23 : blk BX6_isSpent 23 = some bX6_isSpent_23 := rfl
theorem bkX6_isSpent_47 : blk BX6_isSpent 47 = some bX6_isSpent_47 := rfl
theorem bkX6_isSpent_48 : blk BX6_isSpent 48 = some bX6_isSpent_48 := rfl
theorem bkX6_isSpent_49 : blk BX6_isSpent 49 = some bX6_isSpent_49 := rfl
theorem bkX6_isSpent_101 : blk BX6_isSpent 101 = some bX6_isSpent_101 := rfl
theorem bkX6_isSpent_102 : blk BX6_isSpent 102 = some bX6_isSpent_102 := rfl
theorem bkX6_setValues_0 : blk BX6_setValues 0 = some bX6_setValues_0 := rfl
theorem bkX6_evaluate_0 : blk BX6_evaluate 0 = some bX6_evaluate_0 := rfl
theorem hnX6_evaluate_0 : (0 ∈ [5]) = False := eq_false (by decide)
theorem bkX6_evaluate_5 : blk BX6_evaluate 5 = some bX6_evaluate_5 := rfl
theorem hnX6_evaluate_5 : (5 ∈ [5]) = True := eq_true (by decide)
theorem bkX6_evaluate_46 : blk BX6_evaluate 46 = some bX6_evaluate_46 := rfl
theorem hnX6_evaluate_46 : (46 ∈ [5]) = False := eq_false (by decide)
theorem bkX6_evaluate_47 : blk BX6_evaluate 47 = some bX6_evaluate_47 := rfl
theorem hnX6_evaluate_47 : (47 ∈ [5]) = False := eq_false (by decide)
theorem bkX6_evaluate_61 : blk BX6_evaluate 61 = some bX6_evaluate_61 := rfl
theorem hnX6_evaluate_61 : (61 ∈ [5]) = False := eq_false (by decide)
theorem bkX6_evaluate_65 : blk BX6_evaluate 65 = some bX6_evaluate_65 := rfl
theorem hnX6_evaluate_65 : (65 ∈ [5]) = False := eq_false (by decide)
theorem bkX6_evaluate_66 : blk BX6_evaluate 66 = some bX6_evaluate_66 := rfl
theorem hnX6_evaluate_66 : (66 ∈ [5]) = False := eq_false (by decide)
theorem bkX6_evaluate_102 : blk BX6_evaluate 102 = some bX6_evaluate_102 := rfl
theorem hnX6_evaluate_102 : (102 ∈ [5]) = False := eq_false (by decide)
theorem bkX6_evaluate_107 : blk BX6_evaluate 107 = some bX6_evaluate_107 := rfl
theorem hnX6_evaluate_107 : (107 ∈ [5]) = False := eq_false (by decide)
theorem bkX6_evaluate_114 : blk BX6_evaluate 114 = some bX6_evaluate_114 := rfl
theorem hnX6_evaluate_114 : (114 ∈ [5]) = False := eq_false (by decide)
theorem bkX6_evaluate_148 : blk BX6_evaluate 148 = some bX6_evaluate_148 := rfl
theorem hnX6_evaluate_148 : (148 ∈ [5]) = False := eq_false (by decide)
theorem bkX6_evaluate_149 : blk BX6_evaluate 149 = some bX6_evaluate_149 := rfl
theorem hnX6_evaluate_149 : (149 ∈ [5]) = False := eq_false (by decide)
theorem bkX6_evaluate_153 : blk BX6_evaluate 153 = some bX6_evaluate_153 := rfl
theorem hnX6_evaluate_153 : (153 ∈ [5]) = False := eq_false (by decide)
theorem bkX6_evaluate_193 : blk BX6_evaluate 193 = some bX6_evaluate_193 := rfl
theorem hnX6_evaluate_193 : (193 ∈ [5]) = False := eq_false (by decide)
theorem bkX6_evaluate_199 : blk BX6_evaluate 199 = some bX6_evaluate_199 := rfl
theorem hnX6_evaluate_199 : (199 ∈ [5]) = False := eq_false (by decide)
theorem bkX6_evaluate_213 : blk BX6_evaluate 213 = some bX6_evaluate_213 := rfl
theorem hnX6_evaluate_213 : (213 ∈ [5]) = False := eq_false (by decide)
theorem bkX6_evaluate_214 : blk BX6_evaluate 214 = some bX6_evaluate_214 := rfl
theorem hnX6_evaluate_214 : (214 ∈ [5]) = False := eq_false (by decide)
theorem bkX6_join_0 : blk BX6_join 0 = some bX6_join_0 := rfl
theorem bkX6_join_44 : blk BX6_join 44 = some bX6_join_44 := rfl
theorem bkX6_join_48 : blk BX6_join 48 = some bX6_join_48 := rfl
theorem bkX6_join_52 : blk BX6_join 52 = some bX6_join_52 := rfl
theorem bkX6_join_56 : blk BX6_join 56 = some bX6_join_56 := rfl
theorem bkX6_join_64 : blk BX6_join 64 = some bX6_join_64 := rfl
theorem bkX6_join_67 : blk BX6_join 67 = some bX6_join_67 := rfl
theorem bkX6_join_68 : blk BX6_join 68 = some bX6_join_68 := rfl
theorem bkX6_join_77 : blk BX6_join 77 = some bX6_join_77 := rfl
theorem bkX6_join_78 : blk BX6_join 78 = some bX6_join_78 := rfl
theorem bkX6_join_79 : blk BX6_join 79 = some bX6_join_79 := rfl
theorem bkX6_join_88 : blk BX6_join 88 = some bX6_join_88 := rfl
theorem bkX6_join_89 : blk BX6_join 89 = some bX6_join_89 := rfl
theorem bkX6_join_90 : blk BX6_join 90 = some bX6_join_90 := rfl
theorem bkX6_join_102 : blk BX6_join 102 = some bX6_join_102 := rfl
theorem bkX6_join_103 : blk BX6_join 103 = some bX6_join_103 := rfl
theorem bkX6_join_104 : blk BX6_join 104 = some bX6_join_104 := rfl
theorem bkX6_join_112 : blk BX6_join 112 = some bX6_join_112 := rfl
theorem bkX6_join_116 : blk BX6_join 116 = some bX6_join_116 := rfl
theorem bkX6_join_117 : blk BX6_join 117 = some bX6_join_117 := rfl
theorem bkX8_open_0 : blk BX8_open 0 = some bX8_open_0 := rfl
theorem bkX8_advance_0 : blk BX8_advance 0 = some bX8_advance_0 := rfl
theorem hnX8_advance_0 : (0 ∈ [10]) = False := eq_false (by decide)
theorem bkX8_advance_10 : blk BX8_advance 10 = some bX8_advance_10 := rfl
theorem hnX8_advance_10 : (10 ∈ [10]) = True := eq_true (by decide)
theorem bkX8_advance_47 : blk BX8_advance 47 = some bX8_advance_47 := rfl
theorem hnX8_advance_47 : (47 ∈ [10]) = False := eq_false (by decide)
theorem bkX8_advance_77 : blk BX8_advance 77 = some bX8_advance_77 := rfl
theorem hnX8_advance_77 : (77 ∈ [10]) = False := eq_false (by decide)
theorem bkX8_advance_101 : blk BX8_advance 101 = some bX8_advance_101 := rfl
theorem hnX8_advance_101 : (101 ∈ [10]) = False := eq_false (by decide)
theorem bkX8_advance_142 : blk BX8_advance 142 = some bX8_advance_142 := rfl
theorem hnX8_advance_142 : (142 ∈ [10]) = False := eq_false (by decide)
theorem bkX8_advance_146 : blk BX8_advance 146 = some bX8_advance_146 := rfl
theorem hnX8_advance_146 : (146 ∈ [10]) = False := eq_false (by decide)
theorem bkX8_advance_152 : blk BX8_advance 152 = some bX8_advance_152 := rfl
theorem hnX8_advance_152 : (152 ∈ [10]) = False := eq_false (by decide)
theorem bkX8_advance_167 : blk BX8_advance 167 = some bX8_advance_167 := rfl
theorem hnX8_advance_167 : (167 ∈ [10]) = False := eq_false (by decide)
theorem bkX8_byteAt_0 : blk BX8_byteAt 0 = some bX8_byteAt_0 := rfl
theorem bkX8_byteAt_34 : blk BX8_byteAt 34 = some bX8_byteAt_34 := rfl
theorem bkX8_byteAt_35 : blk BX8_byteAt 35 = some bX8_byteAt_35 := rfl
theorem bkX8_isBlank_0 : blk BX8_isBlank 0 = some bX8_isBlank_0 := rfl
theorem bkX8_isBlank_12 : blk BX8_isBlank 12 = some bX8_isBlank_12 := rfl
theorem bkX8_isBlank_16 : blk BX8_isBlank 16 = some bX8_isBlank_16 := rfl
theorem bkX8_isBlank_17 : blk BX8_isBlank 17 = some bX8_isBlank_17 := rfl
theorem bkX8_isLetter_0 : blk BX8_isLetter 0 = some bX8_isLetter_0 := rfl
theorem bkX8_isLetter_16 : blk BX8_isLetter 16 = some bX8_isLetter_16 := rfl
theorem bkX8_isLetter_17 : blk BX8_isLetter 17 = some bX8_isLetter_17 := rfl
theorem bkX8_isDigit_0 : blk BX8_isDigit 0 = some bX8_isDigit_0 := rfl
theorem bkX8_isDigit_16 : blk BX8_isDigit 16 = some bX8_isDigit_16 := rfl
theorem bkX8_isDigit_17 : blk BX8_isDigit 17 = some bX8_isDigit_17 := rfl
theorem bkX8_endOfRow_0 : blk BX8_endOfRow 0 = some bX8_endOfRow_0 := rfl
theorem hnX8_endOfRow_0 : (0 ∈ [9]) = False := eq_false (by decide)
theorem bkX8_endOfRow_9 : blk BX8_endOfRow 9 = some bX8_endOfRow_9 := rfl
theorem hnX8_endOfRow_9 : (9 ∈ [9]) = True := eq_true (by decide)
theorem bkX8_endOfRow_34 : blk BX8_endOfRow 34 = some bX8_endOfRow_34 := rfl
theorem hnX8_endOfRow_34 : (34 ∈ [9]) = False := eq_false (by decide)
theorem bkX8_endOfRow_45 : blk BX8_endOfRow 45 = some bX8_endOfRow_45 := rfl
theorem hnX8_endOfRow_45 : (45 ∈ [9]) = False := eq_false (by decide)
theorem bkX8_endOfRow_54 : blk BX8_endOfRow 54 = some bX8_endOfRow_54 := rfl
theorem hnX8_endOfRow_54 : (54 ∈ [9]) = False := eq_false (by decide)
theorem bkX8_numberWithin_0 : blk BX8_numberWithin 0 = some bX8_numberWithin_0 := rfl
theorem hnX8_numberWithin_0 : (0 ∈ [7]) = False := eq_false (by decide)
theorem bkX8_numberWithin_7 : blk BX8_numberWithin 7 = some bX8_numberWithin_7 := rfl
theorem hnX8_numberWithin_7 : (7 ∈ [7]) = True := eq_true (by decide)
theorem bkX8_numberWithin_35 : blk BX8_numberWithin 35 = some bX8_numberWithin_35 := rfl
theorem hnX8_numberWithin_35 : (35 ∈ [7]) = False := eq_false (by decide)
theorem bkX8_isEnd_0 : blk BX8_isEnd 0 = some bX8_isEnd_0 := rfl
theorem bkX8_isEnd_11 : blk BX8_isEnd 11 = some bX8_isEnd_11 := rfl
theorem bkX8_isEnd_12 : blk BX8_isEnd 12 = some bX8_isEnd_12 := rfl
theorem bkX8_isNumber_0 : blk BX8_isNumber 0 = some bX8_isNumber_0 := rfl
theorem bkX8_isNumber_12 : blk BX8_isNumber 12 = some bX8_isNumber_12 := rfl
theorem bkX8_isNumber_13 : blk BX8_isNumber 13 = some bX8_isNumber_13 := rfl
theorem bkX8_isAnyWord_0 : blk BX8_isAnyWord 0 = some bX8_isAnyWord_0 := rfl
theorem bkX8_isAnyWord_12 : blk BX8_isAnyWord 12 = some bX8_isAnyWord_12 := rfl
theorem bkX8_isAnyWord_13 : blk BX8_isAnyWord 13 = some bX8_isAnyWord_13 := rfl
theorem bkX8_isSign_0 : blk BX8_isSign 0 = some bX8_isSign_0 := rfl
theorem bkX8_isSign_24 : blk BX8_isSign 24 = some bX8_isSign_24 := rfl
theorem bkX8_isSign_25 : blk BX8_isSign 25 = some bX8_isSign_25 := rfl
theorem bkX8_isWord_0 : blk BX8_isWord 0 = some bX8_isWord_0 := rfl
theorem hnX8_isWord_0 : (0 ∈ [28]) = False := eq_false (by decide)
theorem bkX8_isWord_24 : blk BX8_isWord 24 = some bX8_isWord_24 := rfl
theorem hnX8_isWord_24 : (24 ∈ [28]) = False := eq_false (by decide)
theorem bkX8_isWord_26 : blk BX8_isWord 26 = some bX8_isWord_26 := rfl
theorem hnX8_isWord_26 : (26 ∈ [28]) = False := eq_false (by decide)
theorem bkX8_isWord_28 : blk BX8_isWord 28 = some bX8_isWord_28 := rfl
theorem hnX8_isWord_28 : (28 ∈ [28]) = True := eq_true (by decide)
theorem bkX8_isWord_56 : blk BX8_isWord 56 = some bX8_isWord_56 := rfl
theorem hnX8_isWord_56 : (56 ∈ [28]) = False := eq_false (by decide)
theorem bkX8_isWord_62 : blk BX8_isWord 62 = some bX8_isWord_62 := rfl
theorem hnX8_isWord_62 : (62 ∈ [28]) = False := eq_false (by decide)
theorem bkX5_readText_0 : blk BX5_readText 0 = some bX5_readText_0 := rfl
theorem hnX5_readText_0 : (0 ∈ [41]) = False := eq_false (by decide)
theorem bkX5_readText_41 : blk BX5_readText 41 = some bX5_readText_41 := rfl
theorem hnX5_readText_41 : (41 ∈ [41]) = True := eq_true (by decide)
theorem bkX5_readText_80 : blk BX5_readText 80 = some bX5_readText_80 := rfl
theorem hnX5_readText_80 : (80 ∈ [41]) = False := eq_false (by decide)
theorem bkX5_readText_81 : blk BX5_readText 81 = some bX5_readText_81 := rfl
theorem hnX5_readText_81 : (81 ∈ [41]) = False := eq_false (by decide)
theorem bkX5_readText_88 : blk BX5_readText 88 = some bX5_readText_88 := rfl
theorem hnX5_readText_88 : (88 ∈ [41]) = False := eq_false (by decide)
theorem bkX5_fail_0 : blk BX5_fail 0 = some bX5_fail_0 := rfl
theorem bkX5_dropPayeesNeverTold_0 : blk BX5_dropPayeesNeverTold 0 = some bX5_dropPayeesNeverTold_0 := rfl
theorem hnX5_dropPayeesNeverTold_0 : (0 ∈ [2]) = False := eq_false (by decide)
theorem bkX5_dropPayeesNeverTold_2 : blk BX5_dropPayeesNeverTold 2 = some bX5_dropPayeesNeverTold_2 := rfl
theorem hnX5_dropPayeesNeverTold_2 : (2 ∈ [2]) = True := eq_true (by decide)
theorem bkX5_dropPayeesNeverTold_37 : blk BX5_dropPayeesNeverTold 37 = some bX5_dropPayeesNeverTold_37 := rfl
theorem hnX5_dropPayeesNeverTold_37 : (37 ∈ [2]) = False := eq_false (by decide)
theorem bkX5_dropPayeesNeverTold_43 : blk BX5_dropPayeesNeverTold 43 = some bX5_dropPayeesNeverTold_43 := rfl
theorem hnX5_dropPayeesNeverTold_43 : (43 ∈ [2]) = False := eq_false (by decide)
theorem bkX5_readLine_0 : blk BX5_readLine 0 = some bX5_readLine_0 := rfl
theorem bkX5_readLine_18 : blk BX5_readLine 18 = some bX5_readLine_18 := rfl
theorem bkX5_readLine_36 : blk BX5_readLine 36 = some bX5_readLine_36 := rfl
theorem bkX5_readLine_53 : blk BX5_readLine 53 = some bX5_readLine_53 := rfl
theorem bkX5_readLine_70 : blk BX5_readLine 70 = some bX5_readLine_70 := rfl
theorem bkX5_readLine_88 : blk BX5_readLine 88 = some bX5_readLine_88 := rfl
theorem bkX5_readLine_106 : blk BX5_readLine 106 = some bX5_readLine_106 := rfl
theorem bkX5_readSign_0 : blk BX5_readSign 0 = some bX5_readSign_0 := rfl
theorem bkX5_readSign_17 : blk BX5_readSign 17 = some bX5_readSign_17 := rfl
theorem bkX5_isNumberWithin_0 : blk BX5_isNumberWithin 0 = some bX5_isNumberWithin_0 := rfl
theorem bkX5_isNumberWithin_16 : blk BX5_isNumberWithin 16 = some bX5_isNumberWithin_16 := rfl
theorem bkX5_isNumberWithin_38 : blk BX5_isNumberWithin 38 = some bX5_isNumberWithin_38 := rfl
theorem bkX5_isNumberWithin_46 : blk BX5_isNumberWithin 46 = some bX5_isNumberWithin_46 := rfl
theorem bkX5_isNumberWithin_50 : blk BX5_isNumberWithin 50 = some bX5_isNumberWithin_50 := rfl
theorem bkX5_isNumberWithin_51 : blk BX5_isNumberWithin 51 = some bX5_isNumberWithin_51 := rfl
theorem bkX5_readPerson_0 : blk BX5_readPerson 0 = some bX5_readPerson_0 := rfl
theorem bkX5_readPerson_20 : blk BX5_readPerson 20 = some bX5_readPerson_20 := rfl
theorem bkX5_readPerson_39 : blk BX5_readPerson 39 = some bX5_readPerson_39 := rfl
theorem bkX5_readPerson_74 : blk BX5_readPerson 74 = some bX5_readPerson_74 := rfl
theorem bkX5_readPerson_115 : blk BX5_readPerson 115 = some bX5_readPerson_115 := rfl
theorem bkX5_readPerson_116 : blk BX5_readPerson 116 = some bX5_readPerson_116 := rfl
theorem bkX5_readPerson_153 : blk BX5_readPerson 153 = some bX5_readPerson_153 := rfl
theorem bkX5_readPerson_157 : blk BX5_readPerson 157 = some bX5_readPerson_157 := rfl
theorem bkX5_readPerson_158 : blk BX5_readPerson 158 = some bX5_readPerson_158 := rfl
theorem bkX5_readPayee_0 : blk BX5_readPayee 0 = some bX5_readPayee_0 := rfl
theorem bkX5_readPayee_19 : blk BX5_readPayee 19 = some bX5_readPayee_19 := rfl
theorem bkX5_readPayee_36 : blk BX5_readPayee 36 = some bX5_readPayee_36 := rfl
theorem bkX5_readCoin_0 : blk BX5_readCoin 0 = some bX5_readCoin_0 := rfl
theorem bkX5_readCoin_18 : blk BX5_readCoin 18 = some bX5_readCoin_18 := rfl
theorem bkX5_readCoin_37 : blk BX5_readCoin 37 = some bX5_readCoin_37 := rfl
theorem bkX5_readCoin_65 : blk BX5_readCoin 65 = some bX5_readCoin_65 := rfl
theorem bkX5_readCoin_88 : blk BX5_readCoin 88 = some bX5_readCoin_88 := rfl
theorem bkX5_readMinting_0 : blk BX5_readMinting 0 = some bX5_readMinting_0 := rfl
theorem bkX5_readMinting_13 : blk BX5_readMinting 13 = some bX5_readMinting_13 := rfl
theorem bkX5_readMinting_37 : blk BX5_readMinting 37 = some bX5_readMinting_37 := rfl
theorem bkX5_readRule_0 : blk BX5_readRule 0 = some bX5_readRule_0 := rfl
theorem bkX5_readRule_17 : blk BX5_readRule 17 = some bX5_readRule_17 := rfl
theorem bkX5_readRule_47 : blk BX5_readRule 47 = some bX5_readRule_47 := rfl
theorem bkX5_readExpression_0 : blk BX5_readExpression 0 = some bX5_readExpression_0 := rfl
theorem hnX5_readExpression_0 : (0 ∈ [70]) = False := eq_false (by decide)
theorem bkX5_readExpression_38 : blk BX5_readExpression 38 = some bX5_readExpression_38 := rfl
theorem hnX5_readExpression_38 : (38 ∈ [70]) = False := eq_false (by decide)
theorem bkX5_readExpression_42 : blk BX5_readExpression 42 = some bX5_readExpression_42 := rfl
theorem hnX5_readExpression_42 : (42 ∈ [70]) = False := eq_false (by decide)
theorem bkX5_readExpression_43 : blk BX5_readExpression 43 = some bX5_readExpression_43 := rfl
theorem hnX5_readExpression_43 : (43 ∈ [70]) = False := eq_false (by decide)
theorem bkX5_readExpression_53 : blk BX5_readExpression 53 = some bX5_readExpression_53 := rfl
theorem hnX5_readExpression_53 : (53 ∈ [70]) = False := eq_false (by decide)
theorem bkX5_readExpression_54 : blk BX5_readExpression 54 = some bX5_readExpression_54 := rfl
theorem hnX5_readExpression_54 : (54 ∈ [70]) = False := eq_false (by decide)
theorem bkX5_readExpression_58 : blk BX5_readExpression 58 = some bX5_readExpression_58 := rfl
theorem hnX5_readExpression_58 : (58 ∈ [70]) = False := eq_false (by decide)
theorem bkX5_readExpression_68 : blk BX5_readExpression 68 = some bX5_readExpression_68 := rfl
theorem hnX5_readExpression_68 : (68 ∈ [70]) = False := eq_false (by decide)
theorem bkX5_readExpression_70 : blk BX5_readExpression 70 = some bX5_readExpression_70 := rfl
theorem hnX5_readExpression_70 : (70 ∈ [70]) = True := eq_true (by decide)
theorem bkX5_readExpression_106 : blk BX5_readExpression 106 = some bX5_readExpression_106 := rfl
theorem hnX5_readExpression_106 : (106 ∈ [70]) = False := eq_false (by decide)
theorem bkX5_readExpression_121 : blk BX5_readExpression 121 = some bX5_readExpression_121 := rfl
theorem hnX5_readExpression_121 : (121 ∈ [70]) = False := eq_false (by decide)
theorem bkX5_readAnd_0 : blk BX5_readAnd 0 = some bX5_readAnd_0 := rfl
theorem hnX5_readAnd_0 : (0 ∈ [12]) = False := eq_false (by decide)
theorem bkX5_readAnd_10 : blk BX5_readAnd 10 = some bX5_readAnd_10 := rfl
theorem hnX5_readAnd_10 : (10 ∈ [12]) = False := eq_false (by decide)
theorem bkX5_readAnd_12 : blk BX5_readAnd 12 = some bX5_readAnd_12 := rfl
theorem hnX5_readAnd_12 : (12 ∈ [12]) = True := eq_true (by decide)
theorem bkX5_readAnd_48 : blk BX5_readAnd 48 = some bX5_readAnd_48 := rfl
theorem hnX5_readAnd_48 : (48 ∈ [12]) = False := eq_false (by decide)
theorem bkX5_readAnd_63 : blk BX5_readAnd 63 = some bX5_readAnd_63 := rfl
theorem hnX5_readAnd_63 : (63 ∈ [12]) = False := eq_false (by decide)
theorem bkX5_readNot_0 : blk BX5_readNot 0 = some bX5_readNot_0 := rfl
theorem hnX5_readNot_0 : (0 ∈ [4, 74]) = False := eq_false (by decide)
theorem bkX5_readNot_4 : blk BX5_readNot 4 = some bX5_readNot_4 := rfl
theorem hnX5_readNot_4 : (4 ∈ [4, 74]) = True := eq_true (by decide)
theorem bkX5_readNot_38 : blk BX5_readNot 38 = some bX5_readNot_38 := rfl
theorem hnX5_readNot_38 : (38 ∈ [4, 74]) = False := eq_false (by decide)
theorem bkX5_readNot_62 : blk BX5_readNot 62 = some bX5_readNot_62 := rfl
theorem hnX5_readNot_62 : (62 ∈ [4, 74]) = False := eq_false (by decide)
theorem bkX5_readNot_72 : blk BX5_readNot 72 = some bX5_readNot_72 := rfl
theorem hnX5_readNot_72 : (72 ∈ [4, 74]) = False := eq_false (by decide)
theorem bkX5_readNot_74 : blk BX5_readNot 74 = some bX5_readNot_74 := rfl
theorem hnX5_readNot_74 : (74 ∈ [4, 74]) = True := eq_true (by decide)
theorem bkX5_readNot_94 : blk BX5_readNot 94 = some bX5_readNot_94 := rfl
theorem hnX5_readNot_94 : (94 ∈ [4, 74]) = False := eq_false (by decide)
theorem bkX5_readTest_0 : blk BX5_readTest 0 = some bX5_readTest_0 := rfl
theorem bkX5_readTest_10 : blk BX5_readTest 10 = some bX5_readTest_10 := rfl
theorem bkX5_readTest_38 : blk BX5_readTest 38 = some bX5_readTest_38 := rfl
theorem bkX5_readTest_55 : blk BX5_readTest 55 = some bX5_readTest_55 := rfl
theorem bkX5_readTest_68 : blk BX5_readTest 68 = some bX5_readTest_68 := rfl
theorem bkX5_readTest_70 : blk BX5_readTest 70 = some bX5_readTest_70 := rfl
theorem bkX5_readSum_0 : blk BX5_readSum 0 = some bX5_readSum_0 := rfl
theorem hnX5_readSum_0 : (0 ∈ [12]) = False := eq_false (by decide)
theorem bkX5_readSum_10 : blk BX5_readSum 10 = some bX5_readSum_10 := rfl
theorem hnX5_readSum_10 : (10 ∈ [12]) = False := eq_false (by decide)
theorem bkX5_readSum_12 : blk BX5_readSum 12 = some bX5_readSum_12 := rfl
theorem hnX5_readSum_12 : (12 ∈ [12]) = True := eq_true (by decide)
theorem bkX5_readSum_43 : blk BX5_readSum 43 = some bX5_readSum_43 := rfl
theorem hnX5_readSum_43 : (43 ∈ [12]) = False := eq_false (by decide)
theorem bkX5_readSum_60 : blk BX5_readSum 60 = some bX5_readSum_60 := rfl
theorem hnX5_readSum_60 : (60 ∈ [12]) = False := eq_false (by decide)
theorem bkX5_readSum_62 : blk BX5_readSum 62 = some bX5_readSum_62 := rfl
theorem hnX5_readSum_62 : (62 ∈ [12]) = False := eq_false (by decide)
theorem bkX5_readSum_80 : blk BX5_readSum 80 = some bX5_readSum_80 := rfl
theorem hnX5_readSum_80 : (80 ∈ [12]) = False := eq_false (by decide)
theorem bkX5_readSum_94 : blk BX5_readSum 94 = some bX5_readSum_94 := rfl
theorem hnX5_readSum_94 : (94 ∈ [12]) = False := eq_false (by decide)
theorem bkX5_readProduct_0 : blk BX5_readProduct 0 = some bX5_readProduct_0 := rfl
theorem hnX5_readProduct_0 : (0 ∈ [12]) = False := eq_false (by decide)
theorem bkX5_readProduct_10 : blk BX5_readProduct 10 = some bX5_readProduct_10 := rfl
theorem hnX5_readProduct_10 : (10 ∈ [12]) = False := eq_false (by decide)
theorem bkX5_readProduct_12 : blk BX5_readProduct 12 = some bX5_readProduct_12 := rfl
theorem hnX5_readProduct_12 : (12 ∈ [12]) = True := eq_true (by decide)
theorem bkX5_readProduct_43 : blk BX5_readProduct 43 = some bX5_readProduct_43 := rfl
theorem hnX5_readProduct_43 : (43 ∈ [12]) = False := eq_false (by decide)
theorem bkX5_readProduct_60 : blk BX5_readProduct 60 = some bX5_readProduct_60 := rfl
theorem hnX5_readProduct_60 : (60 ∈ [12]) = False := eq_false (by decide)
theorem bkX5_readProduct_62 : blk BX5_readProduct 62 = some bX5_readProduct_62 := rfl
theorem hnX5_readProduct_62 : (62 ∈ [12]) = False := eq_false (by decide)
theorem bkX5_readProduct_80 : blk BX5_readProduct 80 = some bX5_readProduct_80 := rfl
theorem hnX5_readProduct_80 : (80 ∈ [12]) = False := eq_false (by decide)
theorem bkX5_readProduct_94 : blk BX5_readProduct 94 = some bX5_readProduct_94 := rfl
theorem hnX5_readProduct_94 : (94 ∈ [12]) = False := eq_false (by decide)
theorem bkX5_readPart_0 : blk BX5_readPart 0 = some bX5_readPart_0 := rfl
theorem bkX5_readPart_42 : blk BX5_readPart 42 = some bX5_readPart_42 := rfl
theorem bkX5_readPart_43 : blk BX5_readPart 43 = some bX5_readPart_43 := rfl
theorem bkX5_readPart_44 : blk BX5_readPart 44 = some bX5_readPart_44 := rfl
theorem bkX5_readPart_72 : blk BX5_readPart 72 = some bX5_readPart_72 := rfl
theorem bkX5_readPart_85 : blk BX5_readPart 85 = some bX5_readPart_85 := rfl
theorem bkX5_readPart_96 : blk BX5_readPart 96 = some bX5_readPart_96 := rfl
theorem bkX5_valueAtHand_0 : blk BX5_valueAtHand 0 = some bX5_valueAtHand_0 := rfl
theorem bkX5_valueAtHand_14 : blk BX5_valueAtHand 14 = some bX5_valueAtHand_14 := rfl
theorem bkX5_valueAtHand_28 : blk BX5_valueAtHand 28 = some bX5_valueAtHand_28 := rfl
theorem bkX5_valueAtHand_42 : blk BX5_valueAtHand 42 = some bX5_valueAtHand_42 := rfl
theorem bkX5_valueAtHand_56 : blk BX5_valueAtHand 56 = some bX5_valueAtHand_56 := rfl
theorem bkX5_valueAtHand_79 : blk BX5_valueAtHand 79 = some bX5_valueAtHand_79 := rfl
theorem bkX5_valueAtHand_80 : blk BX5_valueAtHand 80 = some bX5_valueAtHand_80 := rfl
theorem bkX5_valueAtHand_81 : blk BX5_valueAtHand 81 = some bX5_valueAtHand_81 := rfl
theorem bkX5_valueAtHand_95 : blk BX5_valueAtHand 95 = some bX5_valueAtHand_95 := rfl
theorem bkX5_valueAtHand_112 : blk BX5_valueAtHand 112 = some bX5_valueAtHand_112 := rfl
theorem bkX5_valueAtHand_113 : blk BX5_valueAtHand 113 = some bX5_valueAtHand_113 := rfl
theorem bkX2_copyFrom_0 : blk BX2_copyFrom 0 = some bX2_copyFrom_0 := rfl
theorem bkX2_refuse_0 : blk BX2_refuse 0 = some bX2_refuse_0 := rfl
theorem bkX2_refuse_23 : blk BX2_refuse 23 = some bX2_refuse_23 := rfl
theorem bkX2_refused_0 : blk BX2_refused 0 = some bX2_refused_0 := rfl
theorem bkX2_refused_22 : blk BX2_refused 22 = some bX2_refused_22 := rfl
theorem bkX2_refused_23 : blk BX2_refused 23 = some bX2_refused_23 := rfl
theorem bkX2_keepSight_0 : blk BX2_keepSight 0 = some bX2_keepSight_0 := rfl
theorem bkX2_keepSight_46 : blk BX2_keepSight 46 = some bX2_keepSight_46 := rfl
theorem bkX2_keepAct_0 : blk BX2_keepAct 0 = some bX2_keepAct_0 := rfl
theorem bkX2_keepAct_32 : blk BX2_keepAct 32 = some bX2_keepAct_32 := rfl
theorem bkX2_undoAct_0 : blk BX2_undoAct 0 = some bX2_undoAct_0 := rfl
theorem bkX2_undoAct_9 : blk BX2_undoAct 9 = some bX2_undoAct_9 := rfl
theorem bkX2_isRow_0 : blk BX2_isRow 0 = some bX2_isRow_0 := rfl
theorem bkX2_isRow_20 : blk BX2_isRow 20 = some bX2_isRow_20 := rfl
theorem bkX2_isRow_21 : blk BX2_isRow 21 = some bX2_isRow_21 := rfl
theorem bkX2_writeRow_0 : blk BX2_writeRow 0 = some bX2_writeRow_0 := rfl
theorem hnX2_writeRow_0 : (0 ∈ [11, 57]) = False := eq_false (by decide)
theorem bkX2_writeRow_9 : blk BX2_writeRow 9 = some bX2_writeRow_9 := rfl
theorem hnX2_writeRow_9 : (9 ∈ [11, 57]) = False := eq_false (by decide)
theorem bkX2_writeRow_11 : blk BX2_writeRow 11 = some bX2_writeRow_11 := rfl
theorem hnX2_writeRow_11 : (11 ∈ [11, 57]) = True := eq_true (by decide)
theorem bkX2_writeRow_55 : blk BX2_writeRow 55 = some bX2_writeRow_55 := rfl
theorem hnX2_writeRow_55 : (55 ∈ [11, 57]) = False := eq_false (by decide)
theorem bkX2_writeRow_57 : blk BX2_writeRow 57 = some bX2_writeRow_57 := rfl
theorem hnX2_writeRow_57 : (57 ∈ [11, 57]) = True := eq_true (by decide)
theorem bkX2_writeRow_104 : blk BX2_writeRow 104 = some bX2_writeRow_104 := rfl
theorem hnX2_writeRow_104 : (104 ∈ [11, 57]) = False := eq_false (by decide)
theorem bkX2_readRow_0 : blk BX2_readRow 0 = some bX2_readRow_0 := rfl
theorem hnX2_readRow_0 : (0 ∈ [11, 67]) = False := eq_false (by decide)
theorem bkX2_readRow_9 : blk BX2_readRow 9 = some bX2_readRow_9 := rfl
theorem hnX2_readRow_9 : (9 ∈ [11, 67]) = False := eq_false (by decide)
theorem bkX2_readRow_11 : blk BX2_readRow 11 = some bX2_readRow_11 := rfl
theorem hnX2_readRow_11 : (11 ∈ [11, 67]) = True := eq_true (by decide)
theorem bkX2_readRow_65 : blk BX2_readRow 65 = some bX2_readRow_65 := rfl
theorem hnX2_readRow_65 : (65 ∈ [11, 67]) = False := eq_false (by decide)
theorem bkX2_readRow_67 : blk BX2_readRow 67 = some bX2_readRow_67 := rfl
theorem hnX2_readRow_67 : (67 ∈ [11, 67]) = True := eq_true (by decide)
theorem bkX2_readRow_127 : blk BX2_readRow 127 = some bX2_readRow_127 := rfl
theorem hnX2_readRow_127 : (127 ∈ [11, 67]) = False := eq_false (by decide)
theorem bkX3_payers_0 : blk BX3_payers 0 = some bX3_payers_0 := rfl
theorem hnX3_payers_0 : (0 ∈ [4]) = False := eq_false (by decide)
theorem bkX3_payers_4 : blk BX3_payers 4 = some bX3_payers_4 := rfl
theorem hnX3_payers_4 : (4 ∈ [4]) = True := eq_true (by decide)
theorem bkX3_payers_27 : blk BX3_payers 27 = some bX3_payers_27 := rfl
theorem hnX3_payers_27 : (27 ∈ [4]) = False := eq_false (by decide)
theorem bkX3_payers_33 : blk BX3_payers 33 = some bX3_payers_33 := rfl
theorem hnX3_payers_33 : (33 ∈ [4]) = False := eq_false (by decide)
theorem bkX3_reached_0 : blk BX3_reached 0 = some bX3_reached_0 := rfl
theorem hnX3_reached_0 : (0 ∈ [11]) = False := eq_false (by decide)
theorem bkX3_reached_11 : blk BX3_reached 11 = some bX3_reached_11 := rfl
theorem hnX3_reached_11 : (11 ∈ [11]) = True := eq_true (by decide)
theorem bkX3_reached_41 : blk BX3_reached 41 = some bX3_reached_41 := rfl
theorem hnX3_reached_41 : (41 ∈ [11]) = False := eq_false (by decide)
theorem bkX3_distance_0 : blk BX3_distance 0 = some bX3_distance_0 := rfl
theorem hnX3_distance_0 : (0 ∈ [5]) = False := eq_false (by decide)
theorem bkX3_distance_5 : blk BX3_distance 5 = some bX3_distance_5 := rfl
theorem hnX3_distance_5 : (5 ∈ [5]) = True := eq_true (by decide)
theorem bkX3_distance_20 : blk BX3_distance 20 = some bX3_distance_20 := rfl
theorem hnX3_distance_20 : (20 ∈ [5]) = False := eq_false (by decide)
theorem bkX3_distance_32 : blk BX3_distance 32 = some bX3_distance_32 := rfl
theorem hnX3_distance_32 : (32 ∈ [5]) = False := eq_false (by decide)
theorem bkX3_rings_0 : blk BX3_rings 0 = some bX3_rings_0 := rfl
theorem hnX3_rings_0 : (0 ∈ [4]) = False := eq_false (by decide)
theorem bkX3_rings_4 : blk BX3_rings 4 = some bX3_rings_4 := rfl
theorem hnX3_rings_4 : (4 ∈ [4]) = True := eq_true (by decide)
theorem bkX3_rings_30 : blk BX3_rings 30 = some bX3_rings_30 := rfl
theorem hnX3_rings_30 : (30 ∈ [4]) = False := eq_false (by decide)
theorem bkX3_sinks_0 : blk BX3_sinks 0 = some bX3_sinks_0 := rfl
theorem hnX3_sinks_0 : (0 ∈ [4]) = False := eq_false (by decide)
theorem bkX3_sinks_4 : blk BX3_sinks 4 = some bX3_sinks_4 := rfl
theorem hnX3_sinks_4 : (4 ∈ [4]) = True := eq_true (by decide)
theorem bkX3_sinks_35 : blk BX3_sinks 35 = some bX3_sinks_35 := rfl
theorem hnX3_sinks_35 : (35 ∈ [4]) = False := eq_false (by decide)
theorem bkX3_sinks_41 : blk BX3_sinks 41 = some bX3_sinks_41 := rfl
theorem hnX3_sinks_41 : (41 ∈ [4]) = False := eq_false (by decide)
theorem bkX3_parts_0 : blk BX3_parts 0 = some bX3_parts_0 := rfl
theorem hnX3_parts_0 : (0 ∈ [6]) = False := eq_false (by decide)
theorem bkX3_parts_6 : blk BX3_parts 6 = some bX3_parts_6 := rfl
theorem hnX3_parts_6 : (6 ∈ [6]) = True := eq_true (by decide)
theorem bkX3_parts_33 : blk BX3_parts 33 = some bX3_parts_33 := rfl
theorem hnX3_parts_33 : (33 ∈ [6]) = False := eq_false (by decide)
theorem bkX3_parts_39 : blk BX3_parts 39 = some bX3_parts_39 := rfl
theorem hnX3_parts_39 : (39 ∈ [6]) = False := eq_false (by decide)
theorem bkX3_partOf_0 : blk BX3_partOf 0 = some bX3_partOf_0 := rfl
theorem hnX3_partOf_0 : (0 ∈ [6, 15]) = False := eq_false (by decide)
theorem bkX3_partOf_6 : blk BX3_partOf 6 = some bX3_partOf_6 := rfl
theorem hnX3_partOf_6 : (6 ∈ [6, 15]) = True := eq_true (by decide)
theorem bkX3_partOf_15 : blk BX3_partOf 15 = some bX3_partOf_15 := rfl
theorem hnX3_partOf_15 : (15 ∈ [6, 15]) = True := eq_true (by decide)
theorem bkX3_partOf_42 : blk BX3_partOf 42 = some bX3_partOf_42 := rfl
theorem hnX3_partOf_42 : (42 ∈ [6, 15]) = False := eq_false (by decide)
theorem bkX3_partOf_51 : blk BX3_partOf 51 = some bX3_partOf_51 := rfl
theorem hnX3_partOf_51 : (51 ∈ [6, 15]) = False := eq_false (by decide)
theorem bkX3_partOf_65 : blk BX3_partOf 65 = some bX3_partOf_65 := rfl
theorem hnX3_partOf_65 : (65 ∈ [6, 15]) = False := eq_false (by decide)
theorem bkX3_partOf_71 : blk BX3_partOf 71 = some bX3_partOf_71 := rfl
theorem hnX3_partOf_71 : (71 ∈ [6, 15]) = False := eq_false (by decide)
theorem bkX3_partOf_77 : blk BX3_partOf 77 = some bX3_partOf_77 := rfl
theorem hnX3_partOf_77 : (77 ∈ [6, 15]) = False := eq_false (by decide)
theorem bkX7_moneyOf_0 : blk BX7_moneyOf 0 = some bX7_moneyOf_0 := rfl
theorem bkX7_addUp_0 : blk BX7_addUp 0 = some bX7_addUp_0 := rfl
theorem hnX7_addUp_0 : (0 ∈ [3]) = False := eq_false (by decide)
theorem bkX7_addUp_3 : blk BX7_addUp 3 = some bX7_addUp_3 := rfl
theorem hnX7_addUp_3 : (3 ∈ [3]) = True := eq_true (by decide)
theorem bkX7_addUp_81 : blk BX7_addUp 81 = some bX7_addUp_81 := rfl
theorem hnX7_addUp_81 : (81 ∈ [3]) = False := eq_false (by decide)
theorem bkX7_valueOf_0 : blk BX7_valueOf 0 = some bX7_valueOf_0 := rfl
theorem bkX7_valueOf_19 : blk BX7_valueOf 19 = some bX7_valueOf_19 := rfl
theorem bkX7_valueOf_20 : blk BX7_valueOf 20 = some bX7_valueOf_20 := rfl
theorem bkX7_valueOf_33 : blk BX7_valueOf 33 = some bX7_valueOf_33 := rfl
theorem bkX7_valueOf_47 : blk BX7_valueOf 47 = some bX7_valueOf_47 := rfl
theorem bkX7_valueOf_48 : blk BX7_valueOf 48 = some bX7_valueOf_48 := rfl
theorem bkX7_sumOf_0 : blk BX7_sumOf 0 = some bX7_sumOf_0 := rfl
theorem bkX7_setBehind_0 : blk BX7_setBehind 0 = some bX7_setBehind_0 := rfl
theorem bkX7_fewest_0 : blk BX7_fewest 0 = some bX7_fewest_0 := rfl
theorem hnX7_fewest_0 : (0 ∈ [16]) = False := eq_false (by decide)
theorem bkX7_fewest_16 : blk BX7_fewest 16 = some bX7_fewest_16 := rfl
theorem hnX7_fewest_16 : (16 ∈ [16]) = True := eq_true (by decide)
theorem bkX7_fewest_39 : blk BX7_fewest 39 = some bX7_fewest_39 := rfl
theorem hnX7_fewest_39 : (39 ∈ [16]) = False := eq_false (by decide)
theorem bkX7_fewest_40 : blk BX7_fewest 40 = some bX7_fewest_40 := rfl
theorem hnX7_fewest_40 : (40 ∈ [16]) = False := eq_false (by decide)
theorem bkX7_fewest_66 : blk BX7_fewest 66 = some bX7_fewest_66 := rfl
theorem hnX7_fewest_66 : (66 ∈ [16]) = False := eq_false (by decide)
theorem bkX7_fewest_70 : blk BX7_fewest 70 = some bX7_fewest_70 := rfl
theorem hnX7_fewest_70 : (70 ∈ [16]) = False := eq_false (by decide)
theorem bkX7_fewest_88 : blk BX7_fewest 88 = some bX7_fewest_88 := rfl
theorem hnX7_fewest_88 : (88 ∈ [16]) = False := eq_false (by decide)
theorem bkX7_fewest_94 : blk BX7_fewest 94 = some bX7_fewest_94 := rfl
theorem hnX7_fewest_94 : (94 ∈ [16]) = False := eq_false (by decide)
theorem bkX7_countSets_0 : blk BX7_countSets 0 = some bX7_countSets_0 := rfl
theorem hnX7_countSets_0 : (0 ∈ [16]) = False := eq_false (by decide)
theorem bkX7_countSets_16 : blk BX7_countSets 16 = some bX7_countSets_16 := rfl
theorem hnX7_countSets_16 : (16 ∈ [16]) = True := eq_true (by decide)
theorem bkX7_countSets_37 : blk BX7_countSets 37 = some bX7_countSets_37 := rfl
theorem hnX7_countSets_37 : (37 ∈ [16]) = False := eq_false (by decide)
theorem bkX7_countSets_53 : blk BX7_countSets 53 = some bX7_countSets_53 := rfl
theorem hnX7_countSets_53 : (53 ∈ [16]) = False := eq_false (by decide)
theorem bkX7_countSets_59 : blk BX7_countSets 59 = some bX7_countSets_59 := rfl
theorem hnX7_countSets_59 : (59 ∈ [16]) = False := eq_false (by decide)
theorem bkX7_fairest_0 : blk BX7_fairest 0 = some bX7_fairest_0 := rfl
theorem hnX7_fairest_0 : (0 ∈ [15]) = False := eq_false (by decide)
theorem bkX7_fairest_15 : blk BX7_fairest 15 = some bX7_fairest_15 := rfl
theorem hnX7_fairest_15 : (15 ∈ [15]) = True := eq_true (by decide)
theorem bkX7_fairest_42 : blk BX7_fairest 42 = some bX7_fairest_42 := rfl
theorem hnX7_fairest_42 : (42 ∈ [15]) = False := eq_false (by decide)
theorem bkX7_fairest_58 : blk BX7_fairest 58 = some bX7_fairest_58 := rfl
theorem hnX7_fairest_58 : (58 ∈ [15]) = False := eq_false (by decide)
theorem bkX7_fairest_64 : blk BX7_fairest 64 = some bX7_fairest_64 := rfl
theorem hnX7_fairest_64 : (64 ∈ [15]) = False := eq_false (by decide)
theorem bkX7_apart_0 : blk BX7_apart 0 = some bX7_apart_0 := rfl
theorem bkX7_leastUnpaid_0 : blk BX7_leastUnpaid 0 = some bX7_leastUnpaid_0 := rfl
theorem hnX7_leastUnpaid_0 : (0 ∈ [7, 17]) = False := eq_false (by decide)
theorem bkX7_leastUnpaid_7 : blk BX7_leastUnpaid 7 = some bX7_leastUnpaid_7 := rfl
theorem hnX7_leastUnpaid_7 : (7 ∈ [7, 17]) = True := eq_true (by decide)
theorem bkX7_leastUnpaid_17 : blk BX7_leastUnpaid 17 = some bX7_leastUnpaid_17 := rfl
theorem hnX7_leastUnpaid_17 : (17 ∈ [7, 17]) = True := eq_true (by decide)
theorem bkX7_leastUnpaid_63 : blk BX7_leastUnpaid 63 = some bX7_leastUnpaid_63 := rfl
theorem hnX7_leastUnpaid_63 : (63 ∈ [7, 17]) = False := eq_false (by decide)
theorem bkX7_leastUnpaid_69 : blk BX7_leastUnpaid 69 = some bX7_leastUnpaid_69 := rfl
theorem hnX7_leastUnpaid_69 : (69 ∈ [7, 17]) = False := eq_false (by decide)
theorem bkX7_leastUnpaid_75 : blk BX7_leastUnpaid 75 = some bX7_leastUnpaid_75 := rfl
theorem hnX7_leastUnpaid_75 : (75 ∈ [7, 17]) = False := eq_false (by decide)
theorem bkX0_goTo_0 : blk BX0_goTo 0 = some bX0_goTo_0 := rfl
theorem bkX0_nextNamer_0 : blk BX0_nextNamer 0 = some bX0_nextNamer_0 := rfl
theorem hnX0_nextNamer_0 : (0 ∈ [13]) = False := eq_false (by decide)
theorem bkX0_nextNamer_13 : blk BX0_nextNamer 13 = some bX0_nextNamer_13 := rfl
theorem hnX0_nextNamer_13 : (13 ∈ [13]) = True := eq_true (by decide)
theorem bkX0_nextNamer_57 : blk BX0_nextNamer 57 = some bX0_nextNamer_57 := rfl
theorem hnX0_nextNamer_57 : (57 ∈ [13]) = False := eq_false (by decide)
theorem bkX0_nextNamer_63 : blk BX0_nextNamer 63 = some bX0_nextNamer_63 := rfl
theorem hnX0_nextNamer_63 : (63 ∈ [13]) = False := eq_false (by decide)
theorem bkX0_yearsUntilHeld_0 : blk BX0_yearsUntilHeld 0 = some bX0_yearsUntilHeld_0 := rfl
theorem hnX0_yearsUntilHeld_0 : (0 ∈ [26]) = False := eq_false (by decide)
theorem bkX0_yearsUntilHeld_13 : blk BX0_yearsUntilHeld 13 = some bX0_yearsUntilHeld_13 := rfl
theorem hnX0_yearsUntilHeld_13 : (13 ∈ [26]) = False := eq_false (by decide)
theorem bkX0_yearsUntilHeld_26 : blk BX0_yearsUntilHeld 26 = some bX0_yearsUntilHeld_26 := rfl
theorem hnX0_yearsUntilHeld_26 : (26 ∈ [26]) = True := eq_true (by decide)
theorem bkX0_yearsUntilHeld_47 : blk BX0_yearsUntilHeld 47 = some bX0_yearsUntilHeld_47 := rfl
theorem hnX0_yearsUntilHeld_47 : (47 ∈ [26]) = False := eq_false (by decide)
theorem bkX0_yearsUntilHeld_64 : blk BX0_yearsUntilHeld 64 = some bX0_yearsUntilHeld_64 := rfl
theorem hnX0_yearsUntilHeld_64 : (64 ∈ [26]) = False := eq_false (by decide)
theorem bkX0_holdersWithin_0 : blk BX0_holdersWithin 0 = some bX0_holdersWithin_0 := rfl
theorem hnX0_holdersWithin_0 : (0 ∈ [29]) = False := eq_false (by decide)
theorem bkX0_holdersWithin_13 : blk BX0_holdersWithin 13 = some bX0_holdersWithin_13 := rfl
theorem hnX0_holdersWithin_13 : (13 ∈ [29]) = False := eq_false (by decide)
theorem bkX0_holdersWithin_29 : blk BX0_holdersWithin 29 = some bX0_holdersWithin_29 := rfl
theorem hnX0_holdersWithin_29 : (29 ∈ [29]) = True := eq_true (by decide)
theorem bkX0_holdersWithin_68 : blk BX0_holdersWithin 68 = some bX0_holdersWithin_68 := rfl
theorem hnX0_holdersWithin_68 : (68 ∈ [29]) = False := eq_false (by decide)
theorem bkX0_holdersWithin_85 : blk BX0_holdersWithin 85 = some bX0_holdersWithin_85 := rfl
theorem hnX0_holdersWithin_85 : (85 ∈ [29]) = False := eq_false (by decide)
theorem bkX0_worthFor_0 : blk BX0_worthFor 0 = some bX0_worthFor_0 := rfl
theorem hnX0_worthFor_0 : (0 ∈ [16]) = False := eq_false (by decide)
theorem bkX0_worthFor_13 : blk BX0_worthFor 13 = some bX0_worthFor_13 := rfl
theorem hnX0_worthFor_13 : (13 ∈ [16]) = False := eq_false (by decide)
theorem bkX0_worthFor_16 : blk BX0_worthFor 16 = some bX0_worthFor_16 := rfl
theorem hnX0_worthFor_16 : (16 ∈ [16]) = True := eq_true (by decide)
theorem bkX0_worthFor_71 : blk BX0_worthFor 71 = some bX0_worthFor_71 := rfl
theorem hnX0_worthFor_71 : (71 ∈ [16]) = False := eq_false (by decide)
theorem bkX0_worthFor_77 : blk BX0_worthFor 77 = some bX0_worthFor_77 := rfl
theorem hnX0_worthFor_77 : (77 ∈ [16]) = False := eq_false (by decide)
theorem bkX1_countNeedy_0 : blk BX1_countNeedy 0 = some bX1_countNeedy_0 := rfl
theorem hnX1_countNeedy_0 : (0 ∈ [4]) = False := eq_false (by decide)
theorem bkX1_countNeedy_4 : blk BX1_countNeedy 4 = some bX1_countNeedy_4 := rfl
theorem hnX1_countNeedy_4 : (4 ∈ [4]) = True := eq_true (by decide)
theorem bkX1_countNeedy_36 : blk BX1_countNeedy 36 = some bX1_countNeedy_36 := rfl
theorem hnX1_countNeedy_36 : (36 ∈ [4]) = False := eq_false (by decide)
theorem bkX1_countNeedy_42 : blk BX1_countNeedy 42 = some bX1_countNeedy_42 := rfl
theorem hnX1_countNeedy_42 : (42 ∈ [4]) = False := eq_false (by decide)
theorem bkX1_firstNeedy_0 : blk BX1_firstNeedy 0 = some bX1_firstNeedy_0 := rfl
theorem hnX1_firstNeedy_0 : (0 ∈ [2]) = False := eq_false (by decide)
theorem bkX1_firstNeedy_2 : blk BX1_firstNeedy 2 = some bX1_firstNeedy_2 := rfl
theorem hnX1_firstNeedy_2 : (2 ∈ [2]) = True := eq_true (by decide)
theorem bkX1_firstNeedy_33 : blk BX1_firstNeedy 33 = some bX1_firstNeedy_33 := rfl
theorem hnX1_firstNeedy_33 : (33 ∈ [2]) = False := eq_false (by decide)
theorem bkX1_firstNeedy_39 : blk BX1_firstNeedy 39 = some bX1_firstNeedy_39 := rfl
theorem hnX1_firstNeedy_39 : (39 ∈ [2]) = False := eq_false (by decide)
theorem bkX1_isSeenWithout_0 : blk BX1_isSeenWithout 0 = some bX1_isSeenWithout_0 := rfl
theorem bkX1_coinToLookAt_0 : blk BX1_coinToLookAt 0 = some bX1_coinToLookAt_0 := rfl
theorem hnX1_coinToLookAt_0 : (0 ∈ [10, 54]) = False := eq_false (by decide)
theorem bkX1_coinToLookAt_10 : blk BX1_coinToLookAt 10 = some bX1_coinToLookAt_10 := rfl
theorem hnX1_coinToLookAt_10 : (10 ∈ [10, 54]) = True := eq_true (by decide)
theorem bkX1_coinToLookAt_44 : blk BX1_coinToLookAt 44 = some bX1_coinToLookAt_44 := rfl
theorem hnX1_coinToLookAt_44 : (44 ∈ [10, 54]) = False := eq_false (by decide)
theorem bkX1_coinToLookAt_50 : blk BX1_coinToLookAt 50 = some bX1_coinToLookAt_50 := rfl
theorem hnX1_coinToLookAt_50 : (50 ∈ [10, 54]) = False := eq_false (by decide)
theorem bkX1_coinToLookAt_54 : blk BX1_coinToLookAt 54 = some bX1_coinToLookAt_54 := rfl
theorem hnX1_coinToLookAt_54 : (54 ∈ [10, 54]) = True := eq_true (by decide)
theorem bkX1_coinToLookAt_75 : blk BX1_coinToLookAt 75 = some bX1_coinToLookAt_75 := rfl
theorem hnX1_coinToLookAt_75 : (75 ∈ [10, 54]) = False := eq_false (by decide)
theorem bkX1_coinToLookAt_81 : blk BX1_coinToLookAt 81 = some bX1_coinToLookAt_81 := rfl
theorem hnX1_coinToLookAt_81 : (81 ∈ [10, 54]) = False := eq_false (by decide)
theorem bkX1_unlikeHolders_0 : blk BX1_unlikeHolders 0 = some bX1_unlikeHolders_0 := rfl
theorem bkX1_unlikeHolders_22 : blk BX1_unlikeHolders 22 = some bX1_unlikeHolders_22 := rfl
theorem bkX1_unlikeHolders_23 : blk BX1_unlikeHolders 23 = some bX1_unlikeHolders_23 := rfl
theorem bkX1_startWith_0 : blk BX1_startWith 0 = some bX1_startWith_0 := rfl
theorem bkX1_startWith_34 : blk BX1_startWith 34 = some bX1_startWith_34 := rfl
theorem bkX1_startWith_36 : blk BX1_startWith 36 = some bX1_startWith_36 := rfl
theorem bkX1_isAllSeen_0 : blk BX1_isAllSeen 0 = some bX1_isAllSeen_0 := rfl
theorem hnX1_isAllSeen_0 : (0 ∈ [7]) = False := eq_false (by decide)
theorem bkX1_isAllSeen_7 : blk BX1_isAllSeen 7 = some bX1_isAllSeen_7 := rfl
theorem hnX1_isAllSeen_7 : (7 ∈ [7]) = True := eq_true (by decide)
theorem bkX1_isAllSeen_27 : blk BX1_isAllSeen 27 = some bX1_isAllSeen_27 := rfl
theorem hnX1_isAllSeen_27 : (27 ∈ [7]) = False := eq_false (by decide)
theorem bkX1_isAllSeen_44 : blk BX1_isAllSeen 44 = some bX1_isAllSeen_44 := rfl
theorem hnX1_isAllSeen_44 : (44 ∈ [7]) = False := eq_false (by decide)
theorem bkX1_isAllSeen_50 : blk BX1_isAllSeen 50 = some bX1_isAllSeen_50 := rfl
theorem hnX1_isAllSeen_50 : (50 ∈ [7]) = False := eq_false (by decide)
theorem bkX1_lastYearSeen_0 : blk BX1_lastYearSeen 0 = some bX1_lastYearSeen_0 := rfl
theorem hnX1_lastYearSeen_0 : (0 ∈ [4]) = False := eq_false (by decide)
theorem bkX1_lastYearSeen_4 : blk BX1_lastYearSeen 4 = some bX1_lastYearSeen_4 := rfl
theorem hnX1_lastYearSeen_4 : (4 ∈ [4]) = True := eq_true (by decide)
theorem bkX1_lastYearSeen_41 : blk BX1_lastYearSeen 41 = some bX1_lastYearSeen_41 := rfl
theorem hnX1_lastYearSeen_41 : (41 ∈ [4]) = False := eq_false (by decide)
theorem bkX1_isSeenAt_0 : blk BX1_isSeenAt 0 = some bX1_isSeenAt_0 := rfl
theorem hnX1_isSeenAt_0 : (0 ∈ [2]) = False := eq_false (by decide)
theorem bkX1_isSeenAt_2 : blk BX1_isSeenAt 2 = some bX1_isSeenAt_2 := rfl
theorem hnX1_isSeenAt_2 : (2 ∈ [2]) = True := eq_true (by decide)
theorem bkX1_isSeenAt_47 : blk BX1_isSeenAt 47 = some bX1_isSeenAt_47 := rfl
theorem hnX1_isSeenAt_47 : (47 ∈ [2]) = False := eq_false (by decide)
theorem bkX1_isSeenAt_53 : blk BX1_isSeenAt 53 = some bX1_isSeenAt_53 := rfl
theorem hnX1_isSeenAt_53 : (53 ∈ [2]) = False := eq_false (by decide)
theorem bkX1_noteHolders_0 : blk BX1_noteHolders 0 = some bX1_noteHolders_0 := rfl
theorem hnX1_noteHolders_0 : (0 ∈ [11, 36]) = False := eq_false (by decide)
theorem bkX1_noteHolders_9 : blk BX1_noteHolders 9 = some bX1_noteHolders_9 := rfl
theorem hnX1_noteHolders_9 : (9 ∈ [11, 36]) = False := eq_false (by decide)
theorem bkX1_noteHolders_11 : blk BX1_noteHolders 11 = some bX1_noteHolders_11 := rfl
theorem hnX1_noteHolders_11 : (11 ∈ [11, 36]) = True := eq_true (by decide)
theorem bkX1_noteHolders_34 : blk BX1_noteHolders 34 = some bX1_noteHolders_34 := rfl
theorem hnX1_noteHolders_34 : (34 ∈ [11, 36]) = False := eq_false (by decide)
theorem bkX1_noteHolders_36 : blk BX1_noteHolders 36 = some bX1_noteHolders_36 := rfl
theorem hnX1_noteHolders_36 : (36 ∈ [11, 36]) = True := eq_true (by decide)
theorem bkX1_noteHolders_70 : blk BX1_noteHolders 70 = some bX1_noteHolders_70 := rfl
theorem hnX1_noteHolders_70 : (70 ∈ [11, 36]) = False := eq_false (by decide)
theorem bkX4_chancePoorest_0 : blk BX4_chancePoorest 0 = some bX4_chancePoorest_0 := rfl
theorem hnX4_chancePoorest_0 : (0 ∈ [6]) = False := eq_false (by decide)
theorem bkX4_chancePoorest_6 : blk BX4_chancePoorest 6 = some bX4_chancePoorest_6 := rfl
theorem hnX4_chancePoorest_6 : (6 ∈ [6]) = True := eq_true (by decide)
theorem bkX4_chancePoorest_46 : blk BX4_chancePoorest 46 = some bX4_chancePoorest_46 := rfl
theorem hnX4_chancePoorest_46 : (46 ∈ [6]) = False := eq_false (by decide)
theorem bkX4_chancePoorest_52 : blk BX4_chancePoorest 52 = some bX4_chancePoorest_52 := rfl
theorem hnX4_chancePoorest_52 : (52 ∈ [6]) = False := eq_false (by decide)
theorem bkX4_weightOf_0 : blk BX4_weightOf 0 = some bX4_weightOf_0 := rfl
theorem hnX4_weightOf_0 : (0 ∈ [5]) = False := eq_false (by decide)
theorem bkX4_weightOf_5 : blk BX4_weightOf 5 = some bX4_weightOf_5 := rfl
theorem hnX4_weightOf_5 : (5 ∈ [5]) = True := eq_true (by decide)
theorem bkX4_weightOf_25 : blk BX4_weightOf 25 = some bX4_weightOf_25 := rfl
theorem hnX4_weightOf_25 : (25 ∈ [5]) = False := eq_false (by decide)
theorem bkX4_weightOf_29 : blk BX4_weightOf 29 = some bX4_weightOf_29 := rfl
theorem hnX4_weightOf_29 : (29 ∈ [5]) = False := eq_false (by decide)
theorem bkX4_weightOf_37 : blk BX4_weightOf 37 = some bX4_weightOf_37 := rfl
theorem hnX4_weightOf_37 : (37 ∈ [5]) = False := eq_false (by decide)
theorem bkX4_poorestAfter_0 : blk BX4_poorestAfter 0 = some bX4_poorestAfter_0 := rfl
theorem hnX4_poorestAfter_0 : (0 ∈ [13]) = False := eq_false (by decide)
theorem bkX4_poorestAfter_13 : blk BX4_poorestAfter 13 = some bX4_poorestAfter_13 := rfl
theorem hnX4_poorestAfter_13 : (13 ∈ [13]) = True := eq_true (by decide)
theorem bkX4_poorestAfter_72 : blk BX4_poorestAfter 72 = some bX4_poorestAfter_72 := rfl
theorem hnX4_poorestAfter_72 : (72 ∈ [13]) = False := eq_false (by decide)
theorem bkX4_poorestAfter_89 : blk BX4_poorestAfter 89 = some bX4_poorestAfter_89 := rfl
theorem hnX4_poorestAfter_89 : (89 ∈ [13]) = False := eq_false (by decide)
theorem bkX4_playOut_0 : blk BX4_playOut 0 = some bX4_playOut_0 := rfl
theorem hnX4_playOut_0 : (0 ∈ [65]) = False := eq_false (by decide)
theorem bkX4_playOut_43 : blk BX4_playOut 43 = some bX4_playOut_43 := rfl
theorem hnX4_playOut_43 : (43 ∈ [65]) = False := eq_false (by decide)
theorem bkX4_playOut_44 : blk BX4_playOut 44 = some bX4_playOut_44 := rfl
theorem hnX4_playOut_44 : (44 ∈ [65]) = False := eq_false (by decide)
theorem bkX4_playOut_58 : blk BX4_playOut 58 = some bX4_playOut_58 := rfl
theorem hnX4_playOut_58 : (58 ∈ [65]) = False := eq_false (by decide)
theorem bkX4_playOut_59 : blk BX4_playOut 59 = some bX4_playOut_59 := rfl
theorem hnX4_playOut_59 : (59 ∈ [65]) = False := eq_false (by decide)
theorem bkX4_playOut_65 : blk BX4_playOut 65 = some bX4_playOut_65 := rfl
theorem hnX4_playOut_65 : (65 ∈ [65]) = True := eq_true (by decide)
theorem bkX4_playOut_99 : blk BX4_playOut 99 = some bX4_playOut_99 := rfl
theorem hnX4_playOut_99 : (99 ∈ [65]) = False := eq_false (by decide)
theorem bkX4_playOut_117 : blk BX4_playOut 117 = some bX4_playOut_117 := rfl
theorem hnX4_playOut_117 : (117 ∈ [65]) = False := eq_false (by decide)
theorem bkX4_playOut_160 : blk BX4_playOut 160 = some bX4_playOut_160 := rfl
theorem hnX4_playOut_160 : (160 ∈ [65]) = False := eq_false (by decide)
theorem bkX4_gainOf_0 : blk BX4_gainOf 0 = some bX4_gainOf_0 := rfl
theorem bkX4_gainOf_26 : blk BX4_gainOf 26 = some bX4_gainOf_26 := rfl
theorem bkX4_gainOf_27 : blk BX4_gainOf 27 = some bX4_gainOf_27 := rfl
theorem bkX4_countRests_0 : blk BX4_countRests 0 = some bX4_countRests_0 := rfl
theorem hnX4_countRests_0 : (0 ∈ [4]) = False := eq_false (by decide)
theorem bkX4_countRests_4 : blk BX4_countRests 4 = some bX4_countRests_4 := rfl
theorem hnX4_countRests_4 : (4 ∈ [4]) = True := eq_true (by decide)
theorem bkX4_countRests_20 : blk BX4_countRests 20 = some bX4_countRests_20 := rfl
theorem hnX4_countRests_20 : (20 ∈ [4]) = False := eq_false (by decide)
theorem bkX4_countRests_26 : blk BX4_countRests 26 = some bX4_countRests_26 := rfl
theorem hnX4_countRests_26 : (26 ∈ [4]) = False := eq_false (by decide)
theorem bkX4_firstRest_0 : blk BX4_firstRest 0 = some bX4_firstRest_0 := rfl
theorem hnX4_firstRest_0 : (0 ∈ [2]) = False := eq_false (by decide)
theorem bkX4_firstRest_2 : blk BX4_firstRest 2 = some bX4_firstRest_2 := rfl
theorem hnX4_firstRest_2 : (2 ∈ [2]) = True := eq_true (by decide)
theorem bkX4_firstRest_26 : blk BX4_firstRest 26 = some bX4_firstRest_26 := rfl
theorem hnX4_firstRest_26 : (26 ∈ [2]) = False := eq_false (by decide)
theorem bkX4_firstRest_32 : blk BX4_firstRest 32 = some bX4_firstRest_32 := rfl
theorem hnX4_firstRest_32 : (32 ∈ [2]) = False := eq_false (by decide)
theorem bkX4_isRest_0 : blk BX4_isRest 0 = some bX4_isRest_0 := rfl
theorem bkX4_isRest_29 : blk BX4_isRest 29 = some bX4_isRest_29 := rfl
theorem bkX4_isRest_31 : blk BX4_isRest 31 = some bX4_isRest_31 := rfl
theorem bkX4_isRest_56 : blk BX4_isRest 56 = some bX4_isRest_56 := rfl
theorem bkX4_isRest_60 : blk BX4_isRest 60 = some bX4_isRest_60 := rfl
theorem bkX4_isRest_61 : blk BX4_isRest 61 = some bX4_isRest_61 := rfl
theorem bkX4_isRest_87 : blk BX4_isRest 87 = some bX4_isRest_87 := rfl
theorem bkX4_isRest_91 : blk BX4_isRest 91 = some bX4_isRest_91 := rfl
theorem bkX4_isRest_92 : blk BX4_isRest 92 = some bX4_isRest_92 := rfl
theorem bkX4_isRest_105 : blk BX4_isRest 105 = some bX4_isRest_105 := rfl
theorem bkX4_isRest_106 : blk BX4_isRest 106 = some bX4_isRest_106 := rfl
theorem bkX4_goAges_0 : blk BX4_goAges 0 = some bX4_goAges_0 := rfl
theorem hnX4_goAges_0 : (0 ∈ [18]) = False := eq_false (by decide)
theorem bkX4_goAges_18 : blk BX4_goAges 18 = some bX4_goAges_18 := rfl
theorem hnX4_goAges_18 : (18 ∈ [18]) = True := eq_true (by decide)
theorem bkX4_goAges_50 : blk BX4_goAges 50 = some bX4_goAges_50 := rfl
theorem hnX4_goAges_50 : (50 ∈ [18]) = False := eq_false (by decide)
theorem bkX4_draw_0 : blk BX4_draw 0 = some bX4_draw_0 := rfl
theorem bkX4_draw_35 : blk BX4_draw 35 = some bX4_draw_35 := rfl
theorem bkX4_draw_36 : blk BX4_draw 36 = some bX4_draw_36 := rfl
theorem bkX4_meetFate_0 : blk BX4_meetFate 0 = some bX4_meetFate_0 := rfl
theorem bkX4_meetFate_11 : blk BX4_meetFate 11 = some bX4_meetFate_11 := rfl
theorem bkX4_meetFate_59 : blk BX4_meetFate 59 = some bX4_meetFate_59 := rfl
theorem bkX4_meetFate_103 : blk BX4_meetFate 103 = some bX4_meetFate_103 := rfl
theorem bkX4_meetFate_106 : blk BX4_meetFate 106 = some bX4_meetFate_106 := rfl
theorem bkX4_meetFate_163 : blk BX4_meetFate 163 = some bX4_meetFate_163 := rfl
theorem bkX4_meetFate_164 : blk BX4_meetFate 164 = some bX4_meetFate_164 := rfl
theorem bkX4_meetFate_165 : blk BX4_meetFate 165 = some bX4_meetFate_165 := rfl
theorem bkX10_feed_0 : blk BX10_feed 0 = some bX10_feed_0 := rfl
theorem bkX10_feed_15 : blk BX10_feed 15 = some bX10_feed_15 := rfl
theorem bkX10_putBytes_0 : blk BX10_putBytes 0 = some bX10_putBytes_0 := rfl
theorem hnX10_putBytes_0 : (0 ∈ [3]) = False := eq_false (by decide)
theorem bkX10_putBytes_3 : blk BX10_putBytes 3 = some bX10_putBytes_3 := rfl
theorem hnX10_putBytes_3 : (3 ∈ [3]) = True := eq_true (by decide)
theorem bkX10_putBytes_42 : blk BX10_putBytes 42 = some bX10_putBytes_42 := rfl
theorem hnX10_putBytes_42 : (42 ∈ [3]) = False := eq_false (by decide)
theorem bkX10_putBytes_48 : blk BX10_putBytes 48 = some bX10_putBytes_48 := rfl
theorem hnX10_putBytes_48 : (48 ∈ [3]) = False := eq_false (by decide)
theorem bkX10_mint_0 : blk BX10_mint 0 = some bX10_mint_0 := rfl
theorem bkX10_mint_12 : blk BX10_mint 12 = some bX10_mint_12 := rfl
theorem bkX10_mint_22 : blk BX10_mint 22 = some bX10_mint_22 := rfl
theorem bkX10_mint_61 : blk BX10_mint 61 = some bX10_mint_61 := rfl
theorem bkX10_fault_0 : blk BX10_fault 0 = some bX10_fault_0 := rfl
theorem bkX10_count_0 : blk BX10_count 0 = some bX10_count_0 := rfl
theorem bkX10_count_84 : blk BX10_count 84 = some bX10_count_84 := rfl
theorem bkX10_count_92 : blk BX10_count 92 = some bX10_count_92 := rfl
theorem bkX10_count_100 : blk BX10_count 100 = some bX10_count_100 := rfl
theorem bkX10_count_108 : blk BX10_count 108 = some bX10_count_108 := rfl
theorem bkX10_count_116 : blk BX10_count 116 = some bX10_count_116 := rfl
theorem bkX10_count_124 : blk BX10_count 124 = some bX10_count_124 := rfl
theorem bkX10_count_132 : blk BX10_count 132 = some bX10_count_132 := rfl
theorem bkX10_count_140 : blk BX10_count 140 = some bX10_count_140 := rfl
theorem bkX10_count_148 : blk BX10_count 148 = some bX10_count_148 := rfl
theorem bkX10_count_156 : blk BX10_count 156 = some bX10_count_156 := rfl
theorem bkX10_count_164 : blk BX10_count 164 = some bX10_count_164 := rfl
theorem bkX10_count_172 : blk BX10_count 172 = some bX10_count_172 := rfl
theorem bkX10_count_180 : blk BX10_count 180 = some bX10_count_180 := rfl
theorem bkX10_count_188 : blk BX10_count 188 = some bX10_count_188 := rfl
theorem bkX10_count_193 : blk BX10_count 193 = some bX10_count_193 := rfl
theorem bkX10_count_202 : blk BX10_count 202 = some bX10_count_202 := rfl
theorem bkX10_count_211 : blk BX10_count 211 = some bX10_count_211 := rfl
theorem bkX10_count_220 : blk BX10_count 220 = some bX10_count_220 := rfl
theorem bkX10_person_0 : blk BX10_person 0 = some bX10_person_0 := rfl
theorem bkX10_person_48 : blk BX10_person 48 = some bX10_person_48 := rfl
theorem bkX10_person_58 : blk BX10_person 58 = some bX10_person_58 := rfl
theorem bkX10_person_68 : blk BX10_person 68 = some bX10_person_68 := rfl
theorem bkX10_person_78 : blk BX10_person 78 = some bX10_person_78 := rfl
theorem bkX10_person_87 : blk BX10_person 87 = some bX10_person_87 := rfl
theorem bkX10_person_96 : blk BX10_person 96 = some bX10_person_96 := rfl
theorem bkX10_person_105 : blk BX10_person 105 = some bX10_person_105 := rfl
theorem bkX10_person_120 : blk BX10_person 120 = some bX10_person_120 := rfl
theorem bkX10_person_121 : blk BX10_person 121 = some bX10_person_121 := rfl
theorem bkX10_person_122 : blk BX10_person 122 = some bX10_person_122 := rfl
theorem bkX10_coin_0 : blk BX10_coin 0 = some bX10_coin_0 := rfl
theorem bkX10_coin_36 : blk BX10_coin 36 = some bX10_coin_36 := rfl
theorem bkX10_coin_46 : blk BX10_coin 46 = some bX10_coin_46 := rfl
theorem bkX10_coin_56 : blk BX10_coin 56 = some bX10_coin_56 := rfl
theorem bkX10_coin_71 : blk BX10_coin 71 = some bX10_coin_71 := rfl
theorem bkX10_coin_72 : blk BX10_coin 72 = some bX10_coin_72 := rfl
theorem bkX10_coin_73 : blk BX10_coin 73 = some bX10_coin_73 := rfl
theorem bkX10_coin_88 : blk BX10_coin 88 = some bX10_coin_88 := rfl
theorem bkX10_coin_89 : blk BX10_coin 89 = some bX10_coin_89 := rfl
theorem bkX10_coin_90 : blk BX10_coin 90 = some bX10_coin_90 := rfl
theorem bkX10_years_0 : blk BX10_years 0 = some bX10_years_0 := rfl
theorem bkX10_years_26 : blk BX10_years 26 = some bX10_years_26 := rfl
theorem bkX10_years_36 : blk BX10_years 36 = some bX10_years_36 := rfl
theorem bkX10_give_0 : blk BX10_give 0 = some bX10_give_0 := rfl
theorem bkX10_give_36 : blk BX10_give 36 = some bX10_give_36 := rfl
theorem bkX10_give_46 : blk BX10_give 46 = some bX10_give_46 := rfl
theorem bkX10_search_0 : blk BX10_search 0 = some bX10_search_0 := rfl
theorem bkX10_search_29 : blk BX10_search 29 = some bX10_search_29 := rfl
theorem bkX10_pays_0 : blk BX10_pays 0 = some bX10_pays_0 := rfl
theorem bkX10_pays_15 : blk BX10_pays 15 = some bX10_pays_15 := rfl
theorem bkX10_pays_35 : blk BX10_pays 35 = some bX10_pays_35 := rfl
theorem bkX10_pays_46 : blk BX10_pays 46 = some bX10_pays_46 := rfl
theorem bkX10_anew_0 : blk BX10_anew 0 = some bX10_anew_0 := rfl
theorem bkX10_anew_26 : blk BX10_anew 26 = some bX10_anew_26 := rfl
theorem bkX10_anew_36 : blk BX10_anew 36 = some bX10_anew_36 := rfl
theorem bkX10_undo_0 : blk BX10_undo 0 = some bX10_undo_0 := rfl
theorem bkX10_then_0 : blk BX10_then 0 = some bX10_then_0 := rfl
theorem bkX10_then_10 : blk BX10_then 10 = some bX10_then_10 := rfl
theorem bkX10_then_20 : blk BX10_then 20 = some bX10_then_20 := rfl
theorem bkX10_then_53 : blk BX10_then 53 = some bX10_then_53 := rfl
theorem bkX10_then_62 : blk BX10_then 62 = some bX10_then_62 := rfl
theorem bkX10_has_0 : blk BX10_has 0 = some bX10_has_0 := rfl
theorem bkX10_later_0 : blk BX10_later 0 = some bX10_later_0 := rfl
theorem bkX10_later_44 : blk BX10_later 44 = some bX10_later_44 := rfl
theorem bkX10_later_52 : blk BX10_later 52 = some bX10_later_52 := rfl
theorem bkX10_later_60 : blk BX10_later 60 = some bX10_later_60 := rfl
theorem bkX10_later_76 : blk BX10_later 76 = some bX10_later_76 := rfl
theorem bkX10_next_0 : blk BX10_next 0 = some bX10_next_0 := rfl
theorem bkX10_gets_0 : blk BX10_gets 0 = some bX10_gets_0 := rfl
theorem bkX10_hands_0 : blk BX10_hands 0 = some bX10_hands_0 := rfl
theorem bkX10_crumbles_0 : blk BX10_crumbles 0 = some bX10_crumbles_0 := rfl
theorem bkX10_crumbles_20 : blk BX10_crumbles 20 = some bX10_crumbles_20 := rfl
theorem bkX10_crumbles_29 : blk BX10_crumbles 29 = some bX10_crumbles_29 := rfl
theorem bkX10_comesTo_0 : blk BX10_comesTo 0 = some bX10_comesTo_0 := rfl
theorem bkX10_steps_0 : blk BX10_steps 0 = some bX10_steps_0 := rfl
theorem bkX10_toPay_0 : blk BX10_toPay 0 = some bX10_toPay_0 := rfl
theorem bkX10_toPay_22 : blk BX10_toPay 22 = some bX10_toPay_22 := rfl
theorem bkX10_toPay_33 : blk BX10_toPay 33 = some bX10_toPay_33 := rfl
theorem bkX10_toPay_65 : blk BX10_toPay 65 = some bX10_toPay_65 := rfl
theorem bkX10_toPay_79 : blk BX10_toPay 79 = some bX10_toPay_79 := rfl
theorem bkX10_change_0 : blk BX10_change 0 = some bX10_change_0 := rfl
theorem bkX10_change_32 : blk BX10_change 32 = some bX10_change_32 := rfl
theorem bkX10_change_43 : blk BX10_change 43 = some bX10_change_43 := rfl
theorem bkX10_change_85 : blk BX10_change 85 = some bX10_change_85 := rfl
theorem bkX10_change_90 : blk BX10_change 90 = some bX10_change_90 := rfl
theorem bkX10_change_95 : blk BX10_change 95 = some bX10_change_95 := rfl
theorem bkX10_share_0 : blk BX10_share 0 = some bX10_share_0 := rfl
theorem bkX10_share_64 : blk BX10_share 64 = some bX10_share_64 := rfl
theorem bkX10_share_75 : blk BX10_share 75 = some bX10_share_75 := rfl
theorem bkX10_lacks_0 : blk BX10_lacks 0 = some bX10_lacks_0 := rfl
theorem bkX10_toName_0 : blk BX10_toName 0 = some bX10_toName_0 := rfl
theorem bkX10_toName_29 : blk BX10_toName 29 = some bX10_toName_29 := rfl
theorem bkX10_toName_39 : blk BX10_toName 39 = some bX10_toName_39 := rfl
theorem bkX10_see_0 : blk BX10_see 0 = some bX10_see_0 := rfl
theorem bkX10_see_27 : blk BX10_see 27 = some bX10_see_27 := rfl
theorem bkX10_see_37 : blk BX10_see 37 = some bX10_see_37 := rfl
theorem bkX10_needy_0 : blk BX10_needy 0 = some bX10_needy_0 := rfl
theorem bkX10_needy_32 : blk BX10_needy 32 = some bX10_needy_32 := rfl
theorem bkX10_needy_40 : blk BX10_needy 40 = some bX10_needy_40 := rfl
theorem bkX10_needy_48 : blk BX10_needy 48 = some bX10_needy_48 := rfl
theorem bkX10_needy_62 : blk BX10_needy 62 = some bX10_needy_62 := rfl
theorem bkX10_needy_63 : blk BX10_needy 63 = some bX10_needy_63 := rfl
theorem bkX10_look_0 : blk BX10_look 0 = some bX10_look_0 := rfl
theorem bkX10_look_21 : blk BX10_look 21 = some bX10_look_21 := rfl
theorem bkX10_look_29 : blk BX10_look 29 = some bX10_look_29 := rfl
theorem bkX10_forget_0 : blk BX10_forget 0 = some bX10_forget_0 := rfl
theorem bkX10_thieves_0 : blk BX10_thieves 0 = some bX10_thieves_0 := rfl
theorem bkX10_thieves_25 : blk BX10_thieves 25 = some bX10_thieves_25 := rfl
theorem bkX10_thieves_36 : blk BX10_thieves 36 = some bX10_thieves_36 := rfl
theorem bkX10_game_0 : blk BX10_game 0 = some bX10_game_0 := rfl
theorem bkX10_game_43 : blk BX10_game 43 = some bX10_game_43 := rfl
theorem bkX10_game_50 : blk BX10_game 50 = some bX10_game_50 := rfl
theorem bkX10_ages_0 : blk BX10_ages 0 = some bX10_ages_0 := rfl
theorem bkX10_ages_44 : blk BX10_ages 44 = some bX10_ages_44 := rfl
theorem bkX10_ages_60 : blk BX10_ages 60 = some bX10_ages_60 := rfl
theorem bkX10_ages_82 : blk BX10_ages 82 = some bX10_ages_82 := rfl
theorem bkX10_image_0 : blk BX10_image 0 = some bX10_image_0 := rfl
theorem bkX10_restore_0 : blk BX10_restore 0 = some bX10_restore_0 := rfl
theorem bkX10_restore_18 : blk BX10_restore 18 = some bX10_restore_18 := rfl
theorem bkX10_needPerson_0 : blk BX10_needPerson 0 = some bX10_needPerson_0 := rfl
theorem bkX10_needPerson_22 : blk BX10_needPerson 22 = some bX10_needPerson_22 := rfl
theorem bkX10_needCoin_0 : blk BX10_needCoin 0 = some bX10_needCoin_0 := rfl
theorem bkX10_needCoin_21 : blk BX10_needCoin 21 = some bX10_needCoin_21 := rfl
theorem bkX10_needWhat_0 : blk BX10_needWhat 0 = some bX10_needWhat_0 := rfl
theorem bkX10_needWhat_9 : blk BX10_needWhat 9 = some bX10_needWhat_9 := rfl
theorem bkX10_needWhat_20 : blk BX10_needWhat 20 = some bX10_needWhat_20 := rfl
theorem bkX10_needForesight_0 : blk BX10_needForesight 0 = some bX10_needForesight_0 := rfl
theorem bkX10_needForesight_10 : blk BX10_needForesight 10 = some bX10_needForesight_10 := rfl
theorem bkX10_needForesight_21 : blk BX10_needForesight 21 = some bX10_needForesight_21 := rfl
theorem bkX10_needTwo_0 : blk BX10_needTwo 0 = some bX10_needTwo_0 := rfl
theorem bkX10_needTwo_16 : blk BX10_needTwo 16 = some bX10_needTwo_16 := rfl
theorem bkX11_thrown_0 : blk BX11_thrown 0 = some bX11_thrown_0 := rfl
theorem bkX11_fail_0 : blk BX11_fail 0 = some bX11_fail_0 := rfl
theorem bkX11_isIn_0 : blk BX11_isIn 0 = some bX11_isIn_0 := rfl
theorem bkX11_isIn_17 : blk BX11_isIn 17 = some bX11_isIn_17 := rfl
theorem bkX11_isIn_18 : blk BX11_isIn 18 = some bX11_isIn_18 := rfl
theorem bkX11_isOf_0 : blk BX11_isOf 0 = some bX11_isOf_0 := rfl
theorem bkX11_isOf_13 : blk BX11_isOf 13 = some bX11_isOf_13 := rfl
theorem bkX11_isOf_14 : blk BX11_isOf 14 = some bX11_isOf_14 := rfl
theorem bkX11_bitsOf_0 : blk BX11_bitsOf 0 = some bX11_bitsOf_0 := rfl
theorem hnX11_bitsOf_0 : (0 ∈ [4]) = False := eq_false (by decide)
theorem bkX11_bitsOf_4 : blk BX11_bitsOf 4 = some bX11_bitsOf_4 := rfl
theorem hnX11_bitsOf_4 : (4 ∈ [4]) = True := eq_true (by decide)
theorem bkX11_bitsOf_20 : blk BX11_bitsOf 20 = some bX11_bitsOf_20 := rfl
theorem hnX11_bitsOf_20 : (20 ∈ [4]) = False := eq_false (by decide)
theorem bkX11_isPerson_0 : blk BX11_isPerson 0 = some bX11_isPerson_0 := rfl
theorem bkX11_isCoin_0 : blk BX11_isCoin 0 = some bX11_isCoin_0 := rfl
theorem bkX11_feed_0 : blk BX11_feed 0 = some bX11_feed_0 := rfl
theorem hnX11_feed_0 : (0 ∈ [23]) = False := eq_false (by decide)
theorem bkX11_feed_20 : blk BX11_feed 20 = some bX11_feed_20 := rfl
theorem hnX11_feed_20 : (20 ∈ [23]) = False := eq_false (by decide)
theorem bkX11_feed_23 : blk BX11_feed 23 = some bX11_feed_23 := rfl
theorem hnX11_feed_23 : (23 ∈ [23]) = True := eq_true (by decide)
theorem bkX11_feed_40 : blk BX11_feed 40 = some bX11_feed_40 := rfl
theorem hnX11_feed_40 : (40 ∈ [23]) = False := eq_false (by decide)
theorem bkX11_feed_51 : blk BX11_feed 51 = some bX11_feed_51 := rfl
theorem hnX11_feed_51 : (51 ∈ [23]) = False := eq_false (by decide)
theorem bkX11_feed_62 : blk BX11_feed 62 = some bX11_feed_62 := rfl
theorem hnX11_feed_62 : (62 ∈ [23]) = False := eq_false (by decide)
theorem bkX11_feed_74 : blk BX11_feed 74 = some bX11_feed_74 := rfl
theorem hnX11_feed_74 : (74 ∈ [23]) = False := eq_false (by decide)
theorem bkX11_feed_76 : blk BX11_feed 76 = some bX11_feed_76 := rfl
theorem hnX11_feed_76 : (76 ∈ [23]) = False := eq_false (by decide)
theorem bkX11_feed_120 : blk BX11_feed 120 = some bX11_feed_120 := rfl
theorem hnX11_feed_120 : (120 ∈ [23]) = False := eq_false (by decide)
theorem bkX11_byteAt_0 : blk BX11_byteAt 0 = some bX11_byteAt_0 := rfl
theorem bkX11_byteAt_17 : blk BX11_byteAt 17 = some bX11_byteAt_17 := rfl
theorem bkX11_byteAt_18 : blk BX11_byteAt 18 = some bX11_byteAt_18 := rfl
theorem bkX11_isLetter_0 : blk BX11_isLetter 0 = some bX11_isLetter_0 := rfl
theorem bkX11_isLetter_16 : blk BX11_isLetter 16 = some bX11_isLetter_16 := rfl
theorem bkX11_isLetter_17 : blk BX11_isLetter 17 = some bX11_isLetter_17 := rfl
theorem bkX11_isDigit_0 : blk BX11_isDigit 0 = some bX11_isDigit_0 := rfl
theorem bkX11_isDigit_16 : blk BX11_isDigit 16 = some bX11_isDigit_16 := rfl
theorem bkX11_isDigit_17 : blk BX11_isDigit 17 = some bX11_isDigit_17 := rfl
theorem bkX11_isMark_0 : blk BX11_isMark 0 = some bX11_isMark_0 := rfl
theorem bkX11_isMark_54 : blk BX11_isMark 54 = some bX11_isMark_54 := rfl
theorem bkX11_isMark_58 : blk BX11_isMark 58 = some bX11_isMark_58 := rfl
theorem bkX11_isMark_59 : blk BX11_isMark 59 = some bX11_isMark_59 := rfl
theorem bkX11_stepOn_0 : blk BX11_stepOn 0 = some bX11_stepOn_0 := rfl
theorem hnX11_stepOn_0 : (0 ∈ [0, 76, 123]) = True := eq_true (by decide)
theorem bkX11_stepOn_26 : blk BX11_stepOn 26 = some bX11_stepOn_26 := rfl
theorem hnX11_stepOn_26 : (26 ∈ [0, 76, 123]) = False := eq_false (by decide)
theorem bkX11_stepOn_39 : blk BX11_stepOn 39 = some bX11_stepOn_39 := rfl
theorem hnX11_stepOn_39 : (39 ∈ [0, 76, 123]) = False := eq_false (by decide)
theorem bkX11_stepOn_69 : blk BX11_stepOn 69 = some bX11_stepOn_69 := rfl
theorem hnX11_stepOn_69 : (69 ∈ [0, 76, 123]) = False := eq_false (by decide)
theorem bkX11_stepOn_76 : blk BX11_stepOn 76 = some bX11_stepOn_76 := rfl
theorem hnX11_stepOn_76 : (76 ∈ [0, 76, 123]) = True := eq_true (by decide)
theorem bkX11_stepOn_103 : blk BX11_stepOn 103 = some bX11_stepOn_103 := rfl
theorem hnX11_stepOn_103 : (103 ∈ [0, 76, 123]) = False := eq_false (by decide)
theorem bkX11_stepOn_111 : blk BX11_stepOn 111 = some bX11_stepOn_111 := rfl
theorem hnX11_stepOn_111 : (111 ∈ [0, 76, 123]) = False := eq_false (by decide)
theorem bkX11_stepOn_123 : blk BX11_stepOn 123 = some bX11_stepOn_123 := rfl
theorem hnX11_stepOn_123 : (123 ∈ [0, 76, 123]) = True := eq_true (by decide)
theorem bkX11_stepOn_178 : blk BX11_stepOn 178 = some bX11_stepOn_178 := rfl
theorem hnX11_stepOn_178 : (178 ∈ [0, 76, 123]) = False := eq_false (by decide)
theorem bkX11_stepOn_186 : blk BX11_stepOn 186 = some bX11_stepOn_186 := rfl
theorem hnX11_stepOn_186 : (186 ∈ [0, 76, 123]) = False := eq_false (by decide)
theorem bkX11_stepOn_208 : blk BX11_stepOn 208 = some bX11_stepOn_208 := rfl
theorem hnX11_stepOn_208 : (208 ∈ [0, 76, 123]) = False := eq_false (by decide)
theorem bkX11_stepOn_209 : blk BX11_stepOn 209 = some bX11_stepOn_209 := rfl
theorem hnX11_stepOn_209 : (209 ∈ [0, 76, 123]) = False := eq_false (by decide)
theorem bkX11_stepOn_212 : blk BX11_stepOn 212 = some bX11_stepOn_212 := rfl
theorem hnX11_stepOn_212 : (212 ∈ [0, 76, 123]) = False := eq_false (by decide)
theorem bkX11_wrong_0 : blk BX11_wrong 0 = some bX11_wrong_0 := rfl
theorem bkX11_wrong_8 : blk BX11_wrong 8 = some bX11_wrong_8 := rfl
theorem bkX11_is_0 : blk BX11_is 0 = some bX11_is_0 := rfl
theorem hnX11_is_0 : (0 ∈ [39]) = False := eq_false (by decide)
theorem bkX11_is_35 : blk BX11_is 35 = some bX11_is_35 := rfl
theorem hnX11_is_35 : (35 ∈ [39]) = False := eq_false (by decide)
theorem bkX11_is_36 : blk BX11_is 36 = some bX11_is_36 := rfl
theorem hnX11_is_36 : (36 ∈ [39]) = False := eq_false (by decide)
theorem bkX11_is_39 : blk BX11_is 39 = some bX11_is_39 := rfl
theorem hnX11_is_39 : (39 ∈ [39]) = True := eq_true (by decide)
theorem bkX11_is_74 : blk BX11_is 74 = some bX11_is_74 := rfl
theorem hnX11_is_74 : (74 ∈ [39]) = False := eq_false (by decide)
theorem bkX11_is_75 : blk BX11_is 75 = some bX11_is_75 := rfl
theorem hnX11_is_75 : (75 ∈ [39]) = False := eq_false (by decide)
theorem bkX11_is_82 : blk BX11_is 82 = some bX11_is_82 := rfl
theorem hnX11_is_82 : (82 ∈ [39]) = False := eq_false (by decide)
theorem bkX11_which_0 : blk BX11_which 0 = some bX11_which_0 := rfl
theorem hnX11_which_0 : (0 ∈ [2]) = False := eq_false (by decide)
theorem bkX11_which_2 : blk BX11_which 2 = some bX11_which_2 := rfl
theorem hnX11_which_2 : (2 ∈ [2]) = True := eq_true (by decide)
theorem bkX11_which_20 : blk BX11_which 20 = some bX11_which_20 := rfl
theorem hnX11_which_20 : (20 ∈ [2]) = False := eq_false (by decide)
theorem bkX11_which_26 : blk BX11_which 26 = some bX11_which_26 := rfl
theorem hnX11_which_26 : (26 ∈ [2]) = False := eq_false (by decide)
theorem bkX11_isMarked_0 : blk BX11_isMarked 0 = some bX11_isMarked_0 := rfl
theorem bkX11_isMarked_32 : blk BX11_isMarked 32 = some bX11_isMarked_32 := rfl
theorem bkX11_isMarked_33 : blk BX11_isMarked 33 = some bX11_isMarked_33 := rfl
theorem bkX11_mark_0 : blk BX11_mark 0 = some bX11_mark_0 := rfl
theorem bkX11_mark_20 : blk BX11_mark 20 = some bX11_mark_20 := rfl
theorem bkX11_mark_31 : blk BX11_mark 31 = some bX11_mark_31 := rfl
theorem bkX11_numberNow_0 : blk BX11_numberNow 0 = some bX11_numberNow_0 := rfl
theorem bkX11_numberNow_9 : blk BX11_numberNow 9 = some bX11_numberNow_9 := rfl
theorem bkX11_numberNow_25 : blk BX11_numberNow 25 = some bX11_numberNow_25 := rfl
theorem bkX11_numberNow_54 : blk BX11_numberNow 54 = some bX11_numberNow_54 := rfl
theorem bkX11_numberNow_59 : blk BX11_numberNow 59 = some bX11_numberNow_59 := rfl
theorem bkX11_numberNow_73 : blk BX11_numberNow 73 = some bX11_numberNow_73 := rfl
theorem bkX11_numberNow_74 : blk BX11_numberNow 74 = some bX11_numberNow_74 := rfl
theorem bkX11_readNumber_0 : blk BX11_readNumber 0 = some bX11_readNumber_0 := rfl
theorem bkX11_readNumber_18 : blk BX11_readNumber 18 = some bX11_readNumber_18 := rfl
theorem bkX11_lay_0 : blk BX11_lay 0 = some bX11_lay_0 := rfl
theorem bkX11_lay_8 : blk BX11_lay 8 = some bX11_lay_8 := rfl
theorem bkX11_lay_20 : blk BX11_lay 20 = some bX11_lay_20 := rfl
theorem bkX11_lay_21 : blk BX11_lay 21 = some bX11_lay_21 := rfl
theorem bkX11_lay_37 : blk BX11_lay 37 = some bX11_lay_37 := rfl
theorem bkX11_lay_41 : blk BX11_lay 41 = some bX11_lay_41 := rfl
theorem bkX11_readPart_0 : blk BX11_readPart 0 = some bX11_readPart_0 := rfl
theorem bkX11_readPart_8 : blk BX11_readPart 8 = some bX11_readPart_8 := rfl
theorem bkX11_readPart_29 : blk BX11_readPart 29 = some bX11_readPart_29 := rfl
theorem bkX11_readPart_56 : blk BX11_readPart 56 = some bX11_readPart_56 := rfl
theorem bkX11_readPart_74 : blk BX11_readPart 74 = some bX11_readPart_74 := rfl
theorem bkX11_readPart_75 : blk BX11_readPart 75 = some bX11_readPart_75 := rfl
theorem bkX11_readProduct_0 : blk BX11_readProduct 0 = some bX11_readProduct_0 := rfl
theorem hnX11_readProduct_0 : (0 ∈ [5]) = False := eq_false (by decide)
theorem bkX11_readProduct_5 : blk BX11_readProduct 5 = some bX11_readProduct_5 := rfl
theorem hnX11_readProduct_5 : (5 ∈ [5]) = True := eq_true (by decide)
theorem bkX11_readProduct_23 : blk BX11_readProduct 23 = some bX11_readProduct_23 := rfl
theorem hnX11_readProduct_23 : (23 ∈ [5]) = False := eq_false (by decide)
theorem bkX11_readProduct_37 : blk BX11_readProduct 37 = some bX11_readProduct_37 := rfl
theorem hnX11_readProduct_37 : (37 ∈ [5]) = False := eq_false (by decide)
theorem bkX11_readProduct_39 : blk BX11_readProduct 39 = some bX11_readProduct_39 := rfl
theorem hnX11_readProduct_39 : (39 ∈ [5]) = False := eq_false (by decide)
theorem bkX11_readProduct_57 : blk BX11_readProduct 57 = some bX11_readProduct_57 := rfl
theorem hnX11_readProduct_57 : (57 ∈ [5]) = False := eq_false (by decide)
theorem bkX11_readSum_0 : blk BX11_readSum 0 = some bX11_readSum_0 := rfl
theorem hnX11_readSum_0 : (0 ∈ [5]) = False := eq_false (by decide)
theorem bkX11_readSum_5 : blk BX11_readSum 5 = some bX11_readSum_5 := rfl
theorem hnX11_readSum_5 : (5 ∈ [5]) = True := eq_true (by decide)
theorem bkX11_readSum_23 : blk BX11_readSum 23 = some bX11_readSum_23 := rfl
theorem hnX11_readSum_23 : (23 ∈ [5]) = False := eq_false (by decide)
theorem bkX11_readSum_37 : blk BX11_readSum 37 = some bX11_readSum_37 := rfl
theorem hnX11_readSum_37 : (37 ∈ [5]) = False := eq_false (by decide)
theorem bkX11_readSum_39 : blk BX11_readSum 39 = some bX11_readSum_39 := rfl
theorem hnX11_readSum_39 : (39 ∈ [5]) = False := eq_false (by decide)
theorem bkX11_readSum_57 : blk BX11_readSum 57 = some bX11_readSum_57 := rfl
theorem hnX11_readSum_57 : (57 ∈ [5]) = False := eq_false (by decide)
theorem bkX11_readNot_0 : blk BX11_readNot 0 = some bX11_readNot_0 := rfl
theorem hnX11_readNot_0 : (0 ∈ [2, 95]) = False := eq_false (by decide)
theorem bkX11_readNot_2 : blk BX11_readNot 2 = some bX11_readNot_2 := rfl
theorem hnX11_readNot_2 : (2 ∈ [2, 95]) = True := eq_true (by decide)
theorem bkX11_readNot_22 : blk BX11_readNot 22 = some bX11_readNot_22 := rfl
theorem hnX11_readNot_22 : (22 ∈ [2, 95]) = False := eq_false (by decide)
theorem bkX11_readNot_39 : blk BX11_readNot 39 = some bX11_readNot_39 := rfl
theorem hnX11_readNot_39 : (39 ∈ [2, 95]) = False := eq_false (by decide)
theorem bkX11_readNot_62 : blk BX11_readNot 62 = some bX11_readNot_62 := rfl
theorem hnX11_readNot_62 : (62 ∈ [2, 95]) = False := eq_false (by decide)
theorem bkX11_readNot_76 : blk BX11_readNot 76 = some bX11_readNot_76 := rfl
theorem hnX11_readNot_76 : (76 ∈ [2, 95]) = False := eq_false (by decide)
theorem bkX11_readNot_78 : blk BX11_readNot 78 = some bX11_readNot_78 := rfl
theorem hnX11_readNot_78 : (78 ∈ [2, 95]) = False := eq_false (by decide)
theorem bkX11_readNot_93 : blk BX11_readNot 93 = some bX11_readNot_93 := rfl
theorem hnX11_readNot_93 : (93 ∈ [2, 95]) = False := eq_false (by decide)
theorem bkX11_readNot_95 : blk BX11_readNot 95 = some bX11_readNot_95 := rfl
theorem hnX11_readNot_95 : (95 ∈ [2, 95]) = True := eq_true (by decide)
theorem bkX11_readNot_112 : blk BX11_readNot 112 = some bX11_readNot_112 := rfl
theorem hnX11_readNot_112 : (112 ∈ [2, 95]) = False := eq_false (by decide)
theorem bkX11_readAnd_0 : blk BX11_readAnd 0 = some bX11_readAnd_0 := rfl
theorem hnX11_readAnd_0 : (0 ∈ [5]) = False := eq_false (by decide)
theorem bkX11_readAnd_5 : blk BX11_readAnd 5 = some bX11_readAnd_5 := rfl
theorem hnX11_readAnd_5 : (5 ∈ [5]) = True := eq_true (by decide)
theorem bkX11_readAnd_32 : blk BX11_readAnd 32 = some bX11_readAnd_32 := rfl
theorem hnX11_readAnd_32 : (32 ∈ [5]) = False := eq_false (by decide)
theorem bkX11_readExpression_0 : blk BX11_readExpression 0 = some bX11_readExpression_0 := rfl
theorem hnX11_readExpression_0 : (0 ∈ [67]) = False := eq_false (by decide)
theorem bkX11_readExpression_8 : blk BX11_readExpression 8 = some bX11_readExpression_8 := rfl
theorem hnX11_readExpression_8 : (8 ∈ [67]) = False := eq_false (by decide)
theorem bkX11_readExpression_33 : blk BX11_readExpression 33 = some bX11_readExpression_33 := rfl
theorem hnX11_readExpression_33 : (33 ∈ [67]) = False := eq_false (by decide)
theorem bkX11_readExpression_37 : blk BX11_readExpression 37 = some bX11_readExpression_37 := rfl
theorem hnX11_readExpression_37 : (37 ∈ [67]) = False := eq_false (by decide)
theorem bkX11_readExpression_38 : blk BX11_readExpression 38 = some bX11_readExpression_38 := rfl
theorem hnX11_readExpression_38 : (38 ∈ [67]) = False := eq_false (by decide)
theorem bkX11_readExpression_51 : blk BX11_readExpression 51 = some bX11_readExpression_51 := rfl
theorem hnX11_readExpression_51 : (51 ∈ [67]) = False := eq_false (by decide)
theorem bkX11_readExpression_62 : blk BX11_readExpression 62 = some bX11_readExpression_62 := rfl
theorem hnX11_readExpression_62 : (62 ∈ [67]) = False := eq_false (by decide)
theorem bkX11_readExpression_67 : blk BX11_readExpression 67 = some bX11_readExpression_67 := rfl
theorem hnX11_readExpression_67 : (67 ∈ [67]) = True := eq_true (by decide)
theorem bkX11_readExpression_95 : blk BX11_readExpression 95 = some bX11_readExpression_95 := rfl
theorem hnX11_readExpression_95 : (95 ∈ [67]) = False := eq_false (by decide)
theorem bkX11_another_0 : blk BX11_another 0 = some bX11_another_0 := rfl
theorem bkX11_another_17 : blk BX11_another 17 = some bX11_another_17 := rfl
theorem bkX11_another_26 : blk BX11_another 26 = some bX11_another_26 := rfl
theorem bkX11_sayPerson_0 : blk BX11_sayPerson 0 = some bX11_sayPerson_0 := rfl
theorem bkX11_sayPerson_11 : blk BX11_sayPerson 11 = some bX11_sayPerson_11 := rfl
theorem bkX11_sayPerson_109 : blk BX11_sayPerson 109 = some bX11_sayPerson_109 := rfl
theorem bkX11_sayPerson_120 : blk BX11_sayPerson 120 = some bX11_sayPerson_120 := rfl
theorem bkX11_sayPerson_130 : blk BX11_sayPerson 130 = some bX11_sayPerson_130 := rfl
theorem bkX11_sayCoin_0 : blk BX11_sayCoin 0 = some bX11_sayCoin_0 := rfl
theorem bkX11_sayCoin_11 : blk BX11_sayCoin 11 = some bX11_sayCoin_11 := rfl
theorem bkX11_sayCoin_66 : blk BX11_sayCoin 66 = some bX11_sayCoin_66 := rfl
theorem bkX11_sayCoin_77 : blk BX11_sayCoin 77 = some bX11_sayCoin_77 := rfl
theorem bkX11_sayOnce_0 : blk BX11_sayOnce 0 = some bX11_sayOnce_0 := rfl
theorem bkX11_sayOnce_24 : blk BX11_sayOnce 24 = some bX11_sayOnce_24 := rfl
theorem bkX11_sayOnce_34 : blk BX11_sayOnce 34 = some bX11_sayOnce_34 := rfl
theorem bkX11_sayOnce_35 : blk BX11_sayOnce 35 = some bX11_sayOnce_35 := rfl
theorem bkX11_sayOnce_53 : blk BX11_sayOnce 53 = some bX11_sayOnce_53 := rfl
theorem bkX11_sayOnce_57 : blk BX11_sayOnce 57 = some bX11_sayOnce_57 := rfl
theorem bkX11_readLine_0 : blk BX11_readLine 0 = some bX11_readLine_0 := rfl
theorem bkX11_readLine_23 : blk BX11_readLine 23 = some bX11_readLine_23 := rfl
theorem bkX11_readLine_37 : blk BX11_readLine 37 = some bX11_readLine_37 := rfl
theorem bkX11_readLine_51 : blk BX11_readLine 51 = some bX11_readLine_51 := rfl
theorem bkX11_readLine_52 : blk BX11_readLine 52 = some bX11_readLine_52 := rfl
theorem bkX11_readLine_64 : blk BX11_readLine 64 = some bX11_readLine_64 := rfl
theorem bkX11_readLine_83 : blk BX11_readLine 83 = some bX11_readLine_83 := rfl
theorem bkX11_readLine_96 : blk BX11_readLine 96 = some bX11_readLine_96 := rfl
theorem bkX11_readLine_113 : blk BX11_readLine 113 = some bX11_readLine_113 := rfl
theorem bkX11_readLine_118 : blk BX11_readLine 118 = some bX11_readLine_118 := rfl
theorem bkX11_mint_0 : blk BX11_mint 0 = some bX11_mint_0 := rfl
theorem hnX11_mint_0 : (0 ∈ [50, 85]) = False := eq_false (by decide)
theorem bkX11_mint_17 : blk BX11_mint 17 = some bX11_mint_17 := rfl
theorem hnX11_mint_17 : (17 ∈ [50, 85]) = False := eq_false (by decide)
theorem bkX11_mint_23 : blk BX11_mint 23 = some bX11_mint_23 := rfl
theorem hnX11_mint_23 : (23 ∈ [50, 85]) = False := eq_false (by decide)
theorem bkX11_mint_50 : blk BX11_mint 50 = some bX11_mint_50 := rfl
theorem hnX11_mint_50 : (50 ∈ [50, 85]) = True := eq_true (by decide)
theorem bkX11_mint_71 : blk BX11_mint 71 = some bX11_mint_71 := rfl
theorem hnX11_mint_71 : (71 ∈ [50, 85]) = False := eq_false (by decide)
theorem bkX11_mint_72 : blk BX11_mint 72 = some bX11_mint_72 := rfl
theorem hnX11_mint_72 : (72 ∈ [50, 85]) = False := eq_false (by decide)
theorem bkX11_mint_79 : blk BX11_mint 79 = some bX11_mint_79 := rfl
theorem hnX11_mint_79 : (79 ∈ [50, 85]) = False := eq_false (by decide)
theorem bkX11_mint_85 : blk BX11_mint 85 = some bX11_mint_85 := rfl
theorem hnX11_mint_85 : (85 ∈ [50, 85]) = True := eq_true (by decide)
theorem bkX11_mint_108 : blk BX11_mint 108 = some bX11_mint_108 := rfl
theorem hnX11_mint_108 : (108 ∈ [50, 85]) = False := eq_false (by decide)
theorem bkX11_mint_138 : blk BX11_mint 138 = some bX11_mint_138 := rfl
theorem hnX11_mint_138 : (138 ∈ [50, 85]) = False := eq_false (by decide)
theorem bkX11_takeHalf_0 : blk BX11_takeHalf 0 = some bX11_takeHalf_0 := rfl
theorem hnX11_takeHalf_0 : (0 ∈ [2]) = False := eq_false (by decide)
theorem bkX11_takeHalf_2 : blk BX11_takeHalf 2 = some bX11_takeHalf_2 := rfl
theorem hnX11_takeHalf_2 : (2 ∈ [2]) = True := eq_true (by decide)
theorem bkX11_takeHalf_27 : blk BX11_takeHalf 27 = some bX11_takeHalf_27 := rfl
theorem hnX11_takeHalf_27 : (27 ∈ [2]) = False := eq_false (by decide)
theorem bkX11_takeOver_0 : blk BX11_takeOver 0 = some bX11_takeOver_0 := rfl
theorem hnX11_takeOver_0 : (0 ∈ [90, 195]) = False := eq_false (by decide)
theorem bkX11_takeOver_90 : blk BX11_takeOver 90 = some bX11_takeOver_90 := rfl
theorem hnX11_takeOver_90 : (90 ∈ [90, 195]) = True := eq_true (by decide)
theorem bkX11_takeOver_110 : blk BX11_takeOver 110 = some bX11_takeOver_110 := rfl
theorem hnX11_takeOver_110 : (110 ∈ [90, 195]) = False := eq_false (by decide)
theorem bkX11_takeOver_111 : blk BX11_takeOver 111 = some bX11_takeOver_111 := rfl
theorem hnX11_takeOver_111 : (111 ∈ [90, 195]) = False := eq_false (by decide)
theorem bkX11_takeOver_130 : blk BX11_takeOver 130 = some bX11_takeOver_130 := rfl
theorem hnX11_takeOver_130 : (130 ∈ [90, 195]) = False := eq_false (by decide)
theorem bkX11_takeOver_131 : blk BX11_takeOver 131 = some bX11_takeOver_131 := rfl
theorem hnX11_takeOver_131 : (131 ∈ [90, 195]) = False := eq_false (by decide)
theorem bkX11_takeOver_150 : blk BX11_takeOver 150 = some bX11_takeOver_150 := rfl
theorem hnX11_takeOver_150 : (150 ∈ [90, 195]) = False := eq_false (by decide)
theorem bkX11_takeOver_151 : blk BX11_takeOver 151 = some bX11_takeOver_151 := rfl
theorem hnX11_takeOver_151 : (151 ∈ [90, 195]) = False := eq_false (by decide)
theorem bkX11_takeOver_185 : blk BX11_takeOver 185 = some bX11_takeOver_185 := rfl
theorem hnX11_takeOver_185 : (185 ∈ [90, 195]) = False := eq_false (by decide)
theorem bkX11_takeOver_186 : blk BX11_takeOver 186 = some bX11_takeOver_186 := rfl
theorem hnX11_takeOver_186 : (186 ∈ [90, 195]) = False := eq_false (by decide)
theorem bkX11_takeOver_193 : blk BX11_takeOver 193 = some bX11_takeOver_193 := rfl
theorem hnX11_takeOver_193 : (193 ∈ [90, 195]) = False := eq_false (by decide)
theorem bkX11_takeOver_195 : blk BX11_takeOver 195 = some bX11_takeOver_195 := rfl
theorem hnX11_takeOver_195 : (195 ∈ [90, 195]) = True := eq_true (by decide)
theorem bkX11_takeOver_223 : blk BX11_takeOver 223 = some bX11_takeOver_223 := rfl
theorem hnX11_takeOver_223 : (223 ∈ [90, 195]) = False := eq_false (by decide)
theorem bkX11_takeOver_224 : blk BX11_takeOver 224 = some bX11_takeOver_224 := rfl
theorem hnX11_takeOver_224 : (224 ∈ [90, 195]) = False := eq_false (by decide)
theorem bkX11_takeOver_247 : blk BX11_takeOver 247 = some bX11_takeOver_247 := rfl
theorem hnX11_takeOver_247 : (247 ∈ [90, 195]) = False := eq_false (by decide)
theorem bkX11_takeOver_248 : blk BX11_takeOver 248 = some bX11_takeOver_248 := rfl
theorem hnX11_takeOver_248 : (248 ∈ [90, 195]) = False := eq_false (by decide)
theorem bkX11_takeOver_255 : blk BX11_takeOver 255 = some bX11_takeOver_255 := rfl
theorem hnX11_takeOver_255 : (255 ∈ [90, 195]) = False := eq_false (by decide)
theorem bkX11_fault_0 : blk BX11_fault 0 = some bX11_fault_0 := rfl
theorem bkX11_pack_0 : blk BX11_pack 0 = some bX11_pack_0 := rfl
theorem hnX11_pack_0 : (0 ∈ [36, 79]) = False := eq_false (by decide)
theorem bkX11_pack_36 : blk BX11_pack 36 = some bX11_pack_36 := rfl
theorem hnX11_pack_36 : (36 ∈ [36, 79]) = True := eq_true (by decide)
theorem bkX11_pack_77 : blk BX11_pack 77 = some bX11_pack_77 := rfl
theorem hnX11_pack_77 : (77 ∈ [36, 79]) = False := eq_false (by decide)
theorem bkX11_pack_79 : blk BX11_pack 79 = some bX11_pack_79 := rfl
theorem hnX11_pack_79 : (79 ∈ [36, 79]) = True := eq_true (by decide)
theorem bkX11_pack_126 : blk BX11_pack 126 = some bX11_pack_126 := rfl
theorem hnX11_pack_126 : (126 ∈ [36, 79]) = False := eq_false (by decide)
theorem bkX11_unpack_0 : blk BX11_unpack 0 = some bX11_unpack_0 := rfl
theorem hnX11_unpack_0 : (0 ∈ [36, 79]) = False := eq_false (by decide)
theorem bkX11_unpack_36 : blk BX11_unpack 36 = some bX11_unpack_36 := rfl
theorem hnX11_unpack_36 : (36 ∈ [36, 79]) = True := eq_true (by decide)
theorem bkX11_unpack_77 : blk BX11_unpack 77 = some bX11_unpack_77 := rfl
theorem hnX11_unpack_77 : (77 ∈ [36, 79]) = False := eq_false (by decide)
theorem bkX11_unpack_79 : blk BX11_unpack 79 = some bX11_unpack_79 := rfl
theorem hnX11_unpack_79 : (79 ∈ [36, 79]) = True := eq_true (by decide)
theorem bkX11_unpack_126 : blk BX11_unpack 126 = some bX11_unpack_126 := rfl
theorem hnX11_unpack_126 : (126 ∈ [36, 79]) = False := eq_false (by decide)
theorem bkX11_hasNow_0 : blk BX11_hasNow 0 = some bX11_hasNow_0 := rfl
theorem hnX11_hasNow_0 : (0 ∈ [4]) = False := eq_false (by decide)
theorem bkX11_hasNow_4 : blk BX11_hasNow 4 = some bX11_hasNow_4 := rfl
theorem hnX11_hasNow_4 : (4 ∈ [4]) = True := eq_true (by decide)
theorem bkX11_hasNow_32 : blk BX11_hasNow 32 = some bX11_hasNow_32 := rfl
theorem hnX11_hasNow_32 : (32 ∈ [4]) = False := eq_false (by decide)
theorem bkX11_hasNow_33 : blk BX11_hasNow 33 = some bX11_hasNow_33 := rfl
theorem hnX11_hasNow_33 : (33 ∈ [4]) = False := eq_false (by decide)
theorem bkX11_hasNow_41 : blk BX11_hasNow 41 = some bX11_hasNow_41 := rfl
theorem hnX11_hasNow_41 : (41 ∈ [4]) = False := eq_false (by decide)
theorem bkX11_heldBy_0 : blk BX11_heldBy 0 = some bX11_heldBy_0 := rfl
theorem hnX11_heldBy_0 : (0 ∈ [4]) = False := eq_false (by decide)
theorem bkX11_heldBy_4 : blk BX11_heldBy 4 = some bX11_heldBy_4 := rfl
theorem hnX11_heldBy_4 : (4 ∈ [4]) = True := eq_true (by decide)
theorem bkX11_heldBy_29 : blk BX11_heldBy 29 = some bX11_heldBy_29 := rfl
theorem hnX11_heldBy_29 : (29 ∈ [4]) = False := eq_false (by decide)
theorem bkX11_heldBy_30 : blk BX11_heldBy 30 = some bX11_heldBy_30 := rfl
theorem hnX11_heldBy_30 : (30 ∈ [4]) = False := eq_false (by decide)
theorem bkX11_heldBy_38 : blk BX11_heldBy 38 = some bX11_heldBy_38 := rfl
theorem hnX11_heldBy_38 : (38 ∈ [4]) = False := eq_false (by decide)
theorem bkX11_gifts_0 : blk BX11_gifts 0 = some bX11_gifts_0 := rfl
theorem hnX11_gifts_0 : (0 ∈ [4]) = False := eq_false (by decide)
theorem bkX11_gifts_4 : blk BX11_gifts 4 = some bX11_gifts_4 := rfl
theorem hnX11_gifts_4 : (4 ∈ [4]) = True := eq_true (by decide)
theorem bkX11_gifts_28 : blk BX11_gifts 28 = some bX11_gifts_28 := rfl
theorem hnX11_gifts_28 : (28 ∈ [4]) = False := eq_false (by decide)
theorem bkX11_gifts_29 : blk BX11_gifts 29 = some bX11_gifts_29 := rfl
theorem hnX11_gifts_29 : (29 ∈ [4]) = False := eq_false (by decide)
theorem bkX11_gifts_37 : blk BX11_gifts 37 = some bX11_gifts_37 := rfl
theorem hnX11_gifts_37 : (37 ∈ [4]) = False := eq_false (by decide)
theorem bkX11_poorest_0 : blk BX11_poorest 0 = some bX11_poorest_0 := rfl
theorem hnX11_poorest_0 : (0 ∈ [8]) = False := eq_false (by decide)
theorem bkX11_poorest_8 : blk BX11_poorest 8 = some bX11_poorest_8 := rfl
theorem hnX11_poorest_8 : (8 ∈ [8]) = True := eq_true (by decide)
theorem bkX11_poorest_38 : blk BX11_poorest 38 = some bX11_poorest_38 := rfl
theorem hnX11_poorest_38 : (38 ∈ [8]) = False := eq_false (by decide)
theorem bkX11_poorest_43 : blk BX11_poorest 43 = some bX11_poorest_43 := rfl
theorem hnX11_poorest_43 : (43 ∈ [8]) = False := eq_false (by decide)
theorem bkX11_poorest_54 : blk BX11_poorest 54 = some bX11_poorest_54 := rfl
theorem hnX11_poorest_54 : (54 ∈ [8]) = False := eq_false (by decide)
theorem bkX11_poorest_59 : blk BX11_poorest 59 = some bX11_poorest_59 := rfl
theorem hnX11_poorest_59 : (59 ∈ [8]) = False := eq_false (by decide)
theorem bkX11_poorest_65 : blk BX11_poorest 65 = some bX11_poorest_65 := rfl
theorem hnX11_poorest_65 : (65 ∈ [8]) = False := eq_false (by decide)
theorem bkX11_richest_0 : blk BX11_richest 0 = some bX11_richest_0 := rfl
theorem hnX11_richest_0 : (0 ∈ [6]) = False := eq_false (by decide)
theorem bkX11_richest_6 : blk BX11_richest 6 = some bX11_richest_6 := rfl
theorem hnX11_richest_6 : (6 ∈ [6]) = True := eq_true (by decide)
theorem bkX11_richest_28 : blk BX11_richest 28 = some bX11_richest_28 := rfl
theorem hnX11_richest_28 : (28 ∈ [6]) = False := eq_false (by decide)
theorem bkX11_richest_36 : blk BX11_richest 36 = some bX11_richest_36 := rfl
theorem hnX11_richest_36 : (36 ∈ [6]) = False := eq_false (by decide)
theorem bkX11_richest_42 : blk BX11_richest 42 = some bX11_richest_42 := rfl
theorem hnX11_richest_42 : (42 ∈ [6]) = False := eq_false (by decide)
theorem bkX11_reckon_0 : blk BX11_reckon 0 = some bX11_reckon_0 := rfl
theorem bkX11_reckon_44 : blk BX11_reckon 44 = some bX11_reckon_44 := rfl
theorem bkX11_reckon_48 : blk BX11_reckon 48 = some bX11_reckon_48 := rfl
theorem bkX11_reckon_52 : blk BX11_reckon 52 = some bX11_reckon_52 := rfl
theorem bkX11_reckon_56 : blk BX11_reckon 56 = some bX11_reckon_56 := rfl
theorem bkX11_reckon_64 : blk BX11_reckon 64 = some bX11_reckon_64 := rfl
theorem bkX11_reckon_67 : blk BX11_reckon 67 = some bX11_reckon_67 := rfl
theorem bkX11_reckon_68 : blk BX11_reckon 68 = some bX11_reckon_68 := rfl
theorem bkX11_reckon_77 : blk BX11_reckon 77 = some bX11_reckon_77 := rfl
theorem bkX11_reckon_78 : blk BX11_reckon 78 = some bX11_reckon_78 := rfl
theorem bkX11_reckon_79 : blk BX11_reckon 79 = some bX11_reckon_79 := rfl
theorem bkX11_reckon_88 : blk BX11_reckon 88 = some bX11_reckon_88 := rfl
theorem bkX11_reckon_89 : blk BX11_reckon 89 = some bX11_reckon_89 := rfl
theorem bkX11_reckon_90 : blk BX11_reckon 90 = some bX11_reckon_90 := rfl
theorem bkX11_reckon_102 : blk BX11_reckon 102 = some bX11_reckon_102 := rfl
theorem bkX11_reckon_103 : blk BX11_reckon 103 = some bX11_reckon_103 := rfl
theorem bkX11_reckon_104 : blk BX11_reckon 104 = some bX11_reckon_104 := rfl
theorem bkX11_reckon_112 : blk BX11_reckon 112 = some bX11_reckon_112 := rfl
theorem bkX11_reckon_116 : blk BX11_reckon 116 = some bX11_reckon_116 := rfl
theorem bkX11_reckon_117 : blk BX11_reckon 117 = some bX11_reckon_117 := rfl
theorem bkX11_valueNow_0 : blk BX11_valueNow 0 = some bX11_valueNow_0 := rfl
theorem hnX11_valueNow_0 : (0 ∈ [5]) = False := eq_false (by decide)
theorem bkX11_valueNow_5 : blk BX11_valueNow 5 = some bX11_valueNow_5 := rfl
theorem hnX11_valueNow_5 : (5 ∈ [5]) = True := eq_true (by decide)
theorem bkX11_valueNow_39 : blk BX11_valueNow 39 = some bX11_valueNow_39 := rfl
theorem hnX11_valueNow_39 : (39 ∈ [5]) = False := eq_false (by decide)
theorem bkX11_valueNow_48 : blk BX11_valueNow 48 = some bX11_valueNow_48 := rfl
theorem hnX11_valueNow_48 : (48 ∈ [5]) = False := eq_false (by decide)
theorem bkX11_valueNow_55 : blk BX11_valueNow 55 = some bX11_valueNow_55 := rfl
theorem hnX11_valueNow_55 : (55 ∈ [5]) = False := eq_false (by decide)
theorem bkX11_valueNow_84 : blk BX11_valueNow 84 = some bX11_valueNow_84 := rfl
theorem hnX11_valueNow_84 : (84 ∈ [5]) = False := eq_false (by decide)
theorem bkX11_valueNow_85 : blk BX11_valueNow 85 = some bX11_valueNow_85 := rfl
theorem hnX11_valueNow_85 : (85 ∈ [5]) = False := eq_false (by decide)
theorem bkX11_valueNow_89 : blk BX11_valueNow 89 = some bX11_valueNow_89 := rfl
theorem hnX11_valueNow_89 : (89 ∈ [5]) = False := eq_false (by decide)
theorem bkX11_valueNow_119 : blk BX11_valueNow 119 = some bX11_valueNow_119 := rfl
theorem hnX11_valueNow_119 : (119 ∈ [5]) = False := eq_false (by decide)
theorem bkX11_valueNow_125 : blk BX11_valueNow 125 = some bX11_valueNow_125 := rfl
theorem hnX11_valueNow_125 : (125 ∈ [5]) = False := eq_false (by decide)
theorem bkX11_layValues_0 : blk BX11_layValues 0 = some bX11_layValues_0 := rfl
theorem bkX11_namesOf_0 : blk BX11_namesOf 0 = some bX11_namesOf_0 := rfl
theorem bkX11_namesOf_57 : blk BX11_namesOf 57 = some bX11_namesOf_57 := rfl
theorem bkX11_spends_0 : blk BX11_spends 0 = some bX11_spends_0 := rfl
theorem bkX11_spends_36 : blk BX11_spends 36 = some bX11_spends_36 := rfl
theorem bkX11_spends_37 : blk BX11_spends 37 = some bX11_spends_37 := rfl
theorem bkX11_spends_38 : blk BX11_spends 38 = some bX11_spends_38 := rfl
theorem bkX11_spends_92 : blk BX11_spends 92 = some bX11_spends_92 := rfl
theorem bkX11_spends_93 : blk BX11_spends 93 = some bX11_spends_93 := rfl
theorem bkX11_mintOne_0 : blk BX11_mintOne 0 = some bX11_mintOne_0 := rfl
theorem bkX11_mintOne_52 : blk BX11_mintOne 52 = some bX11_mintOne_52 := rfl
theorem bkX11_mintOne_53 : blk BX11_mintOne 53 = some bX11_mintOne_53 := rfl
theorem bkX11_passOn_0 : blk BX11_passOn 0 = some bX11_passOn_0 := rfl
theorem bkX11_passOn_15 : blk BX11_passOn 15 = some bX11_passOn_15 := rfl
theorem bkX11_passOn_26 : blk BX11_passOn 26 = some bX11_passOn_26 := rfl
theorem bkX11_passOn_49 : blk BX11_passOn 49 = some bX11_passOn_49 := rfl
theorem bkX11_passOn_50 : blk BX11_passOn 50 = some bX11_passOn_50 := rfl
theorem bkX11_wear_0 : blk BX11_wear 0 = some bX11_wear_0 := rfl
theorem bkX11_wear_12 : blk BX11_wear 12 = some bX11_wear_12 := rfl
theorem bkX11_wear_40 : blk BX11_wear 40 = some bX11_wear_40 := rfl
theorem bkX11_aYear_0 : blk BX11_aYear 0 = some bX11_aYear_0 := rfl
theorem hnX11_aYear_0 : (0 ∈ [46, 67]) = False := eq_false (by decide)
theorem bkX11_aYear_44 : blk BX11_aYear 44 = some bX11_aYear_44 := rfl
theorem hnX11_aYear_44 : (44 ∈ [46, 67]) = False := eq_false (by decide)
theorem bkX11_aYear_46 : blk BX11_aYear 46 = some bX11_aYear_46 := rfl
theorem hnX11_aYear_46 : (46 ∈ [46, 67]) = True := eq_true (by decide)
theorem bkX11_aYear_65 : blk BX11_aYear 65 = some bX11_aYear_65 := rfl
theorem hnX11_aYear_65 : (65 ∈ [46, 67]) = False := eq_false (by decide)
theorem bkX11_aYear_67 : blk BX11_aYear 67 = some bX11_aYear_67 := rfl
theorem hnX11_aYear_67 : (67 ∈ [46, 67]) = True := eq_true (by decide)
theorem bkX11_aYear_86 : blk BX11_aYear 86 = some bX11_aYear_86 := rfl
theorem hnX11_aYear_86 : (86 ∈ [46, 67]) = False := eq_false (by decide)
theorem bkX11_goOn_0 : blk BX11_goOn 0 = some bX11_goOn_0 := rfl
theorem hnX11_goOn_0 : (0 ∈ [2]) = False := eq_false (by decide)
theorem bkX11_goOn_2 : blk BX11_goOn 2 = some bX11_goOn_2 := rfl
theorem hnX11_goOn_2 : (2 ∈ [2]) = True := eq_true (by decide)
theorem bkX11_goOn_17 : blk BX11_goOn 17 = some bX11_goOn_17 := rfl
theorem hnX11_goOn_17 : (17 ∈ [2]) = False := eq_false (by decide)
theorem bkX11_reach_0 : blk BX11_reach 0 = some bX11_reach_0 := rfl
theorem hnX11_reach_0 : (0 ∈ [9]) = False := eq_false (by decide)
theorem bkX11_reach_9 : blk BX11_reach 9 = some bX11_reach_9 := rfl
theorem hnX11_reach_9 : (9 ∈ [9]) = True := eq_true (by decide)
theorem bkX11_reach_38 : blk BX11_reach 38 = some bX11_reach_38 := rfl
theorem hnX11_reach_38 : (38 ∈ [9]) = False := eq_false (by decide)
theorem bkX11_payersOf_0 : blk BX11_payersOf 0 = some bX11_payersOf_0 := rfl
theorem hnX11_payersOf_0 : (0 ∈ [4]) = False := eq_false (by decide)
theorem bkX11_payersOf_4 : blk BX11_payersOf 4 = some bX11_payersOf_4 := rfl
theorem hnX11_payersOf_4 : (4 ∈ [4]) = True := eq_true (by decide)
theorem bkX11_payersOf_31 : blk BX11_payersOf 31 = some bX11_payersOf_31 := rfl
theorem hnX11_payersOf_31 : (31 ∈ [4]) = False := eq_false (by decide)
theorem bkX11_payersOf_32 : blk BX11_payersOf 32 = some bX11_payersOf_32 := rfl
theorem hnX11_payersOf_32 : (32 ∈ [4]) = False := eq_false (by decide)
theorem bkX11_payersOf_40 : blk BX11_payersOf 40 = some bX11_payersOf_40 := rfl
theorem hnX11_payersOf_40 : (40 ∈ [4]) = False := eq_false (by decide)
theorem bkX11_rings_0 : blk BX11_rings 0 = some bX11_rings_0 := rfl
theorem hnX11_rings_0 : (0 ∈ [4]) = False := eq_false (by decide)
theorem bkX11_rings_4 : blk BX11_rings 4 = some bX11_rings_4 := rfl
theorem hnX11_rings_4 : (4 ∈ [4]) = True := eq_true (by decide)
theorem bkX11_rings_33 : blk BX11_rings 33 = some bX11_rings_33 := rfl
theorem hnX11_rings_33 : (33 ∈ [4]) = False := eq_false (by decide)
theorem bkX11_rings_34 : blk BX11_rings 34 = some bX11_rings_34 := rfl
theorem hnX11_rings_34 : (34 ∈ [4]) = False := eq_false (by decide)
theorem bkX11_rings_42 : blk BX11_rings 42 = some bX11_rings_42 := rfl
theorem hnX11_rings_42 : (42 ∈ [4]) = False := eq_false (by decide)
theorem bkX11_sinks_0 : blk BX11_sinks 0 = some bX11_sinks_0 := rfl
theorem hnX11_sinks_0 : (0 ∈ [4]) = False := eq_false (by decide)
theorem bkX11_sinks_4 : blk BX11_sinks 4 = some bX11_sinks_4 := rfl
theorem hnX11_sinks_4 : (4 ∈ [4]) = True := eq_true (by decide)
theorem bkX11_sinks_39 : blk BX11_sinks 39 = some bX11_sinks_39 := rfl
theorem hnX11_sinks_39 : (39 ∈ [4]) = False := eq_false (by decide)
theorem bkX11_sinks_40 : blk BX11_sinks 40 = some bX11_sinks_40 := rfl
theorem hnX11_sinks_40 : (40 ∈ [4]) = False := eq_false (by decide)
theorem bkX11_sinks_48 : blk BX11_sinks 48 = some bX11_sinks_48 := rfl
theorem hnX11_sinks_48 : (48 ∈ [4]) = False := eq_false (by decide)
theorem bkX11_parts_0 : blk BX11_parts 0 = some bX11_parts_0 := rfl
theorem hnX11_parts_0 : (0 ∈ [6, 38, 52]) = False := eq_false (by decide)
theorem bkX11_parts_6 : blk BX11_parts 6 = some bX11_parts_6 := rfl
theorem hnX11_parts_6 : (6 ∈ [6, 38, 52]) = True := eq_true (by decide)
theorem bkX11_parts_27 : blk BX11_parts 27 = some bX11_parts_27 := rfl
theorem hnX11_parts_27 : (27 ∈ [6, 38, 52]) = False := eq_false (by decide)
theorem bkX11_parts_38 : blk BX11_parts 38 = some bX11_parts_38 := rfl
theorem hnX11_parts_38 : (38 ∈ [6, 38, 52]) = True := eq_true (by decide)
theorem bkX11_parts_52 : blk BX11_parts 52 = some bX11_parts_52 := rfl
theorem hnX11_parts_52 : (52 ∈ [6, 38, 52]) = True := eq_true (by decide)
theorem bkX11_parts_96 : blk BX11_parts 96 = some bX11_parts_96 := rfl
theorem hnX11_parts_96 : (96 ∈ [6, 38, 52]) = False := eq_false (by decide)
theorem bkX11_parts_105 : blk BX11_parts 105 = some bX11_parts_105 := rfl
theorem hnX11_parts_105 : (105 ∈ [6, 38, 52]) = False := eq_false (by decide)
theorem bkX11_parts_109 : blk BX11_parts 109 = some bX11_parts_109 := rfl
theorem hnX11_parts_109 : (109 ∈ [6, 38, 52]) = False := eq_false (by decide)
theorem bkX11_parts_115 : blk BX11_parts 115 = some bX11_parts_115 := rfl
theorem hnX11_parts_115 : (115 ∈ [6, 38, 52]) = False := eq_false (by decide)
theorem bkX11_parts_121 : blk BX11_parts 121 = some bX11_parts_121 := rfl
theorem hnX11_parts_121 : (121 ∈ [6, 38, 52]) = False := eq_false (by decide)
theorem bkX11_parts_126 : blk BX11_parts 126 = some bX11_parts_126 := rfl
theorem hnX11_parts_126 : (126 ∈ [6, 38, 52]) = False := eq_false (by decide)
theorem bkX11_parts_132 : blk BX11_parts 132 = some bX11_parts_132 := rfl
theorem hnX11_parts_132 : (132 ∈ [6, 38, 52]) = False := eq_false (by decide)
theorem bkX11_count_0 : blk BX11_count 0 = some bX11_count_0 := rfl
theorem bkX11_count_88 : blk BX11_count 88 = some bX11_count_88 := rfl
theorem bkX11_count_95 : blk BX11_count 95 = some bX11_count_95 := rfl
theorem bkX11_count_100 : blk BX11_count 100 = some bX11_count_100 := rfl
theorem bkX11_count_105 : blk BX11_count 105 = some bX11_count_105 := rfl
theorem bkX11_count_112 : blk BX11_count 112 = some bX11_count_112 := rfl
theorem bkX11_count_117 : blk BX11_count 117 = some bX11_count_117 := rfl
theorem bkX11_count_122 : blk BX11_count 122 = some bX11_count_122 := rfl
theorem bkX11_count_127 : blk BX11_count 127 = some bX11_count_127 := rfl
theorem bkX11_count_132 : blk BX11_count 132 = some bX11_count_132 := rfl
theorem bkX11_count_137 : blk BX11_count 137 = some bX11_count_137 := rfl
theorem bkX11_count_142 : blk BX11_count 142 = some bX11_count_142 := rfl
theorem bkX11_count_147 : blk BX11_count 147 = some bX11_count_147 := rfl
theorem bkX11_count_152 : blk BX11_count 152 = some bX11_count_152 := rfl
theorem bkX11_count_157 : blk BX11_count 157 = some bX11_count_157 := rfl
theorem bkX11_count_162 : blk BX11_count 162 = some bX11_count_162 := rfl
theorem bkX11_count_172 : blk BX11_count 172 = some bX11_count_172 := rfl
theorem bkX11_person_0 : blk BX11_person 0 = some bX11_person_0 := rfl
theorem bkX11_person_19 : blk BX11_person 19 = some bX11_person_19 := rfl
theorem bkX11_person_64 : blk BX11_person 64 = some bX11_person_64 := rfl
theorem bkX11_person_71 : blk BX11_person 71 = some bX11_person_71 := rfl
theorem bkX11_person_78 : blk BX11_person 78 = some bX11_person_78 := rfl
theorem bkX11_person_85 : blk BX11_person 85 = some bX11_person_85 := rfl
theorem bkX11_person_91 : blk BX11_person 91 = some bX11_person_91 := rfl
theorem bkX11_person_97 : blk BX11_person 97 = some bX11_person_97 := rfl
theorem bkX11_person_103 : blk BX11_person 103 = some bX11_person_103 := rfl
theorem bkX11_person_110 : blk BX11_person 110 = some bX11_person_110 := rfl
theorem bkX11_coin_0 : blk BX11_coin 0 = some bX11_coin_0 := rfl
theorem bkX11_coin_25 : blk BX11_coin 25 = some bX11_coin_25 := rfl
theorem bkX11_coin_31 : blk BX11_coin 31 = some bX11_coin_31 := rfl
theorem bkX11_coin_44 : blk BX11_coin 44 = some bX11_coin_44 := rfl
theorem bkX11_coin_58 : blk BX11_coin 58 = some bX11_coin_58 := rfl
theorem bkX11_coin_74 : blk BX11_coin 74 = some bX11_coin_74 := rfl
theorem bkX11_coin_82 : blk BX11_coin 82 = some bX11_coin_82 := rfl
theorem bkX11_refuse_0 : blk BX11_refuse 0 = some bX11_refuse_0 := rfl
theorem bkX11_keep_0 : blk BX11_keep 0 = some bX11_keep_0 := rfl
theorem hnX11_keep_0 : (0 ∈ [12]) = False := eq_false (by decide)
theorem bkX11_keep_12 : blk BX11_keep 12 = some bX11_keep_12 := rfl
theorem hnX11_keep_12 : (12 ∈ [12]) = True := eq_true (by decide)
theorem bkX11_keep_42 : blk BX11_keep 42 = some bX11_keep_42 := rfl
theorem hnX11_keep_42 : (42 ∈ [12]) = False := eq_false (by decide)
theorem bkX11_keep_52 : blk BX11_keep 52 = some bX11_keep_52 := rfl
theorem hnX11_keep_52 : (52 ∈ [12]) = False := eq_false (by decide)
theorem bkX11_years_0 : blk BX11_years 0 = some bX11_years_0 := rfl
theorem bkX11_years_29 : blk BX11_years 29 = some bX11_years_29 := rfl
theorem bkX11_years_35 : blk BX11_years 35 = some bX11_years_35 := rfl
theorem bkX11_give_0 : blk BX11_give 0 = some bX11_give_0 := rfl
theorem bkX11_give_21 : blk BX11_give 21 = some bX11_give_21 := rfl
theorem bkX11_give_27 : blk BX11_give 27 = some bX11_give_27 := rfl
theorem bkX11_give_50 : blk BX11_give 50 = some bX11_give_50 := rfl
theorem bkX11_give_56 : blk BX11_give 56 = some bX11_give_56 := rfl
theorem bkX11_search_0 : blk BX11_search 0 = some bX11_search_0 := rfl
theorem bkX11_search_19 : blk BX11_search 19 = some bX11_search_19 := rfl
theorem bkX11_search_36 : blk BX11_search 36 = some bX11_search_36 := rfl
theorem bkX11_pays_0 : blk BX11_pays 0 = some bX11_pays_0 := rfl
theorem bkX11_pays_33 : blk BX11_pays 33 = some bX11_pays_33 := rfl
theorem bkX11_pays_39 : blk BX11_pays 39 = some bX11_pays_39 := rfl
theorem bkX11_pays_56 : blk BX11_pays 56 = some bX11_pays_56 := rfl
theorem bkX11_pays_69 : blk BX11_pays 69 = some bX11_pays_69 := rfl
theorem bkX11_anew_0 : blk BX11_anew 0 = some bX11_anew_0 := rfl
theorem bkX11_anew_19 : blk BX11_anew 19 = some bX11_anew_19 := rfl
theorem bkX11_anew_49 : blk BX11_anew 49 = some bX11_anew_49 := rfl
theorem bkX11_anew_55 : blk BX11_anew 55 = some bX11_anew_55 := rfl
theorem bkX11_undo_0 : blk BX11_undo 0 = some bX11_undo_0 := rfl
theorem bkX11_undo_14 : blk BX11_undo 14 = some bX11_undo_14 := rfl
theorem bkX11_then_0 : blk BX11_then 0 = some bX11_then_0 := rfl
theorem bkX11_then_27 : blk BX11_then 27 = some bX11_then_27 := rfl
theorem bkX11_then_33 : blk BX11_then 33 = some bX11_then_33 := rfl
theorem bkX11_then_51 : blk BX11_then 51 = some bX11_then_51 := rfl
theorem bkX11_then_78 : blk BX11_then 78 = some bX11_then_78 := rfl
theorem bkX11_then_84 : blk BX11_then 84 = some bX11_then_84 := rfl
theorem bkX11_has_0 : blk BX11_has 0 = some bX11_has_0 := rfl
theorem bkX11_has_19 : blk BX11_has 19 = some bX11_has_19 := rfl
theorem bkX11_has_37 : blk BX11_has 37 = some bX11_has_37 := rfl
theorem bkX11_later_0 : blk BX11_later 0 = some bX11_later_0 := rfl
theorem bkX11_later_23 : blk BX11_later 23 = some bX11_later_23 := rfl
theorem bkX11_later_41 : blk BX11_later 41 = some bX11_later_41 := rfl
theorem bkX11_later_76 : blk BX11_later 76 = some bX11_later_76 := rfl
theorem bkX11_later_88 : blk BX11_later 88 = some bX11_later_88 := rfl
theorem bkX11_later_102 : blk BX11_later 102 = some bX11_later_102 := rfl
theorem bkX11_later_106 : blk BX11_later 106 = some bX11_later_106 := rfl
theorem bkX11_next_0 : blk BX11_next 0 = some bX11_next_0 := rfl
theorem hnX11_next_0 : (0 ∈ [23]) = False := eq_false (by decide)
theorem bkX11_next_23 : blk BX11_next 23 = some bX11_next_23 := rfl
theorem hnX11_next_23 : (23 ∈ [23]) = True := eq_true (by decide)
theorem bkX11_next_55 : blk BX11_next 55 = some bX11_next_55 := rfl
theorem hnX11_next_55 : (55 ∈ [23]) = False := eq_false (by decide)
theorem bkX11_next_61 : blk BX11_next 61 = some bX11_next_61 := rfl
theorem hnX11_next_61 : (61 ∈ [23]) = False := eq_false (by decide)
theorem bkX11_gets_0 : blk BX11_gets 0 = some bX11_gets_0 := rfl
theorem hnX11_gets_0 : (0 ∈ [41]) = False := eq_false (by decide)
theorem bkX11_gets_21 : blk BX11_gets 21 = some bX11_gets_21 := rfl
theorem hnX11_gets_21 : (21 ∈ [41]) = False := eq_false (by decide)
theorem bkX11_gets_27 : blk BX11_gets 27 = some bX11_gets_27 := rfl
theorem hnX11_gets_27 : (27 ∈ [41]) = False := eq_false (by decide)
theorem bkX11_gets_41 : blk BX11_gets 41 = some bX11_gets_41 := rfl
theorem hnX11_gets_41 : (41 ∈ [41]) = True := eq_true (by decide)
theorem bkX11_gets_66 : blk BX11_gets 66 = some bX11_gets_66 := rfl
theorem hnX11_gets_66 : (66 ∈ [41]) = False := eq_false (by decide)
theorem bkX11_gets_76 : blk BX11_gets 76 = some bX11_gets_76 := rfl
theorem hnX11_gets_76 : (76 ∈ [41]) = False := eq_false (by decide)
theorem bkX11_hands_0 : blk BX11_hands 0 = some bX11_hands_0 := rfl
theorem hnX11_hands_0 : (0 ∈ [51]) = False := eq_false (by decide)
theorem bkX11_hands_19 : blk BX11_hands 19 = some bX11_hands_19 := rfl
theorem hnX11_hands_19 : (19 ∈ [51]) = False := eq_false (by decide)
theorem bkX11_hands_37 : blk BX11_hands 37 = some bX11_hands_37 := rfl
theorem hnX11_hands_37 : (37 ∈ [51]) = False := eq_false (by decide)
theorem bkX11_hands_51 : blk BX11_hands 51 = some bX11_hands_51 := rfl
theorem hnX11_hands_51 : (51 ∈ [51]) = True := eq_true (by decide)
theorem bkX11_hands_72 : blk BX11_hands 72 = some bX11_hands_72 := rfl
theorem hnX11_hands_72 : (72 ∈ [51]) = False := eq_false (by decide)
theorem bkX11_hands_80 : blk BX11_hands 80 = some bX11_hands_80 := rfl
theorem hnX11_hands_80 : (80 ∈ [51]) = False := eq_false (by decide)
theorem bkX11_hands_92 : blk BX11_hands 92 = some bX11_hands_92 := rfl
theorem hnX11_hands_92 : (92 ∈ [51]) = False := eq_false (by decide)
theorem bkX11_crumbles_0 : blk BX11_crumbles 0 = some bX11_crumbles_0 := rfl
theorem hnX11_crumbles_0 : (0 ∈ [42]) = False := eq_false (by decide)
theorem bkX11_crumbles_19 : blk BX11_crumbles 19 = some bX11_crumbles_19 := rfl
theorem hnX11_crumbles_19 : (19 ∈ [42]) = False := eq_false (by decide)
theorem bkX11_crumbles_42 : blk BX11_crumbles 42 = some bX11_crumbles_42 := rfl
theorem hnX11_crumbles_42 : (42 ∈ [42]) = True := eq_true (by decide)
theorem bkX11_crumbles_76 : blk BX11_crumbles 76 = some bX11_crumbles_76 := rfl
theorem hnX11_crumbles_76 : (76 ∈ [42]) = False := eq_false (by decide)
theorem bkX11_crumbles_82 : blk BX11_crumbles 82 = some bX11_crumbles_82 := rfl
theorem hnX11_crumbles_82 : (82 ∈ [42]) = False := eq_false (by decide)
theorem bkX11_comesTo_0 : blk BX11_comesTo 0 = some bX11_comesTo_0 := rfl
theorem bkX11_comesTo_21 : blk BX11_comesTo 21 = some bX11_comesTo_21 := rfl
theorem bkX11_comesTo_26 : blk BX11_comesTo 26 = some bX11_comesTo_26 := rfl
theorem bkX11_steps_0 : blk BX11_steps 0 = some bX11_steps_0 := rfl
theorem hnX11_steps_0 : (0 ∈ [32]) = False := eq_false (by decide)
theorem bkX11_steps_21 : blk BX11_steps 21 = some bX11_steps_21 := rfl
theorem hnX11_steps_21 : (21 ∈ [32]) = False := eq_false (by decide)
theorem bkX11_steps_27 : blk BX11_steps 27 = some bX11_steps_27 := rfl
theorem hnX11_steps_27 : (27 ∈ [32]) = False := eq_false (by decide)
theorem bkX11_steps_32 : blk BX11_steps 32 = some bX11_steps_32 := rfl
theorem hnX11_steps_32 : (32 ∈ [32]) = True := eq_true (by decide)
theorem bkX11_steps_56 : blk BX11_steps 56 = some bX11_steps_56 := rfl
theorem hnX11_steps_56 : (56 ∈ [32]) = False := eq_false (by decide)
theorem bkX11_steps_69 : blk BX11_steps 69 = some bX11_steps_69 := rfl
theorem hnX11_steps_69 : (69 ∈ [32]) = False := eq_false (by decide)
theorem bkX11_sumOf_0 : blk BX11_sumOf 0 = some bX11_sumOf_0 := rfl
theorem hnX11_sumOf_0 : (0 ∈ [4]) = False := eq_false (by decide)
theorem bkX11_sumOf_4 : blk BX11_sumOf 4 = some bX11_sumOf_4 := rfl
theorem hnX11_sumOf_4 : (4 ∈ [4]) = True := eq_true (by decide)
theorem bkX11_sumOf_30 : blk BX11_sumOf 30 = some bX11_sumOf_30 := rfl
theorem hnX11_sumOf_30 : (30 ∈ [4]) = False := eq_false (by decide)
theorem bkX11_sumOf_31 : blk BX11_sumOf 31 = some bX11_sumOf_31 := rfl
theorem hnX11_sumOf_31 : (31 ∈ [4]) = False := eq_false (by decide)
theorem bkX11_sumOf_39 : blk BX11_sumOf 39 = some bX11_sumOf_39 := rfl
theorem hnX11_sumOf_39 : (39 ∈ [4]) = False := eq_false (by decide)
theorem bkX11_moneyOf_0 : blk BX11_moneyOf 0 = some bX11_moneyOf_0 := rfl
theorem bkX11_toPay_0 : blk BX11_toPay 0 = some bX11_toPay_0 := rfl
theorem hnX11_toPay_0 : (0 ∈ [63]) = False := eq_false (by decide)
theorem bkX11_toPay_23 : blk BX11_toPay 23 = some bX11_toPay_23 := rfl
theorem hnX11_toPay_23 : (23 ∈ [63]) = False := eq_false (by decide)
theorem bkX11_toPay_29 : blk BX11_toPay 29 = some bX11_toPay_29 := rfl
theorem hnX11_toPay_29 : (29 ∈ [63]) = False := eq_false (by decide)
theorem bkX11_toPay_47 : blk BX11_toPay 47 = some bX11_toPay_47 := rfl
theorem hnX11_toPay_47 : (47 ∈ [63]) = False := eq_false (by decide)
theorem bkX11_toPay_63 : blk BX11_toPay 63 = some bX11_toPay_63 := rfl
theorem hnX11_toPay_63 : (63 ∈ [63]) = True := eq_true (by decide)
theorem bkX11_toPay_93 : blk BX11_toPay 93 = some bX11_toPay_93 := rfl
theorem hnX11_toPay_93 : (93 ∈ [63]) = False := eq_false (by decide)
theorem bkX11_toPay_115 : blk BX11_toPay 115 = some bX11_toPay_115 := rfl
theorem hnX11_toPay_115 : (115 ∈ [63]) = False := eq_false (by decide)
theorem bkX11_toPay_119 : blk BX11_toPay 119 = some bX11_toPay_119 := rfl
theorem hnX11_toPay_119 : (119 ∈ [63]) = False := eq_false (by decide)
theorem bkX11_toPay_125 : blk BX11_toPay 125 = some bX11_toPay_125 := rfl
theorem hnX11_toPay_125 : (125 ∈ [63]) = False := eq_false (by decide)
theorem bkX11_toPay_134 : blk BX11_toPay 134 = some bX11_toPay_134 := rfl
theorem hnX11_toPay_134 : (134 ∈ [63]) = False := eq_false (by decide)
theorem bkX11_toPay_136 : blk BX11_toPay 136 = some bX11_toPay_136 := rfl
theorem hnX11_toPay_136 : (136 ∈ [63]) = False := eq_false (by decide)
theorem bkX11_change_0 : blk BX11_change 0 = some bX11_change_0 := rfl
theorem hnX11_change_0 : (0 ∈ [81]) = False := eq_false (by decide)
theorem bkX11_change_32 : blk BX11_change 32 = some bX11_change_32 := rfl
theorem hnX11_change_32 : (32 ∈ [81]) = False := eq_false (by decide)
theorem bkX11_change_38 : blk BX11_change 38 = some bX11_change_38 := rfl
theorem hnX11_change_38 : (38 ∈ [81]) = False := eq_false (by decide)
theorem bkX11_change_55 : blk BX11_change 55 = some bX11_change_55 := rfl
theorem hnX11_change_55 : (55 ∈ [81]) = False := eq_false (by decide)
theorem bkX11_change_61 : blk BX11_change 61 = some bX11_change_61 := rfl
theorem hnX11_change_61 : (61 ∈ [81]) = False := eq_false (by decide)
theorem bkX11_change_81 : blk BX11_change 81 = some bX11_change_81 := rfl
theorem hnX11_change_81 : (81 ∈ [81]) = True := eq_true (by decide)
theorem bkX11_change_130 : blk BX11_change 130 = some bX11_change_130 := rfl
theorem hnX11_change_130 : (130 ∈ [81]) = False := eq_false (by decide)
theorem bkX11_change_149 : blk BX11_change 149 = some bX11_change_149 := rfl
theorem hnX11_change_149 : (149 ∈ [81]) = False := eq_false (by decide)
theorem bkX11_change_153 : blk BX11_change 153 = some bX11_change_153 := rfl
theorem hnX11_change_153 : (153 ∈ [81]) = False := eq_false (by decide)
theorem bkX11_change_159 : blk BX11_change 159 = some bX11_change_159 := rfl
theorem hnX11_change_159 : (159 ∈ [81]) = False := eq_false (by decide)
theorem bkX11_change_171 : blk BX11_change 171 = some bX11_change_171 := rfl
theorem hnX11_change_171 : (171 ∈ [81]) = False := eq_false (by decide)
theorem bkX11_change_176 : blk BX11_change 176 = some bX11_change_176 := rfl
theorem hnX11_change_176 : (176 ∈ [81]) = False := eq_false (by decide)
theorem bkX11_change_181 : blk BX11_change 181 = some bX11_change_181 := rfl
theorem hnX11_change_181 : (181 ∈ [81]) = False := eq_false (by decide)
theorem bkX11_share_0 : blk BX11_share 0 = some bX11_share_0 := rfl
theorem hnX11_share_0 : (0 ∈ [72]) = False := eq_false (by decide)
theorem bkX11_share_31 : blk BX11_share 31 = some bX11_share_31 := rfl
theorem hnX11_share_31 : (31 ∈ [72]) = False := eq_false (by decide)
theorem bkX11_share_37 : blk BX11_share 37 = some bX11_share_37 := rfl
theorem hnX11_share_37 : (37 ∈ [72]) = False := eq_false (by decide)
theorem bkX11_share_48 : blk BX11_share 48 = some bX11_share_48 := rfl
theorem hnX11_share_48 : (48 ∈ [72]) = False := eq_false (by decide)
theorem bkX11_share_72 : blk BX11_share 72 = some bX11_share_72 := rfl
theorem hnX11_share_72 : (72 ∈ [72]) = True := eq_true (by decide)
theorem bkX11_share_92 : blk BX11_share 92 = some bX11_share_92 := rfl
theorem hnX11_share_92 : (92 ∈ [72]) = False := eq_false (by decide)
theorem bkX11_share_125 : blk BX11_share 125 = some bX11_share_125 := rfl
theorem hnX11_share_125 : (125 ∈ [72]) = False := eq_false (by decide)
theorem bkX11_share_133 : blk BX11_share 133 = some bX11_share_133 := rfl
theorem hnX11_share_133 : (133 ∈ [72]) = False := eq_false (by decide)
theorem bkX11_share_139 : blk BX11_share 139 = some bX11_share_139 := rfl
theorem hnX11_share_139 : (139 ∈ [72]) = False := eq_false (by decide)
theorem bkX11_share_148 : blk BX11_share 148 = some bX11_share_148 := rfl
theorem hnX11_share_148 : (148 ∈ [72]) = False := eq_false (by decide)
theorem bkX11_share_150 : blk BX11_share 150 = some bX11_share_150 := rfl
theorem hnX11_share_150 : (150 ∈ [72]) = False := eq_false (by decide)
theorem bkX11_lacks_0 : blk BX11_lacks 0 = some bX11_lacks_0 := rfl
theorem hnX11_lacks_0 : (0 ∈ [27, 37]) = False := eq_false (by decide)
theorem bkX11_lacks_19 : blk BX11_lacks 19 = some bX11_lacks_19 := rfl
theorem hnX11_lacks_19 : (19 ∈ [27, 37]) = False := eq_false (by decide)
theorem bkX11_lacks_27 : blk BX11_lacks 27 = some bX11_lacks_27 := rfl
theorem hnX11_lacks_27 : (27 ∈ [27, 37]) = True := eq_true (by decide)
theorem bkX11_lacks_37 : blk BX11_lacks 37 = some bX11_lacks_37 := rfl
theorem hnX11_lacks_37 : (37 ∈ [27, 37]) = True := eq_true (by decide)
theorem bkX11_lacks_78 : blk BX11_lacks 78 = some bX11_lacks_78 := rfl
theorem hnX11_lacks_78 : (78 ∈ [27, 37]) = False := eq_false (by decide)
theorem bkX11_lacks_82 : blk BX11_lacks 82 = some bX11_lacks_82 := rfl
theorem hnX11_lacks_82 : (82 ∈ [27, 37]) = False := eq_false (by decide)
theorem bkX11_lacks_88 : blk BX11_lacks 88 = some bX11_lacks_88 := rfl
theorem hnX11_lacks_88 : (88 ∈ [27, 37]) = False := eq_false (by decide)
theorem bkX11_lacks_105 : blk BX11_lacks 105 = some bX11_lacks_105 := rfl
theorem hnX11_lacks_105 : (105 ∈ [27, 37]) = False := eq_false (by decide)
theorem bkX11_lacks_127 : blk BX11_lacks 127 = some bX11_lacks_127 := rfl
theorem hnX11_lacks_127 : (127 ∈ [27, 37]) = False := eq_false (by decide)
theorem bkX11_toName_0 : blk BX11_toName 0 = some bX11_toName_0 := rfl
theorem hnX11_toName_0 : (0 ∈ [70]) = False := eq_false (by decide)
theorem bkX11_toName_21 : blk BX11_toName 21 = some bX11_toName_21 := rfl
theorem hnX11_toName_21 : (21 ∈ [70]) = False := eq_false (by decide)
theorem bkX11_toName_27 : blk BX11_toName 27 = some bX11_toName_27 := rfl
theorem hnX11_toName_27 : (27 ∈ [70]) = False := eq_false (by decide)
theorem bkX11_toName_45 : blk BX11_toName 45 = some bX11_toName_45 := rfl
theorem hnX11_toName_45 : (45 ∈ [70]) = False := eq_false (by decide)
theorem bkX11_toName_70 : blk BX11_toName 70 = some bX11_toName_70 := rfl
theorem hnX11_toName_70 : (70 ∈ [70]) = True := eq_true (by decide)
theorem bkX11_toName_113 : blk BX11_toName 113 = some bX11_toName_113 := rfl
theorem hnX11_toName_113 : (113 ∈ [70]) = False := eq_false (by decide)
theorem bkX11_toName_128 : blk BX11_toName 128 = some bX11_toName_128 := rfl
theorem hnX11_toName_128 : (128 ∈ [70]) = False := eq_false (by decide)
theorem bkX11_see_0 : blk BX11_see 0 = some bX11_see_0 := rfl
theorem bkX11_see_19 : blk BX11_see 19 = some bX11_see_19 := rfl
theorem bkX11_see_40 : blk BX11_see 40 = some bX11_see_40 := rfl
theorem bkX11_see_46 : blk BX11_see 46 = some bX11_see_46 := rfl
theorem bkX11_isAsSeen_0 : blk BX11_isAsSeen 0 = some bX11_isAsSeen_0 := rfl
theorem hnX11_isAsSeen_0 : (0 ∈ [13, 42, 54]) = False := eq_false (by decide)
theorem bkX11_isAsSeen_13 : blk BX11_isAsSeen 13 = some bX11_isAsSeen_13 := rfl
theorem hnX11_isAsSeen_13 : (13 ∈ [13, 42, 54]) = True := eq_true (by decide)
theorem bkX11_isAsSeen_38 : blk BX11_isAsSeen 38 = some bX11_isAsSeen_38 := rfl
theorem hnX11_isAsSeen_38 : (38 ∈ [13, 42, 54]) = False := eq_false (by decide)
theorem bkX11_isAsSeen_42 : blk BX11_isAsSeen 42 = some bX11_isAsSeen_42 := rfl
theorem hnX11_isAsSeen_42 : (42 ∈ [13, 42, 54]) = True := eq_true (by decide)
theorem bkX11_isAsSeen_54 : blk BX11_isAsSeen 54 = some bX11_isAsSeen_54 := rfl
theorem hnX11_isAsSeen_54 : (54 ∈ [13, 42, 54]) = True := eq_true (by decide)
theorem bkX11_isAsSeen_92 : blk BX11_isAsSeen 92 = some bX11_isAsSeen_92 := rfl
theorem hnX11_isAsSeen_92 : (92 ∈ [13, 42, 54]) = False := eq_false (by decide)
theorem bkX11_isAsSeen_96 : blk BX11_isAsSeen 96 = some bX11_isAsSeen_96 := rfl
theorem hnX11_isAsSeen_96 : (96 ∈ [13, 42, 54]) = False := eq_false (by decide)
theorem bkX11_isAsSeen_97 : blk BX11_isAsSeen 97 = some bX11_isAsSeen_97 := rfl
theorem hnX11_isAsSeen_97 : (97 ∈ [13, 42, 54]) = False := eq_false (by decide)
theorem bkX11_isAsSeen_104 : blk BX11_isAsSeen 104 = some bX11_isAsSeen_104 := rfl
theorem hnX11_isAsSeen_104 : (104 ∈ [13, 42, 54]) = False := eq_false (by decide)
theorem bkX11_isAsSeen_114 : blk BX11_isAsSeen 114 = some bX11_isAsSeen_114 := rfl
theorem hnX11_isAsSeen_114 : (114 ∈ [13, 42, 54]) = False := eq_false (by decide)
theorem bkX11_tellFits_0 : blk BX11_tellFits 0 = some bX11_tellFits_0 := rfl
theorem hnX11_tellFits_0 : (0 ∈ [7, 26]) = False := eq_false (by decide)
theorem bkX11_tellFits_7 : blk BX11_tellFits 7 = some bX11_tellFits_7 := rfl
theorem hnX11_tellFits_7 : (7 ∈ [7, 26]) = True := eq_true (by decide)
theorem bkX11_tellFits_26 : blk BX11_tellFits 26 = some bX11_tellFits_26 := rfl
theorem hnX11_tellFits_26 : (26 ∈ [7, 26]) = True := eq_true (by decide)
theorem bkX11_tellFits_54 : blk BX11_tellFits 54 = some bX11_tellFits_54 := rfl
theorem hnX11_tellFits_54 : (54 ∈ [7, 26]) = False := eq_false (by decide)
theorem bkX11_tellFits_79 : blk BX11_tellFits 79 = some bX11_tellFits_79 := rfl
theorem hnX11_tellFits_79 : (79 ∈ [7, 26]) = False := eq_false (by decide)
theorem bkX11_tellFits_85 : blk BX11_tellFits 85 = some bX11_tellFits_85 := rfl
theorem hnX11_tellFits_85 : (85 ∈ [7, 26]) = False := eq_false (by decide)
theorem bkX11_tellFits_98 : blk BX11_tellFits 98 = some bX11_tellFits_98 := rfl
theorem hnX11_tellFits_98 : (98 ∈ [7, 26]) = False := eq_false (by decide)
theorem bkX11_needy_0 : blk BX11_needy 0 = some bX11_needy_0 := rfl
theorem bkX11_needy_23 : blk BX11_needy 23 = some bX11_needy_23 := rfl
theorem bkX11_needy_39 : blk BX11_needy 39 = some bX11_needy_39 := rfl
theorem bkX11_needy_40 : blk BX11_needy 40 = some bX11_needy_40 := rfl
theorem bkX11_needy_41 : blk BX11_needy 41 = some bX11_needy_41 := rfl
theorem bkX11_needy_56 : blk BX11_needy 56 = some bX11_needy_56 := rfl
theorem bkX11_needy_67 : blk BX11_needy 67 = some bX11_needy_67 := rfl
theorem bkX11_needy_73 : blk BX11_needy 73 = some bX11_needy_73 := rfl
theorem bkX11_look_0 : blk BX11_look 0 = some bX11_look_0 := rfl
theorem hnX11_look_0 : (0 ∈ [36, 57, 107, 171]) = False := eq_false (by decide)
theorem bkX11_look_21 : blk BX11_look 21 = some bX11_look_21 := rfl
theorem hnX11_look_21 : (21 ∈ [36, 57, 107, 171]) = False := eq_false (by decide)
theorem bkX11_look_36 : blk BX11_look 36 = some bX11_look_36 := rfl
theorem hnX11_look_36 : (36 ∈ [36, 57, 107, 171]) = True := eq_true (by decide)
theorem bkX11_look_55 : blk BX11_look 55 = some bX11_look_55 := rfl
theorem hnX11_look_55 : (55 ∈ [36, 57, 107, 171]) = False := eq_false (by decide)
theorem bkX11_look_57 : blk BX11_look 57 = some bX11_look_57 := rfl
theorem hnX11_look_57 : (57 ∈ [36, 57, 107, 171]) = True := eq_true (by decide)
theorem bkX11_look_107 : blk BX11_look 107 = some bX11_look_107 := rfl
theorem hnX11_look_107 : (107 ∈ [36, 57, 107, 171]) = True := eq_true (by decide)
theorem bkX11_look_141 : blk BX11_look 141 = some bX11_look_141 := rfl
theorem hnX11_look_141 : (141 ∈ [36, 57, 107, 171]) = False := eq_false (by decide)
theorem bkX11_look_164 : blk BX11_look 164 = some bX11_look_164 := rfl
theorem hnX11_look_164 : (164 ∈ [36, 57, 107, 171]) = False := eq_false (by decide)
theorem bkX11_look_171 : blk BX11_look 171 = some bX11_look_171 := rfl
theorem hnX11_look_171 : (171 ∈ [36, 57, 107, 171]) = True := eq_true (by decide)
theorem bkX11_look_195 : blk BX11_look 195 = some bX11_look_195 := rfl
theorem hnX11_look_195 : (195 ∈ [36, 57, 107, 171]) = False := eq_false (by decide)
theorem bkX11_look_209 : blk BX11_look 209 = some bX11_look_209 := rfl
theorem hnX11_look_209 : (209 ∈ [36, 57, 107, 171]) = False := eq_false (by decide)
theorem bkX11_look_215 : blk BX11_look 215 = some bX11_look_215 := rfl
theorem hnX11_look_215 : (215 ∈ [36, 57, 107, 171]) = False := eq_false (by decide)
theorem bkX11_look_223 : blk BX11_look 223 = some bX11_look_223 := rfl
theorem hnX11_look_223 : (223 ∈ [36, 57, 107, 171]) = False := eq_false (by decide)
theorem bkX11_look_224 : blk BX11_look 224 = some bX11_look_224 := rfl
theorem hnX11_look_224 : (224 ∈ [36, 57, 107, 171]) = False := eq_false (by decide)
theorem bkX11_forget_0 : blk BX11_forget 0 = some bX11_forget_0 := rfl
theorem bkX11_dearestOf_0 : blk BX11_dearestOf 0 = some bX11_dearestOf_0 := rfl
theorem hnX11_dearestOf_0 : (0 ∈ [4]) = False := eq_false (by decide)
theorem bkX11_dearestOf_4 : blk BX11_dearestOf 4 = some bX11_dearestOf_4 := rfl
theorem hnX11_dearestOf_4 : (4 ∈ [4]) = True := eq_true (by decide)
theorem bkX11_dearestOf_40 : blk BX11_dearestOf 40 = some bX11_dearestOf_40 := rfl
theorem hnX11_dearestOf_40 : (40 ∈ [4]) = False := eq_false (by decide)
theorem bkX11_dearestOf_42 : blk BX11_dearestOf 42 = some bX11_dearestOf_42 := rfl
theorem hnX11_dearestOf_42 : (42 ∈ [4]) = False := eq_false (by decide)
theorem bkX11_dearestOf_48 : blk BX11_dearestOf 48 = some bX11_dearestOf_48 := rfl
theorem hnX11_dearestOf_48 : (48 ∈ [4]) = False := eq_false (by decide)
theorem bkX11_steal_0 : blk BX11_steal 0 = some bX11_steal_0 := rfl
theorem bkX11_steal_35 : blk BX11_steal 35 = some bX11_steal_35 := rfl
theorem bkX11_thieves_0 : blk BX11_thieves 0 = some bX11_thieves_0 := rfl
theorem hnX11_thieves_0 : (0 ∈ [64, 78]) = False := eq_false (by decide)
theorem bkX11_thieves_19 : blk BX11_thieves 19 = some bX11_thieves_19 := rfl
theorem hnX11_thieves_19 : (19 ∈ [64, 78]) = False := eq_false (by decide)
theorem bkX11_thieves_43 : blk BX11_thieves 43 = some bX11_thieves_43 := rfl
theorem hnX11_thieves_43 : (43 ∈ [64, 78]) = False := eq_false (by decide)
theorem bkX11_thieves_49 : blk BX11_thieves 49 = some bX11_thieves_49 := rfl
theorem hnX11_thieves_49 : (49 ∈ [64, 78]) = False := eq_false (by decide)
theorem bkX11_thieves_64 : blk BX11_thieves 64 = some bX11_thieves_64 := rfl
theorem hnX11_thieves_64 : (64 ∈ [64, 78]) = True := eq_true (by decide)
theorem bkX11_thieves_78 : blk BX11_thieves 78 = some bX11_thieves_78 := rfl
theorem hnX11_thieves_78 : (78 ∈ [64, 78]) = True := eq_true (by decide)
theorem bkX11_thieves_98 : blk BX11_thieves 98 = some bX11_thieves_98 := rfl
theorem hnX11_thieves_98 : (98 ∈ [64, 78]) = False := eq_false (by decide)
theorem bkX11_thieves_114 : blk BX11_thieves 114 = some bX11_thieves_114 := rfl
theorem hnX11_thieves_114 : (114 ∈ [64, 78]) = False := eq_false (by decide)
theorem bkX11_thieves_118 : blk BX11_thieves 118 = some bX11_thieves_118 := rfl
theorem hnX11_thieves_118 : (118 ∈ [64, 78]) = False := eq_false (by decide)
theorem bkX11_thieves_131 : blk BX11_thieves 131 = some bX11_thieves_131 := rfl
theorem hnX11_thieves_131 : (131 ∈ [64, 78]) = False := eq_false (by decide)
theorem bkX11_thieves_146 : blk BX11_thieves 146 = some bX11_thieves_146 := rfl
theorem hnX11_thieves_146 : (146 ∈ [64, 78]) = False := eq_false (by decide)
theorem bkX11_thieves_147 : blk BX11_thieves 147 = some bX11_thieves_147 := rfl
theorem hnX11_thieves_147 : (147 ∈ [64, 78]) = False := eq_false (by decide)
theorem bkX11_thieves_165 : blk BX11_thieves 165 = some bX11_thieves_165 := rfl
theorem hnX11_thieves_165 : (165 ∈ [64, 78]) = False := eq_false (by decide)
theorem bkX11_tellGains_0 : blk BX11_tellGains 0 = some bX11_tellGains_0 := rfl
theorem hnX11_tellGains_0 : (0 ∈ [33]) = False := eq_false (by decide)
theorem bkX11_tellGains_33 : blk BX11_tellGains 33 = some bX11_tellGains_33 := rfl
theorem hnX11_tellGains_33 : (33 ∈ [33]) = True := eq_true (by decide)
theorem bkX11_tellGains_59 : blk BX11_tellGains 59 = some bX11_tellGains_59 := rfl
theorem hnX11_tellGains_59 : (59 ∈ [33]) = False := eq_false (by decide)
theorem bkX11_tellGains_81 : blk BX11_tellGains 81 = some bX11_tellGains_81 := rfl
theorem hnX11_tellGains_81 : (81 ∈ [33]) = False := eq_false (by decide)
theorem bkX11_tellGains_115 : blk BX11_tellGains 115 = some bX11_tellGains_115 := rfl
theorem hnX11_tellGains_115 : (115 ∈ [33]) = False := eq_false (by decide)
theorem bkX11_tellGains_116 : blk BX11_tellGains 116 = some bX11_tellGains_116 := rfl
theorem hnX11_tellGains_116 : (116 ∈ [33]) = False := eq_false (by decide)
theorem bkX11_tellGains_148 : blk BX11_tellGains 148 = some bX11_tellGains_148 := rfl
theorem hnX11_tellGains_148 : (148 ∈ [33]) = False := eq_false (by decide)
theorem bkX11_tellGains_149 : blk BX11_tellGains 149 = some bX11_tellGains_149 := rfl
theorem hnX11_tellGains_149 : (149 ∈ [33]) = False := eq_false (by decide)
theorem bkX11_tellGains_166 : blk BX11_tellGains 166 = some bX11_tellGains_166 := rfl
theorem hnX11_tellGains_166 : (166 ∈ [33]) = False := eq_false (by decide)
theorem bkX11_game_0 : blk BX11_game 0 = some bX11_game_0 := rfl
theorem hnX11_game_0 : (0 ∈ [93]) = False := eq_false (by decide)
theorem bkX11_game_31 : blk BX11_game 31 = some bX11_game_31 := rfl
theorem hnX11_game_31 : (31 ∈ [93]) = False := eq_false (by decide)
theorem bkX11_game_37 : blk BX11_game 37 = some bX11_game_37 := rfl
theorem hnX11_game_37 : (37 ∈ [93]) = False := eq_false (by decide)
theorem bkX11_game_48 : blk BX11_game 48 = some bX11_game_48 := rfl
theorem hnX11_game_48 : (48 ∈ [93]) = False := eq_false (by decide)
theorem bkX11_game_60 : blk BX11_game 60 = some bX11_game_60 := rfl
theorem hnX11_game_60 : (60 ∈ [93]) = False := eq_false (by decide)
theorem bkX11_game_61 : blk BX11_game 61 = some bX11_game_61 := rfl
theorem hnX11_game_61 : (61 ∈ [93]) = False := eq_false (by decide)
theorem bkX11_game_75 : blk BX11_game 75 = some bX11_game_75 := rfl
theorem hnX11_game_75 : (75 ∈ [93]) = False := eq_false (by decide)
theorem bkX11_game_76 : blk BX11_game 76 = some bX11_game_76 := rfl
theorem hnX11_game_76 : (76 ∈ [93]) = False := eq_false (by decide)
theorem bkX11_game_93 : blk BX11_game 93 = some bX11_game_93 := rfl
theorem hnX11_game_93 : (93 ∈ [93]) = True := eq_true (by decide)
theorem bkX11_game_112 : blk BX11_game 112 = some bX11_game_112 := rfl
theorem hnX11_game_112 : (112 ∈ [93]) = False := eq_false (by decide)
theorem bkX11_game_128 : blk BX11_game 128 = some bX11_game_128 := rfl
theorem hnX11_game_128 : (128 ∈ [93]) = False := eq_false (by decide)
theorem bkX11_game_156 : blk BX11_game 156 = some bX11_game_156 := rfl
theorem hnX11_game_156 : (156 ∈ [93]) = False := eq_false (by decide)
theorem bkX11_game_191 : blk BX11_game 191 = some bX11_game_191 := rfl
theorem hnX11_game_191 : (191 ∈ [93]) = False := eq_false (by decide)
theorem bkX11_game_215 : blk BX11_game 215 = some bX11_game_215 := rfl
theorem hnX11_game_215 : (215 ∈ [93]) = False := eq_false (by decide)
theorem bkX11_game_217 : blk BX11_game 217 = some bX11_game_217 := rfl
theorem hnX11_game_217 : (217 ∈ [93]) = False := eq_false (by decide)
theorem bkX11_game_219 : blk BX11_game 219 = some bX11_game_219 := rfl
theorem hnX11_game_219 : (219 ∈ [93]) = False := eq_false (by decide)
theorem bkX11_game_225 : blk BX11_game 225 = some bX11_game_225 := rfl
theorem hnX11_game_225 : (225 ∈ [93]) = False := eq_false (by decide)
theorem bkX11_game_234 : blk BX11_game 234 = some bX11_game_234 := rfl
theorem hnX11_game_234 : (234 ∈ [93]) = False := eq_false (by decide)
theorem bkX11_game_236 : blk BX11_game 236 = some bX11_game_236 := rfl
theorem hnX11_game_236 : (236 ∈ [93]) = False := eq_false (by decide)
theorem bkX11_drawOf_0 : blk BX11_drawOf 0 = some bX11_drawOf_0 := rfl
theorem bkX11_something_0 : blk BX11_something 0 = some bX11_something_0 := rfl
theorem bkX11_something_32 : blk BX11_something 32 = some bX11_something_32 := rfl
theorem bkX11_something_33 : blk BX11_something 33 = some bX11_something_33 := rfl
theorem bkX11_something_45 : blk BX11_something 45 = some bX11_something_45 := rfl
theorem bkX11_something_51 : blk BX11_something 51 = some bX11_something_51 := rfl
theorem bkX11_something_65 : blk BX11_something 65 = some bX11_something_65 := rfl
theorem bkX11_something_71 : blk BX11_something 71 = some bX11_something_71 := rfl
theorem bkX11_something_97 : blk BX11_something 97 = some bX11_something_97 := rfl
theorem bkX11_something_109 : blk BX11_something 109 = some bX11_something_109 := rfl
theorem bkX11_something_128 : blk BX11_something 128 = some bX11_something_128 := rfl
theorem bkX11_something_129 : blk BX11_something 129 = some bX11_something_129 := rfl
theorem bkX11_something_130 : blk BX11_something 130 = some bX11_something_130 := rfl
theorem bkX11_ages_0 : blk BX11_ages 0 = some bX11_ages_0 := rfl
theorem hnX11_ages_0 : (0 ∈ [73, 99]) = False := eq_false (by decide)
theorem bkX11_ages_23 : blk BX11_ages 23 = some bX11_ages_23 := rfl
theorem hnX11_ages_23 : (23 ∈ [73, 99]) = False := eq_false (by decide)
theorem bkX11_ages_41 : blk BX11_ages 41 = some bX11_ages_41 := rfl
theorem hnX11_ages_41 : (41 ∈ [73, 99]) = False := eq_false (by decide)
theorem bkX11_ages_73 : blk BX11_ages 73 = some bX11_ages_73 := rfl
theorem hnX11_ages_73 : (73 ∈ [73, 99]) = True := eq_true (by decide)
theorem bkX11_ages_93 : blk BX11_ages 93 = some bX11_ages_93 := rfl
theorem hnX11_ages_93 : (93 ∈ [73, 99]) = False := eq_false (by decide)
theorem bkX11_ages_99 : blk BX11_ages 99 = some bX11_ages_99 := rfl
theorem hnX11_ages_99 : (99 ∈ [73, 99]) = True := eq_true (by decide)
theorem bkX11_ages_127 : blk BX11_ages 127 = some bX11_ages_127 := rfl
theorem hnX11_ages_127 : (127 ∈ [73, 99]) = False := eq_false (by decide)
theorem bkX11_ages_141 : blk BX11_ages 141 = some bX11_ages_141 := rfl
theorem hnX11_ages_141 : (141 ∈ [73, 99]) = False := eq_false (by decide)
theorem bkX11_ages_159 : blk BX11_ages 159 = some bX11_ages_159 := rfl
theorem hnX11_ages_159 : (159 ∈ [73, 99]) = False := eq_false (by decide)
theorem bkX11_ages_161 : blk BX11_ages 161 = some bX11_ages_161 := rfl
theorem hnX11_ages_161 : (161 ∈ [73, 99]) = False := eq_false (by decide)
theorem bkX11_copyTo_0 : blk BX11_copyTo 0 = some bX11_copyTo_0 := rfl
theorem hnX11_copyTo_0 : (0 ∈ [2]) = False := eq_false (by decide)
theorem bkX11_copyTo_2 : blk BX11_copyTo 2 = some bX11_copyTo_2 := rfl
theorem hnX11_copyTo_2 : (2 ∈ [2]) = True := eq_true (by decide)
theorem bkX11_copyTo_20 : blk BX11_copyTo 20 = some bX11_copyTo_20 := rfl
theorem hnX11_copyTo_20 : (20 ∈ [2]) = False := eq_false (by decide)
theorem bkX11_image_0 : blk BX11_image 0 = some bX11_image_0 := rfl
theorem bkX11_restore_0 : blk BX11_restore 0 = some bX11_restore_0 := rfl
theorem bkX11_restore_14 : blk BX11_restore 14 = some bX11_restore_14 := rfl
theorem hn_nil (k : Nat) : (k ∈ ([] : List Nat)) = False := eq_false List.not_mem_nil
