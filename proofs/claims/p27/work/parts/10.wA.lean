/-! written by wip/p27/gen out of the bytecode -/
theorem wfl_X1_18 : Cond.fieldLink RX1 18 RX1 "gain" "D" ∈ lwG := lwG_of (tb1 _ (List.mem_of_getElem? (i := 74) (by decide +kernel))) (by decide +kernel)
theorem fl_X1_18 : FL RX1 18 1 1 := ⟨by decide, by decide, rfl, wfl_X1_18⟩
theorem wfl_X1_22 : Cond.fieldLink RX1 22 RX1 "factor" "D" ∈ lwG := lwG_of (tb1 _ (List.mem_of_getElem? (i := 77) (by decide +kernel))) (by decide +kernel)
theorem fl_X1_22 : FL RX1 22 1 2 := ⟨by decide, by decide, rfl, wfl_X1_22⟩
theorem wfl_X1_25 : Cond.fieldLink RX1 25 RX1 "wear" "I" ∈ lwG := lwG_of (tb1 _ (List.mem_of_getElem? (i := 80) (by decide +kernel))) (by decide +kernel)
theorem fl_X1_25 : FL RX1 25 1 3 := ⟨by decide, by decide, rfl, wfl_X1_25⟩
theorem wfl_X1_28 : Cond.fieldLink RX1 28 RX1 "fixture" "I" ∈ lwG := lwG_of (tb1 _ (List.mem_of_getElem? (i := 83) (by decide +kernel))) (by decide +kernel)
theorem fl_X1_28 : FL RX1 28 1 4 := ⟨by decide, by decide, rfl, wfl_X1_28⟩
theorem wfl_X1_31 : Cond.fieldLink RX1 31 RX1 "testsSince" "I" ∈ lwG := lwG_of (tb1 _ (List.mem_of_getElem? (i := 85) (by decide +kernel))) (by decide +kernel)
theorem fl_X1_31 : FL RX1 31 1 5 := ⟨by decide, by decide, rfl, wfl_X1_31⟩
theorem wfl_X1_34 : Cond.fieldLink RX1 34 RX1 "part" "I" ∈ lwG := lwG_of (tb1 _ (List.mem_of_getElem? (i := 88) (by decide +kernel))) (by decide +kernel)
theorem fl_X1_34 : FL RX1 34 1 6 := ⟨by decide, by decide, rfl, wfl_X1_34⟩
theorem wfl_X1_37 : Cond.fieldLink RX1 37 RX1 "filled" "D" ∈ lwG := lwG_of (tb1 _ (List.mem_of_getElem? (i := 91) (by decide +kernel))) (by decide +kernel)
theorem fl_X1_37 : FL RX1 37 1 7 := ⟨by decide, by decide, rfl, wfl_X1_37⟩
theorem wfl_X1_40 : Cond.fieldLink RX1 40 RX1 "pressure" "D" ∈ lwG := lwG_of (tb1 _ (List.mem_of_getElem? (i := 94) (by decide +kernel))) (by decide +kernel)
theorem fl_X1_40 : FL RX1 40 1 8 := ⟨by decide, by decide, rfl, wfl_X1_40⟩
theorem wfl_X1_43 : Cond.fieldLink RX1 43 RX1 "stepsSince" "I" ∈ lwG := lwG_of (tb1 _ (List.mem_of_getElem? (i := 97) (by decide +kernel))) (by decide +kernel)
theorem fl_X1_43 : FL RX1 43 1 9 := ⟨by decide, by decide, rfl, wfl_X1_43⟩
theorem wfl_X1_46 : Cond.fieldLink RX1 46 RX1 "tests" "I" ∈ lwG := lwG_of (tb1 _ (List.mem_of_getElem? (i := 100) (by decide +kernel))) (by decide +kernel)
theorem fl_X1_46 : FL RX1 46 1 10 := ⟨by decide, by decide, rfl, wfl_X1_46⟩
theorem wfl_X1_49 : Cond.fieldLink RX1 49 RX1 "accepted" "I" ∈ lwG := lwG_of (tb1 _ (List.mem_of_getElem? (i := 103) (by decide +kernel))) (by decide +kernel)
theorem fl_X1_49 : FL RX1 49 1 11 := ⟨by decide, by decide, rfl, wfl_X1_49⟩
theorem wfl_X1_52 : Cond.fieldLink RX1 52 RX1 "rejected" "I" ∈ lwG := lwG_of (tb1 _ (List.mem_of_getElem? (i := 106) (by decide +kernel))) (by decide +kernel)
theorem fl_X1_52 : FL RX1 52 1 12 := ⟨by decide, by decide, rfl, wfl_X1_52⟩
theorem wfl_X1_55 : Cond.fieldLink RX1 55 RX1 "retests" "I" ∈ lwG := lwG_of (tb1 _ (List.mem_of_getElem? (i := 109) (by decide +kernel))) (by decide +kernel)
theorem fl_X1_55 : FL RX1 55 1 13 := ⟨by decide, by decide, rfl, wfl_X1_55⟩
theorem wm_X1_3 : Cond.methodLink RX1 3 objectInit ∈ lwG := lwG_of (tb1 _ (List.mem_of_getElem? (i := 67) (by decide +kernel))) (by decide +kernel)
theorem wn_obj : Cond.instanceMethod objectInit ∈ lwG := lwG_of (tb1 _ (List.mem_of_getElem? (i := 17) (by decide +kernel))) (by decide +kernel)
theorem wc_obj : Cond.code objectInit ⟨#[0xb1]⟩ 1 none ∈ lwG := lwG_of (tb1 _ (List.mem_of_getElem? (i := 18) (by decide +kernel))) (by decide +kernel)
theorem wfl_X1_9 : Cond.fieldLink RX1 9 RX1 "number" "I" ∈ lwG := lwG_of (tb1 _ (List.mem_of_getElem? (i := 72) (by decide +kernel))) (by decide +kernel)
theorem fl_X1_9 : FL RX1 9 1 0 := ⟨by decide, by decide, rfl, wfl_X1_9⟩
theorem wc_X1_begin : Cond.code yX1_begin cX1_begin 1 none ∈ lwG := lwG_of (tb1 _ (List.mem_of_getElem? (i := 71) (by decide +kernel))) (by decide +kernel)
theorem wi_X1 : Cond.initialized RX1 ∈ lwG := lwG_of (tb1 _ (List.mem_of_getElem? (i := 4) (by decide +kernel))) (by decide +kernel)
theorem wm_X1_15 : Cond.methodLink RX1 15 yX1_begin ∈ lwG := lwG_of (tb1 _ (List.mem_of_getElem? (i := 68) (by decide +kernel))) (by decide +kernel)
theorem cw_X1_15 : CW RX1 15 yX1_begin cX1_begin 1 none 0 := ⟨by decide +kernel, by decide +kernel, wc_X1_begin, wi_X1, wm_X1_15⟩
theorem wn_X1_begin : Cond.instanceMethod yX1_begin ∈ lwG := lwG_of (tb1 _ (List.mem_of_getElem? (i := 69) (by decide +kernel))) (by decide +kernel)
theorem ws_X1_begin : Cond.selects RX1 yX1_begin yX1_begin ∈ lwG := lwG_of (tb1 _ (List.mem_of_getElem? (i := 70) (by decide +kernel))) (by decide +kernel)
theorem iv_X1_begin : Cond.instanceMethod yX1_begin ∈ lwG ∧ Cond.selects (fC 1) yX1_begin yX1_begin ∈ lwG ∧ 1 < 7 := ⟨wn_X1_begin, ws_X1_begin, by decide⟩
theorem wfl_X2_25 : Cond.fieldLink RX2 25 RX2 "pipe" "Z" ∈ lwG := lwG_of (tb1 _ (List.mem_of_getElem? (i := 158) (by decide +kernel))) (by decide +kernel)
theorem fl_X2_25 : FL RX2 25 2 1 := ⟨by decide, by decide, rfl, wfl_X2_25⟩
theorem wfl_X2_29 : Cond.fieldLink RX2 29 RX2 "leak" "I" ∈ lwG := lwG_of (tb1 _ (List.mem_of_getElem? (i := 161) (by decide +kernel))) (by decide +kernel)
theorem fl_X2_29 : FL RX2 29 2 2 := ⟨by decide, by decide, rfl, wfl_X2_29⟩
theorem wfl_X2_32 : Cond.fieldLink RX2 32 RX2 "volume" "I" ∈ lwG := lwG_of (tb1 _ (List.mem_of_getElem? (i := 164) (by decide +kernel))) (by decide +kernel)
theorem fl_X2_32 : FL RX2 32 2 3 := ⟨by decide, by decide, rfl, wfl_X2_32⟩
theorem wfl_X2_22 : Cond.fieldLink RX2 22 RX2 "state" "I" ∈ lwG := lwG_of (tb1 _ (List.mem_of_getElem? (i := 167) (by decide +kernel))) (by decide +kernel)
theorem fl_X2_22 : FL RX2 22 2 4 := ⟨by decide, by decide, rfl, wfl_X2_22⟩
theorem wfl_X2_35 : Cond.fieldLink RX2 35 RX2 "place" "I" ∈ lwG := lwG_of (tb1 _ (List.mem_of_getElem? (i := 170) (by decide +kernel))) (by decide +kernel)
theorem fl_X2_35 : FL RX2 35 2 5 := ⟨by decide, by decide, rfl, wfl_X2_35⟩
theorem wfl_X2_38 : Cond.fieldLink RX2 38 RX2 "tests" "I" ∈ lwG := lwG_of (tb1 _ (List.mem_of_getElem? (i := 173) (by decide +kernel))) (by decide +kernel)
theorem fl_X2_38 : FL RX2 38 2 6 := ⟨by decide, by decide, rfl, wfl_X2_38⟩
theorem wfl_X2_41 : Cond.fieldLink RX2 41 RX2 "retests" "I" ∈ lwG := lwG_of (tb1 _ (List.mem_of_getElem? (i := 176) (by decide +kernel))) (by decide +kernel)
theorem fl_X2_41 : FL RX2 41 2 7 := ⟨by decide, by decide, rfl, wfl_X2_41⟩
theorem wfl_X2_44 : Cond.fieldLink RX2 44 RX2 "latestHead" "I" ∈ lwG := lwG_of (tb1 _ (List.mem_of_getElem? (i := 179) (by decide +kernel))) (by decide +kernel)
theorem fl_X2_44 : FL RX2 44 2 8 := ⟨by decide, by decide, rfl, wfl_X2_44⟩
theorem wfl_X2_47 : Cond.fieldLink RX2 47 RX2 "latestValue" "D" ∈ lwG := lwG_of (tb1 _ (List.mem_of_getElem? (i := 182) (by decide +kernel))) (by decide +kernel)
theorem fl_X2_47 : FL RX2 47 2 9 := ⟨by decide, by decide, rfl, wfl_X2_47⟩
theorem wfl_X2_51 : Cond.fieldLink RX2 51 RX2 "cause" "I" ∈ lwG := lwG_of (tb1 _ (List.mem_of_getElem? (i := 185) (by decide +kernel))) (by decide +kernel)
theorem fl_X2_51 : FL RX2 51 2 10 := ⟨by decide, by decide, rfl, wfl_X2_51⟩
theorem wc_X2_begin : Cond.code yX2_begin cX2_begin 5 none ∈ lwG := lwG_of (tb1 _ (List.mem_of_getElem? (i := 155) (by decide +kernel))) (by decide +kernel)
theorem wi_X2 : Cond.initialized RX2 ∈ lwG := lwG_of (tb1 _ (List.mem_of_getElem? (i := 5) (by decide +kernel))) (by decide +kernel)
theorem wm_X2_18 : Cond.methodLink RX2 18 yX2_begin ∈ lwG := lwG_of (tb1 _ (List.mem_of_getElem? (i := 152) (by decide +kernel))) (by decide +kernel)
theorem cw_X2_18 : CW RX2 18 yX2_begin cX2_begin 5 none 4 := ⟨by decide +kernel, by decide +kernel, wc_X2_begin, wi_X2, wm_X2_18⟩
theorem wn_X2_begin : Cond.instanceMethod yX2_begin ∈ lwG := lwG_of (tb1 _ (List.mem_of_getElem? (i := 153) (by decide +kernel))) (by decide +kernel)
theorem ws_X2_begin : Cond.selects RX2 yX2_begin yX2_begin ∈ lwG := lwG_of (tb1 _ (List.mem_of_getElem? (i := 154) (by decide +kernel))) (by decide +kernel)
theorem iv_X2_begin : Cond.instanceMethod yX2_begin ∈ lwG ∧ Cond.selects (fC 2) yX2_begin yX2_begin ∈ lwG ∧ 2 < 7 := ⟨wn_X2_begin, ws_X2_begin, by decide⟩
theorem wm_X2_3 : Cond.methodLink RX2 3 objectInit ∈ lwG := lwG_of (tb1 _ (List.mem_of_getElem? (i := 147) (by decide +kernel))) (by decide +kernel)
theorem wfl_X2_9 : Cond.fieldLink RX2 9 RX2 "number" "I" ∈ lwG := lwG_of (tb1 _ (List.mem_of_getElem? (i := 156) (by decide +kernel))) (by decide +kernel)
theorem fl_X2_9 : FL RX2 9 2 0 := ⟨by decide, by decide, rfl, wfl_X2_9⟩
theorem wc_X2_beAbsent : Cond.code yX2_beAbsent cX2_beAbsent 1 none ∈ lwG := lwG_of (tb1 _ (List.mem_of_getElem? (i := 151) (by decide +kernel))) (by decide +kernel)
theorem wm_X2_15 : Cond.methodLink RX2 15 yX2_beAbsent ∈ lwG := lwG_of (tb1 _ (List.mem_of_getElem? (i := 148) (by decide +kernel))) (by decide +kernel)
theorem cw_X2_15 : CW RX2 15 yX2_beAbsent cX2_beAbsent 1 none 0 := ⟨by decide +kernel, by decide +kernel, wc_X2_beAbsent, wi_X2, wm_X2_15⟩
theorem wn_X2_beAbsent : Cond.instanceMethod yX2_beAbsent ∈ lwG := lwG_of (tb1 _ (List.mem_of_getElem? (i := 149) (by decide +kernel))) (by decide +kernel)
theorem ws_X2_beAbsent : Cond.selects RX2 yX2_beAbsent yX2_beAbsent ∈ lwG := lwG_of (tb1 _ (List.mem_of_getElem? (i := 150) (by decide +kernel))) (by decide +kernel)
theorem iv_X2_beAbsent : Cond.instanceMethod yX2_beAbsent ∈ lwG ∧ Cond.selects (fC 2) yX2_beAbsent yX2_beAbsent ∈ lwG ∧ 2 < 7 := ⟨wn_X2_beAbsent, ws_X2_beAbsent, by decide⟩
theorem wk_X5_262 : Cond.constantLong RX5 262 (4503599627370495) ∈ lwG := lwG_of (tb1 _ (List.mem_of_getElem? (i := 37) (by decide +kernel))) (by decide +kernel)
theorem wk_X5_264 : Cond.constantLong RX5 264 (4503599627370496) ∈ lwG := lwG_of (tb1 _ (List.mem_of_getElem? (i := 38) (by decide +kernel))) (by decide +kernel)
theorem wk_X5_268 : Cond.constantDouble RX5 268 (4611686018427387904) ∈ lwG := lwG_of (tb1 _ (List.mem_of_getElem? (i := 40) (by decide +kernel))) (by decide +kernel)
theorem wk_X5_266 : Cond.constantDouble RX5 266 (4751297606875873280) ∈ lwG := lwG_of (tb1 _ (List.mem_of_getElem? (i := 39) (by decide +kernel))) (by decide +kernel)
theorem wm_X3_1 : Cond.methodLink RX3 1 objectInit ∈ lwG := lwG_of (tb1 _ (List.mem_of_getElem? (i := 33) (by decide +kernel))) (by decide +kernel)
theorem wfl_X3_7 : Cond.fieldLink RX3 7 RX3 "least" "J" ∈ lwG := lwG_of (tb1 _ (List.mem_of_getElem? (i := 41) (by decide +kernel))) (by decide +kernel)
theorem fl_X3_7 : FL RX3 7 3 0 := ⟨by decide, by decide, rfl, wfl_X3_7⟩
theorem wfl_X3_13 : Cond.fieldLink RX3 13 RX3 "most" "J" ∈ lwG := lwG_of (tb1 _ (List.mem_of_getElem? (i := 43) (by decide +kernel))) (by decide +kernel)
theorem fl_X3_13 : FL RX3 13 3 1 := ⟨by decide, by decide, rfl, wfl_X3_13⟩
theorem wfl_X3_16 : Cond.fieldLink RX3 16 RX3 "bits" "J" ∈ lwG := lwG_of (tb1 _ (List.mem_of_getElem? (i := 45) (by decide +kernel))) (by decide +kernel)
theorem fl_X3_16 : FL RX3 16 3 2 := ⟨by decide, by decide, rfl, wfl_X3_16⟩
theorem wc_X5_numberOf : Cond.code yX5_numberOf cX5_numberOf 8 (some .double) ∈ lwG := lwG_of (tb1 _ (List.mem_of_getElem? (i := 36) (by decide +kernel))) (by decide +kernel)
theorem wi_X5 : Cond.initialized RX5 ∈ lwG := lwG_of (tb1 _ (List.mem_of_getElem? (i := 1) (by decide +kernel))) (by decide +kernel)
theorem wt_X5_numberOf : Cond.static yX5_numberOf ∈ lwG := lwG_of (tb1 _ (List.mem_of_getElem? (i := 35) (by decide +kernel))) (by decide +kernel)
theorem cn_X5_numberOf : CN yX5_numberOf cX5_numberOf 8 (some .double) 1 := ⟨by decide +kernel, by decide +kernel, wc_X5_numberOf, wi_X5, wt_X5_numberOf⟩
theorem wfl_X3_25 : Cond.fieldLink RX3 25 RX3 "number" "D" ∈ lwG := lwG_of (tb1 _ (List.mem_of_getElem? (i := 47) (by decide +kernel))) (by decide +kernel)
theorem fl_X3_25 : FL RX3 25 3 3 := ⟨by decide, by decide, rfl, wfl_X3_25⟩
theorem wk_X5_260 : Cond.constantDouble RX5 260 (4652007308841189376) ∈ lwG := lwG_of (tb2 _ (List.mem_of_getElem? (i := 91) (by decide +kernel))) (by decide +kernel)
theorem wfl_X1_64 : Cond.fieldLink RX1 64 RX2 "number" "I" ∈ lwG := lwG_of (tb1 _ (List.mem_of_getElem? (i := 157) (by decide +kernel))) (by decide +kernel)
theorem fl_X1_64 : FL RX1 64 2 0 := ⟨by decide, by decide, rfl, wfl_X1_64⟩
theorem wfl_X1_58 : Cond.fieldLink RX1 58 RX2 "pipe" "Z" ∈ lwG := lwG_of (tb1 _ (List.mem_of_getElem? (i := 159) (by decide +kernel))) (by decide +kernel)
theorem fl_X1_58 : FL RX1 58 2 1 := ⟨by decide, by decide, rfl, wfl_X1_58⟩
theorem wm_X4_3 : Cond.methodLink RX4 3 objectInit ∈ lwG := lwG_of (tb2 _ (List.mem_of_getElem? (i := 12) (by decide +kernel))) (by decide +kernel)
theorem wa_char : Cond.arrayClass .char ∈ lwG := lwG_of (tb2 _ (List.mem_of_getElem? (i := 21) (by decide +kernel))) (by decide +kernel)
theorem wfl_X4_9 : Cond.fieldLink RX4 9 RX4 "signs" "[C" ∈ lwG := lwG_of (tb2 _ (List.mem_of_getElem? (i := 13) (by decide +kernel))) (by decide +kernel)
theorem fl_X4_9 : FL RX4 9 4 0 := ⟨by decide, by decide, rfl, wfl_X4_9⟩
theorem wfl_X4_15 : Cond.fieldLink RX4 15 RX4 "length" "I" ∈ lwG := lwG_of (tb2 _ (List.mem_of_getElem? (i := 14) (by decide +kernel))) (by decide +kernel)
theorem fl_X4_15 : FL RX4 15 4 1 := ⟨by decide, by decide, rfl, wfl_X4_15⟩
theorem wf_J0_38 : Cond.fieldLink RJ0 38 "java/lang/String" "COMPACT_STRINGS" "Z" ∈ lwG := lwG_of (tb2 _ (List.mem_of_getElem? (i := 160) (by decide +kernel))) (by decide +kernel)
theorem wf_J0_15 : Cond.fieldLink RJ0 15 "java/lang/String" "coder" "B" ∈ lwG := lwG_of (tb3 _ (List.mem_of_getElem? (i := 220) (by decide +kernel))) (by decide +kernel)
theorem wf_J0_1053 : Cond.fieldLink RJ0 1053 "jdk/internal/util/Preconditions" "SIOOBE_FORMATTER" "Ljava/util/function/BiFunction;" ∈ lwG := lwG_of (tb2 _ (List.mem_of_getElem? (i := 176) (by decide +kernel))) (by decide +kernel)
theorem wc_J3_checkIndex_8e157 : Cond.code yJ3_checkIndex_8e157 cJ3_checkIndex_8e157 3 (some .int) ∈ lwG := lwG_of (tb2 _ (List.mem_of_getElem? (i := 180) (by decide +kernel))) (by decide +kernel)
theorem wi_J3 : Cond.initialized RJ3 ∈ lwG := lwG_of (tb1 _ (List.mem_of_getElem? (i := 9) (by decide +kernel))) (by decide +kernel)
theorem wm_J0_1059 : Cond.methodLink RJ0 1059 yJ3_checkIndex_8e157 ∈ lwG := lwG_of (tb2 _ (List.mem_of_getElem? (i := 178) (by decide +kernel))) (by decide +kernel)
theorem cw_J0_1059 : CW RJ0 1059 yJ3_checkIndex_8e157 cJ3_checkIndex_8e157 3 (some .int) 3 := ⟨by decide +kernel, by decide +kernel, wc_J3_checkIndex_8e157, wi_J3, wm_J0_1059⟩
theorem wt_J3_checkIndex_8e157 : Cond.static yJ3_checkIndex_8e157 ∈ lwG := lwG_of (tb2 _ (List.mem_of_getElem? (i := 179) (by decide +kernel))) (by decide +kernel)
theorem wc_J0_checkIndex_df160 : Cond.code yJ0_checkIndex_df160 cJ0_checkIndex_df160 2 none ∈ lwG := lwG_of (tb2 _ (List.mem_of_getElem? (i := 175) (by decide +kernel))) (by decide +kernel)
theorem wi_J0 : Cond.initialized RJ0 ∈ lwG := lwG_of (tb1 _ (List.mem_of_getElem? (i := 7) (by decide +kernel))) (by decide +kernel)
theorem wm_J1_9 : Cond.methodLink RJ1 9 yJ0_checkIndex_df160 ∈ lwG := lwG_of (tb2 _ (List.mem_of_getElem? (i := 173) (by decide +kernel))) (by decide +kernel)
theorem cw_J1_9 : CW RJ1 9 yJ0_checkIndex_df160 cJ0_checkIndex_df160 2 none 2 := ⟨by decide +kernel, by decide +kernel, wc_J0_checkIndex_df160, wi_J0, wm_J1_9⟩
theorem wt_J0_checkIndex_df160 : Cond.static yJ0_checkIndex_df160 ∈ lwG := lwG_of (tb2 _ (List.mem_of_getElem? (i := 174) (by decide +kernel))) (by decide +kernel)
theorem wc_J0_isLatin1_aae02 : Cond.code yJ0_isLatin1_aae02 cJ0_isLatin1_aae02 1 (some .boolean) ∈ lwG := lwG_of (tb2 _ (List.mem_of_getElem? (i := 169) (by decide +kernel))) (by decide +kernel)
theorem wm_J0_492 : Cond.methodLink RJ0 492 yJ0_isLatin1_aae02 ∈ lwG := lwG_of (tb2 _ (List.mem_of_getElem? (i := 166) (by decide +kernel))) (by decide +kernel)
theorem cw_J0_492 : CW RJ0 492 yJ0_isLatin1_aae02 cJ0_isLatin1_aae02 1 (some .boolean) 0 := ⟨by decide +kernel, by decide +kernel, wc_J0_isLatin1_aae02, wi_J0, wm_J0_492⟩
theorem wn_J0_isLatin1_aae02 : Cond.instanceMethod yJ0_isLatin1_aae02 ∈ lwG := lwG_of (tb2 _ (List.mem_of_getElem? (i := 167) (by decide +kernel))) (by decide +kernel)
theorem ws_J0_isLatin1_aae02 : Cond.selects "java/lang/String" yJ0_isLatin1_aae02 yJ0_isLatin1_aae02 ∈ lwG := lwG_of (tb2 _ (List.mem_of_getElem? (i := 168) (by decide +kernel))) (by decide +kernel)
theorem ivs_J0_isLatin1_aae02 : Cond.instanceMethod yJ0_isLatin1_aae02 ∈ lwG ∧ Cond.selects "java/lang/String" yJ0_isLatin1_aae02 yJ0_isLatin1_aae02 ∈ lwG := ⟨wn_J0_isLatin1_aae02, ws_J0_isLatin1_aae02⟩
theorem wf_J0_9 : Cond.fieldLink RJ0 9 "java/lang/String" "value" "[B" ∈ lwG := lwG_of (tb3 _ (List.mem_of_getElem? (i := 219) (by decide +kernel))) (by decide +kernel)
theorem wc_J1_charAt_3b067 : Cond.code yJ1_charAt_3b067 cJ1_charAt_3b067 2 (some .char) ∈ lwG := lwG_of (tb2 _ (List.mem_of_getElem? (i := 172) (by decide +kernel))) (by decide +kernel)
theorem wi_J1 : Cond.initialized RJ1 ∈ lwG := lwG_of (tb1 _ (List.mem_of_getElem? (i := 8) (by decide +kernel))) (by decide +kernel)
theorem wm_J0_495 : Cond.methodLink RJ0 495 yJ1_charAt_3b067 ∈ lwG := lwG_of (tb2 _ (List.mem_of_getElem? (i := 170) (by decide +kernel))) (by decide +kernel)
theorem cw_J0_495 : CW RJ0 495 yJ1_charAt_3b067 cJ1_charAt_3b067 2 (some .char) 2 := ⟨by decide +kernel, by decide +kernel, wc_J1_charAt_3b067, wi_J1, wm_J0_495⟩
theorem wt_J1_charAt_3b067 : Cond.static yJ1_charAt_3b067 ∈ lwG := lwG_of (tb2 _ (List.mem_of_getElem? (i := 171) (by decide +kernel))) (by decide +kernel)
theorem wc_J0_coder_7d493 : Cond.code yJ0_coder_7d493 cJ0_coder_7d493 1 (some .byte) ∈ lwG := lwG_of (tb2 _ (List.mem_of_getElem? (i := 159) (by decide +kernel))) (by decide +kernel)
theorem wm_J0_335 : Cond.methodLink RJ0 335 yJ0_coder_7d493 ∈ lwG := lwG_of (tb2 _ (List.mem_of_getElem? (i := 156) (by decide +kernel))) (by decide +kernel)
theorem cw_J0_335 : CW RJ0 335 yJ0_coder_7d493 cJ0_coder_7d493 1 (some .byte) 0 := ⟨by decide +kernel, by decide +kernel, wc_J0_coder_7d493, wi_J0, wm_J0_335⟩
theorem wn_J0_coder_7d493 : Cond.instanceMethod yJ0_coder_7d493 ∈ lwG := lwG_of (tb2 _ (List.mem_of_getElem? (i := 157) (by decide +kernel))) (by decide +kernel)
theorem ws_J0_coder_7d493 : Cond.selects "java/lang/String" yJ0_coder_7d493 yJ0_coder_7d493 ∈ lwG := lwG_of (tb2 _ (List.mem_of_getElem? (i := 158) (by decide +kernel))) (by decide +kernel)
theorem ivs_J0_coder_7d493 : Cond.instanceMethod yJ0_coder_7d493 ∈ lwG ∧ Cond.selects "java/lang/String" yJ0_coder_7d493 yJ0_coder_7d493 ∈ lwG := ⟨wn_J0_coder_7d493, ws_J0_coder_7d493⟩
theorem wc_J0_length_8abf5 : Cond.code yJ0_length_8abf5 cJ0_length_8abf5 1 (some .int) ∈ lwG := lwG_of (tb2 _ (List.mem_of_getElem? (i := 155) (by decide +kernel))) (by decide +kernel)
theorem wm_X4_19 : Cond.methodLink RX4 19 yJ0_length_8abf5 ∈ lwG := lwG_of (tb2 _ (List.mem_of_getElem? (i := 152) (by decide +kernel))) (by decide +kernel)
theorem cw_X4_19 : CW RX4 19 yJ0_length_8abf5 cJ0_length_8abf5 1 (some .int) 0 := ⟨by decide +kernel, by decide +kernel, wc_J0_length_8abf5, wi_J0, wm_X4_19⟩
theorem wn_J0_length_8abf5 : Cond.instanceMethod yJ0_length_8abf5 ∈ lwG := lwG_of (tb2 _ (List.mem_of_getElem? (i := 153) (by decide +kernel))) (by decide +kernel)
theorem ws_J0_length_8abf5 : Cond.selects "java/lang/String" yJ0_length_8abf5 yJ0_length_8abf5 ∈ lwG := lwG_of (tb2 _ (List.mem_of_getElem? (i := 154) (by decide +kernel))) (by decide +kernel)
theorem ivs_J0_length_8abf5 : Cond.instanceMethod yJ0_length_8abf5 ∈ lwG ∧ Cond.selects "java/lang/String" yJ0_length_8abf5 yJ0_length_8abf5 ∈ lwG := ⟨wn_J0_length_8abf5, ws_J0_length_8abf5⟩
theorem wc_X4_signAt : Cond.code yX4_signAt cX4_signAt 2 (some .int) ∈ lwG := lwG_of (tb2 _ (List.mem_of_getElem? (i := 105) (by decide +kernel))) (by decide +kernel)
theorem wi_X4 : Cond.initialized RX4 ∈ lwG := lwG_of (tb1 _ (List.mem_of_getElem? (i := 6) (by decide +kernel))) (by decide +kernel)
theorem wm_X4_24 : Cond.methodLink RX4 24 yX4_signAt ∈ lwG := lwG_of (tb2 _ (List.mem_of_getElem? (i := 102) (by decide +kernel))) (by decide +kernel)
theorem cw_X4_24 : CW RX4 24 yX4_signAt cX4_signAt 2 (some .int) 1 := ⟨by decide +kernel, by decide +kernel, wc_X4_signAt, wi_X4, wm_X4_24⟩
theorem wn_X4_signAt : Cond.instanceMethod yX4_signAt ∈ lwG := lwG_of (tb2 _ (List.mem_of_getElem? (i := 104) (by decide +kernel))) (by decide +kernel)
theorem ws_X4_signAt : Cond.selects RX4 yX4_signAt yX4_signAt ∈ lwG := lwG_of (tb0 _ (List.mem_of_getElem? (i := 2) (by decide +kernel))) (by decide +kernel)
theorem iv_X4_signAt : Cond.instanceMethod yX4_signAt ∈ lwG ∧ Cond.selects (fC 4) yX4_signAt yX4_signAt ∈ lwG ∧ 4 < 7 := ⟨wn_X4_signAt, ws_X4_signAt, by decide⟩
theorem wc_J0_charAt_5068e : Cond.code yJ0_charAt_5068e cJ0_charAt_5068e 2 (some .char) ∈ lwG := lwG_of (tb2 _ (List.mem_of_getElem? (i := 165) (by decide +kernel))) (by decide +kernel)
theorem wm_X4_28 : Cond.methodLink RX4 28 yJ0_charAt_5068e ∈ lwG := lwG_of (tb2 _ (List.mem_of_getElem? (i := 162) (by decide +kernel))) (by decide +kernel)
theorem cw_X4_28 : CW RX4 28 yJ0_charAt_5068e cJ0_charAt_5068e 2 (some .char) 1 := ⟨by decide +kernel, by decide +kernel, wc_J0_charAt_5068e, wi_J0, wm_X4_28⟩
theorem wn_J0_charAt_5068e : Cond.instanceMethod yJ0_charAt_5068e ∈ lwG := lwG_of (tb2 _ (List.mem_of_getElem? (i := 163) (by decide +kernel))) (by decide +kernel)
theorem ws_J0_charAt_5068e : Cond.selects "java/lang/String" yJ0_charAt_5068e yJ0_charAt_5068e ∈ lwG := lwG_of (tb2 _ (List.mem_of_getElem? (i := 164) (by decide +kernel))) (by decide +kernel)
theorem ivs_J0_charAt_5068e : Cond.instanceMethod yJ0_charAt_5068e ∈ lwG ∧ Cond.selects "java/lang/String" yJ0_charAt_5068e yJ0_charAt_5068e ∈ lwG := ⟨wn_J0_charAt_5068e, ws_J0_charAt_5068e⟩
theorem wc_X4_isDigitAt : Cond.code yX4_isDigitAt cX4_isDigitAt 2 (some .boolean) ∈ lwG := lwG_of (tb2 _ (List.mem_of_getElem? (i := 117) (by decide +kernel))) (by decide +kernel)
theorem wm_X4_42 : Cond.methodLink RX4 42 yX4_isDigitAt ∈ lwG := lwG_of (tb2 _ (List.mem_of_getElem? (i := 114) (by decide +kernel))) (by decide +kernel)
theorem cw_X4_42 : CW RX4 42 yX4_isDigitAt cX4_isDigitAt 2 (some .boolean) 1 := ⟨by decide +kernel, by decide +kernel, wc_X4_isDigitAt, wi_X4, wm_X4_42⟩
theorem wn_X4_isDigitAt : Cond.instanceMethod yX4_isDigitAt ∈ lwG := lwG_of (tb2 _ (List.mem_of_getElem? (i := 116) (by decide +kernel))) (by decide +kernel)
theorem ws_X4_isDigitAt : Cond.selects RX4 yX4_isDigitAt yX4_isDigitAt ∈ lwG := lwG_of (tb0 _ (List.mem_of_getElem? (i := 5) (by decide +kernel))) (by decide +kernel)
theorem iv_X4_isDigitAt : Cond.instanceMethod yX4_isDigitAt ∈ lwG ∧ Cond.selects (fC 4) yX4_isDigitAt yX4_isDigitAt ∈ lwG ∧ 4 < 7 := ⟨wn_X4_isDigitAt, ws_X4_isDigitAt, by decide⟩
theorem wc_X4_behindDigits : Cond.code yX4_behindDigits cX4_behindDigits 4 (some .int) ∈ lwG := lwG_of (tb2 _ (List.mem_of_getElem? (i := 113) (by decide +kernel))) (by decide +kernel)
theorem wm_X4_38 : Cond.methodLink RX4 38 yX4_behindDigits ∈ lwG := lwG_of (tb2 _ (List.mem_of_getElem? (i := 110) (by decide +kernel))) (by decide +kernel)
theorem cw_X4_38 : CW RX4 38 yX4_behindDigits cX4_behindDigits 4 (some .int) 2 := ⟨by decide +kernel, by decide +kernel, wc_X4_behindDigits, wi_X4, wm_X4_38⟩
theorem wn_X4_behindDigits : Cond.instanceMethod yX4_behindDigits ∈ lwG := lwG_of (tb2 _ (List.mem_of_getElem? (i := 112) (by decide +kernel))) (by decide +kernel)
theorem ws_X4_behindDigits : Cond.selects RX4 yX4_behindDigits yX4_behindDigits ∈ lwG := lwG_of (tb0 _ (List.mem_of_getElem? (i := 4) (by decide +kernel))) (by decide +kernel)
theorem iv_X4_behindDigits : Cond.instanceMethod yX4_behindDigits ∈ lwG ∧ Cond.selects (fC 4) yX4_behindDigits yX4_behindDigits ∈ lwG ∧ 4 < 7 := ⟨wn_X4_behindDigits, ws_X4_behindDigits, by decide⟩
theorem wc_X4_behindLeak : Cond.code yX4_behindLeak cX4_behindLeak 2 (some .int) ∈ lwG := lwG_of (tb2 _ (List.mem_of_getElem? (i := 109) (by decide +kernel))) (by decide +kernel)
theorem wm_X4_32 : Cond.methodLink RX4 32 yX4_behindLeak ∈ lwG := lwG_of (tb2 _ (List.mem_of_getElem? (i := 106) (by decide +kernel))) (by decide +kernel)
theorem cw_X4_32 : CW RX4 32 yX4_behindLeak cX4_behindLeak 2 (some .int) 1 := ⟨by decide +kernel, by decide +kernel, wc_X4_behindLeak, wi_X4, wm_X4_32⟩
theorem wn_X4_behindLeak : Cond.instanceMethod yX4_behindLeak ∈ lwG := lwG_of (tb2 _ (List.mem_of_getElem? (i := 108) (by decide +kernel))) (by decide +kernel)
theorem ws_X4_behindLeak : Cond.selects RX4 yX4_behindLeak yX4_behindLeak ∈ lwG := lwG_of (tb0 _ (List.mem_of_getElem? (i := 3) (by decide +kernel))) (by decide +kernel)
theorem iv_X4_behindLeak : Cond.instanceMethod yX4_behindLeak ∈ lwG ∧ Cond.selects (fC 4) yX4_behindLeak yX4_behindLeak ∈ lwG ∧ 4 < 7 := ⟨wn_X4_behindLeak, ws_X4_behindLeak, by decide⟩
theorem wc_X4_behindVolume : Cond.code yX4_behindVolume cX4_behindVolume 2 (some .int) ∈ lwG := lwG_of (tb2 _ (List.mem_of_getElem? (i := 121) (by decide +kernel))) (by decide +kernel)
theorem wm_X4_35 : Cond.methodLink RX4 35 yX4_behindVolume ∈ lwG := lwG_of (tb2 _ (List.mem_of_getElem? (i := 118) (by decide +kernel))) (by decide +kernel)
theorem cw_X4_35 : CW RX4 35 yX4_behindVolume cX4_behindVolume 2 (some .int) 1 := ⟨by decide +kernel, by decide +kernel, wc_X4_behindVolume, wi_X4, wm_X4_35⟩
theorem wn_X4_behindVolume : Cond.instanceMethod yX4_behindVolume ∈ lwG := lwG_of (tb2 _ (List.mem_of_getElem? (i := 120) (by decide +kernel))) (by decide +kernel)
theorem ws_X4_behindVolume : Cond.selects RX4 yX4_behindVolume yX4_behindVolume ∈ lwG := lwG_of (tb0 _ (List.mem_of_getElem? (i := 6) (by decide +kernel))) (by decide +kernel)
theorem iv_X4_behindVolume : Cond.instanceMethod yX4_behindVolume ∈ lwG ∧ Cond.selects (fC 4) yX4_behindVolume yX4_behindVolume ∈ lwG ∧ 4 < 7 := ⟨wn_X4_behindVolume, ws_X4_behindVolume, by decide⟩
theorem wk_X5_258 : Cond.constantDouble RX5 258 (9221120237041090560) ∈ lwG := lwG_of (tb3 _ (List.mem_of_getElem? (i := 126) (by decide +kernel))) (by decide +kernel)
theorem wk_X5_272 : Cond.constant RX5 272 (8388608) ∈ lwG := lwG_of (tb3 _ (List.mem_of_getElem? (i := 108) (by decide +kernel))) (by decide +kernel)
theorem wk_X5_270 : Cond.constantDouble RX5 270 (4710765210229538816) ∈ lwG := lwG_of (tb3 _ (List.mem_of_getElem? (i := 107) (by decide +kernel))) (by decide +kernel)
theorem dX1_begin_0 : decode cX1_begin 0 = .ok (.aload_n 0, 1) := by decide +kernel
theorem dX1_begin_1 : decode cX1_begin 1 = .ok (.dconst 1, 1) := by decide +kernel
theorem dX1_begin_2 : decode cX1_begin 2 = .ok (.putfield 18, 3) := by decide +kernel
theorem dX1_begin_5 : decode cX1_begin 5 = .ok (.aload_n 0, 1) := by decide +kernel
theorem dX1_begin_6 : decode cX1_begin 6 = .ok (.dconst 1, 1) := by decide +kernel
theorem dX1_begin_7 : decode cX1_begin 7 = .ok (.putfield 22, 3) := by decide +kernel
theorem dX1_begin_10 : decode cX1_begin 10 = .ok (.aload_n 0, 1) := by decide +kernel
theorem dX1_begin_11 : decode cX1_begin 11 = .ok (.iconst 0, 1) := by decide +kernel
theorem dX1_begin_12 : decode cX1_begin 12 = .ok (.putfield 25, 3) := by decide +kernel
theorem dX1_begin_15 : decode cX1_begin 15 = .ok (.aload_n 0, 1) := by decide +kernel
theorem dX1_begin_16 : decode cX1_begin 16 = .ok (.iconst 0, 1) := by decide +kernel
theorem dX1_begin_17 : decode cX1_begin 17 = .ok (.putfield 28, 3) := by decide +kernel
theorem dX1_begin_20 : decode cX1_begin 20 = .ok (.aload_n 0, 1) := by decide +kernel
theorem dX1_begin_21 : decode cX1_begin 21 = .ok (.iconst 0, 1) := by decide +kernel
theorem dX1_begin_22 : decode cX1_begin 22 = .ok (.putfield 31, 3) := by decide +kernel
theorem dX1_begin_25 : decode cX1_begin 25 = .ok (.aload_n 0, 1) := by decide +kernel
theorem dX1_begin_26 : decode cX1_begin 26 = .ok (.bipush (-5), 2) := by decide +kernel
theorem dX1_begin_28 : decode cX1_begin 28 = .ok (.putfield 34, 3) := by decide +kernel
theorem dX1_begin_31 : decode cX1_begin 31 = .ok (.aload_n 0, 1) := by decide +kernel
theorem dX1_begin_32 : decode cX1_begin 32 = .ok (.dconst 0, 1) := by decide +kernel
theorem dX1_begin_33 : decode cX1_begin 33 = .ok (.putfield 37, 3) := by decide +kernel
theorem dX1_begin_36 : decode cX1_begin 36 = .ok (.aload_n 0, 1) := by decide +kernel
theorem dX1_begin_37 : decode cX1_begin 37 = .ok (.dconst 0, 1) := by decide +kernel
theorem dX1_begin_38 : decode cX1_begin 38 = .ok (.putfield 40, 3) := by decide +kernel
theorem dX1_begin_41 : decode cX1_begin 41 = .ok (.aload_n 0, 1) := by decide +kernel
theorem dX1_begin_42 : decode cX1_begin 42 = .ok (.iconst 0, 1) := by decide +kernel
theorem dX1_begin_43 : decode cX1_begin 43 = .ok (.putfield 43, 3) := by decide +kernel
theorem dX1_begin_46 : decode cX1_begin 46 = .ok (.aload_n 0, 1) := by decide +kernel
theorem dX1_begin_47 : decode cX1_begin 47 = .ok (.iconst 0, 1) := by decide +kernel
theorem dX1_begin_48 : decode cX1_begin 48 = .ok (.putfield 46, 3) := by decide +kernel
theorem dX1_begin_51 : decode cX1_begin 51 = .ok (.aload_n 0, 1) := by decide +kernel
theorem dX1_begin_52 : decode cX1_begin 52 = .ok (.iconst 0, 1) := by decide +kernel
theorem dX1_begin_53 : decode cX1_begin 53 = .ok (.putfield 49, 3) := by decide +kernel
theorem dX1_begin_56 : decode cX1_begin 56 = .ok (.aload_n 0, 1) := by decide +kernel
theorem dX1_begin_57 : decode cX1_begin 57 = .ok (.iconst 0, 1) := by decide +kernel
theorem dX1_begin_58 : decode cX1_begin 58 = .ok (.putfield 52, 3) := by decide +kernel
theorem dX1_begin_61 : decode cX1_begin 61 = .ok (.aload_n 0, 1) := by decide +kernel
theorem dX1_begin_62 : decode cX1_begin 62 = .ok (.iconst 0, 1) := by decide +kernel
theorem dX1_begin_63 : decode cX1_begin 63 = .ok (.putfield 55, 3) := by decide +kernel
theorem dX1_begin_66 : decode cX1_begin 66 = .ok (.return_, 1) := by decide +kernel
abbrev rmX1_begin : Room := { frames := 0, cells := 0, slots := 0, locals := 0 }
def w_X1_begin (n : Nat) (M : Mem) (t : Nat) (K : Mem → Prop) : Prop := ((t ≤ n ∧ kd t = (1, 0)) ∧ (∀ M2, M2 = sD M t 1 FP.dconst1 → (∀ M3, M3 = sD M2 t 2 FP.dconst1 → (∀ M4, M4 = sI M3 t 3 (0 : Int32) → (∀ M5, M5 = sI M4 t 4 (0 : Int32) → (∀ M6, M6 = sI M5 t 5 (0 : Int32) → (∀ M7, M7 = sI M6 t 6 (-5 : Int32) → (∀ M8, M8 = sD M7 t 7 FP.dconst0 → (∀ M9, M9 = sD M8 t 8 FP.dconst0 → (∀ M10, M10 = sI M9 t 9 (0 : Int32) → (∀ M11, M11 = sI M10 t 10 (0 : Int32) → (∀ M12, M12 = sI M11 t 11 (0 : Int32) → (∀ M13, M13 = sI M12 t 12 (0 : Int32) → (∀ M14, M14 = sI M13 t 13 (0 : Int32) → K M14))))))))))))))
set_option maxHeartbeats 4000000 in
set_option maxRecDepth 20000 in
theorem c_X1_begin (l : Launch) (E : Gl) (n : Nat) (M : Mem) (t : Nat) (K : Mem → Prop) (hw : w_X1_begin n M t K) : CT E l yX1_begin cX1_begin 1 none rmX1_begin n M [rV t] (PV E n K) := by
  refine g_met l (by decide) (Nat.le_of_ble_eq_true rfl) ?_
  intro p e s m args below meth c X hr hlk hnm hSz hOld
  change CX E p s m c _ _ RX1 at X
  unfold w_X1_begin at hw
  refine g_aload_n X dX1_begin_0 0 rfl ?_
  refine g_dconst1 X dX1_begin_1 ?_
  obtain ⟨hk1, hw⟩ := hw
  refine g_putD X dX1_begin_2 fl_X1_18 rfl (Or.inl rfl) ⟨hk1, hw⟩ (fun hw => ?_)
  refine g_topM (fun M2 hM2 => ?_)
  have hw := hw M2 hM2
  refine g_aload_n X dX1_begin_5 0 rfl ?_
  refine g_dconst1 X dX1_begin_6 ?_
  refine g_putD X dX1_begin_7 fl_X1_22 rfl (Or.inl rfl) ⟨hk1, hw⟩ (fun hw => ?_)
  refine g_topM (fun M3 hM3 => ?_)
  have hw := hw M3 hM3
  refine g_aload_n X dX1_begin_10 0 rfl ?_
  refine g_iconst X (0 : Int32) dX1_begin_11 (by decide) ?_
  refine g_putI X dX1_begin_12 fl_X1_25 rfl (Or.inl rfl) ⟨hk1, hw⟩ (fun hw => ?_)
  refine g_topM (fun M4 hM4 => ?_)
  have hw := hw M4 hM4
  refine g_aload_n X dX1_begin_15 0 rfl ?_
  refine g_iconst X (0 : Int32) dX1_begin_16 (by decide) ?_
  refine g_putI X dX1_begin_17 fl_X1_28 rfl (Or.inl rfl) ⟨hk1, hw⟩ (fun hw => ?_)
  refine g_topM (fun M5 hM5 => ?_)
  have hw := hw M5 hM5
  refine g_aload_n X dX1_begin_20 0 rfl ?_
  refine g_iconst X (0 : Int32) dX1_begin_21 (by decide) ?_
  refine g_putI X dX1_begin_22 fl_X1_31 rfl (Or.inl rfl) ⟨hk1, hw⟩ (fun hw => ?_)
  refine g_topM (fun M6 hM6 => ?_)
  have hw := hw M6 hM6
  refine g_aload_n X dX1_begin_25 0 rfl ?_
  refine g_bipush X (-5 : Int32) dX1_begin_26 (by decide) ?_
  refine g_putI X dX1_begin_28 fl_X1_34 rfl (Or.inl rfl) ⟨hk1, hw⟩ (fun hw => ?_)
  refine g_topM (fun M7 hM7 => ?_)
  have hw := hw M7 hM7
  refine g_aload_n X dX1_begin_31 0 rfl ?_
  refine g_dconst0 X dX1_begin_32 ?_
  refine g_putD X dX1_begin_33 fl_X1_37 rfl (Or.inl rfl) ⟨hk1, hw⟩ (fun hw => ?_)
  refine g_topM (fun M8 hM8 => ?_)
  have hw := hw M8 hM8
  refine g_aload_n X dX1_begin_36 0 rfl ?_
  refine g_dconst0 X dX1_begin_37 ?_
  refine g_putD X dX1_begin_38 fl_X1_40 rfl (Or.inl rfl) ⟨hk1, hw⟩ (fun hw => ?_)
  refine g_topM (fun M9 hM9 => ?_)
  have hw := hw M9 hM9
  refine g_aload_n X dX1_begin_41 0 rfl ?_
  refine g_iconst X (0 : Int32) dX1_begin_42 (by decide) ?_
  refine g_putI X dX1_begin_43 fl_X1_43 rfl (Or.inl rfl) ⟨hk1, hw⟩ (fun hw => ?_)
  refine g_topM (fun M10 hM10 => ?_)
  have hw := hw M10 hM10
  refine g_aload_n X dX1_begin_46 0 rfl ?_
  refine g_iconst X (0 : Int32) dX1_begin_47 (by decide) ?_
  refine g_putI X dX1_begin_48 fl_X1_46 rfl (Or.inl rfl) ⟨hk1, hw⟩ (fun hw => ?_)
  refine g_topM (fun M11 hM11 => ?_)
  have hw := hw M11 hM11
  refine g_aload_n X dX1_begin_51 0 rfl ?_
  refine g_iconst X (0 : Int32) dX1_begin_52 (by decide) ?_
  refine g_putI X dX1_begin_53 fl_X1_49 rfl (Or.inl rfl) ⟨hk1, hw⟩ (fun hw => ?_)
  refine g_topM (fun M12 hM12 => ?_)
  have hw := hw M12 hM12
  refine g_aload_n X dX1_begin_56 0 rfl ?_
  refine g_iconst X (0 : Int32) dX1_begin_57 (by decide) ?_
  refine g_putI X dX1_begin_58 fl_X1_52 rfl (Or.inl rfl) ⟨hk1, hw⟩ (fun hw => ?_)
  refine g_topM (fun M13 hM13 => ?_)
  have hw := hw M13 hM13
  refine g_aload_n X dX1_begin_61 0 rfl ?_
  refine g_iconst X (0 : Int32) dX1_begin_62 (by decide) ?_
  refine g_putI X dX1_begin_63 fl_X1_55 rfl (Or.inl rfl) ⟨hk1, hw⟩ (fun hw => ?_)
  refine g_topM (fun M14 hM14 => ?_)
  have hw := hw M14 hM14
  exact g_vret X hr hlk hSz hOld (Nat.le_refl _) dX1_begin_66 hw
theorem dX1_init_0 : decode cX1_init 0 = .ok (.aload_n 0, 1) := by decide +kernel
theorem dX1_init_1 : decode cX1_init 1 = .ok (.invokespecial 3, 3) := by decide +kernel
theorem dX1_init_4 : decode cX1_init 4 = .ok (.aload_n 0, 1) := by decide +kernel
theorem dX1_init_5 : decode cX1_init 5 = .ok (.iload_n 1, 1) := by decide +kernel
theorem dX1_init_6 : decode cX1_init 6 = .ok (.putfield 9, 3) := by decide +kernel
theorem dX1_init_9 : decode cX1_init 9 = .ok (.aload_n 0, 1) := by decide +kernel
theorem dX1_init_10 : decode cX1_init 10 = .ok (.invokevirtual 15, 3) := by decide +kernel
theorem dX1_init_13 : decode cX1_init 13 = .ok (.return_, 1) := by decide +kernel
abbrev rmX1_init : Room := { frames := 1, cells := 0, slots := 0, locals := 20 }
def w_X1_init (n : Nat) (M : Mem) (t : Nat) (p1 : Int32) (K : Mem → Prop) : Prop := (¬ t = 0 ∧ ((t ≤ n ∧ kd t = (1, 0)) ∧ (∀ M2, M2 = sI M t 0 p1 → w_X1_begin n M2 t  (fun M3 => K M3))))
set_option maxHeartbeats 4000000 in
set_option maxRecDepth 20000 in
theorem c_X1_init (l : Launch) (E : Gl) (n : Nat) (M : Mem) (t : Nat) (p1 : Int32) (K : Mem → Prop) (hw : w_X1_init n M t p1 K) : CT E l yX1_init cX1_init 2 none rmX1_init n M [rV t, iV p1] (PV E n K) := by
  refine g_met l (by decide) (Nat.le_of_ble_eq_true rfl) ?_
  intro p e s m args below meth c X hr hlk hnm hSz hOld
  change CX E p s m c _ _ RX1 at X
  unfold w_X1_init at hw
  refine g_aload_n X dX1_init_0 0 rfl ?_
  refine g_objInit X wm_X1_3 ⟨wn_obj, wc_obj⟩ dX1_init_1 (by decide) (by decide) hw (fun hw => ?_)
  refine g_aload_n X dX1_init_4 0 rfl ?_
  refine g_iload_n X dX1_init_5 1 rfl ?_
  obtain ⟨hk1, hw⟩ := hw
  refine g_putI X dX1_init_6 fl_X1_9 rfl (Or.inr ⟨rfl, hnm, rfl⟩) ⟨hk1, hw⟩ (fun hw => ?_)
  refine g_topM (fun M2 hM2 => ?_)
  have hw := hw M2 hM2
  refine g_aload_n X dX1_init_9 0 rfl ?_
  refine g_callv (pc' := 13) (rest := []) rfl (fun H locs ls d qR qL => g_runV X cw_X1_15 iv_X1_begin ⟨Nat.le_of_ble_eq_true rfl, Nat.le_of_ble_eq_true rfl⟩ dX1_init_10 (c_X1_begin l E n M2 t  _ hw) hk1 rfl rfl (Nat.le_of_ble_eq_true rfl) ⟨Nat.le_of_ble_eq_true rfl, Nat.le_of_ble_eq_true rfl⟩ qR qL) (fun M3 hw => ?_)
  exact g_vret X hr hlk hSz hOld (Nat.le_refl _) dX1_init_13 hw
theorem dX2_begin_0 : decode cX2_begin 0 = .ok (.aload_n 0, 1) := by decide +kernel
theorem dX2_begin_1 : decode cX2_begin 1 = .ok (.iload_n 1, 1) := by decide +kernel
theorem dX2_begin_2 : decode cX2_begin 2 = .ok (.putfield 25, 3) := by decide +kernel
theorem dX2_begin_5 : decode cX2_begin 5 = .ok (.aload_n 0, 1) := by decide +kernel
theorem dX2_begin_6 : decode cX2_begin 6 = .ok (.iload_n 2, 1) := by decide +kernel
theorem dX2_begin_7 : decode cX2_begin 7 = .ok (.putfield 29, 3) := by decide +kernel
theorem dX2_begin_10 : decode cX2_begin 10 = .ok (.aload_n 0, 1) := by decide +kernel
theorem dX2_begin_11 : decode cX2_begin 11 = .ok (.iload_n 3, 1) := by decide +kernel
theorem dX2_begin_12 : decode cX2_begin 12 = .ok (.putfield 32, 3) := by decide +kernel
theorem dX2_begin_15 : decode cX2_begin 15 = .ok (.aload_n 0, 1) := by decide +kernel
theorem dX2_begin_16 : decode cX2_begin 16 = .ok (.iconst 0, 1) := by decide +kernel
theorem dX2_begin_17 : decode cX2_begin 17 = .ok (.putfield 22, 3) := by decide +kernel
theorem dX2_begin_20 : decode cX2_begin 20 = .ok (.aload_n 0, 1) := by decide +kernel
theorem dX2_begin_21 : decode cX2_begin 21 = .ok (.iload 4, 2) := by decide +kernel
theorem dX2_begin_23 : decode cX2_begin 23 = .ok (.putfield 35, 3) := by decide +kernel
theorem dX2_begin_26 : decode cX2_begin 26 = .ok (.aload_n 0, 1) := by decide +kernel
theorem dX2_begin_27 : decode cX2_begin 27 = .ok (.iconst 0, 1) := by decide +kernel
theorem dX2_begin_28 : decode cX2_begin 28 = .ok (.putfield 38, 3) := by decide +kernel
theorem dX2_begin_31 : decode cX2_begin 31 = .ok (.aload_n 0, 1) := by decide +kernel
theorem dX2_begin_32 : decode cX2_begin 32 = .ok (.iconst 0, 1) := by decide +kernel
theorem dX2_begin_33 : decode cX2_begin 33 = .ok (.putfield 41, 3) := by decide +kernel
theorem dX2_begin_36 : decode cX2_begin 36 = .ok (.aload_n 0, 1) := by decide +kernel
theorem dX2_begin_37 : decode cX2_begin 37 = .ok (.bipush (-5), 2) := by decide +kernel
theorem dX2_begin_39 : decode cX2_begin 39 = .ok (.putfield 44, 3) := by decide +kernel
theorem dX2_begin_42 : decode cX2_begin 42 = .ok (.aload_n 0, 1) := by decide +kernel
theorem dX2_begin_43 : decode cX2_begin 43 = .ok (.dconst 0, 1) := by decide +kernel
theorem dX2_begin_44 : decode cX2_begin 44 = .ok (.putfield 47, 3) := by decide +kernel
theorem dX2_begin_47 : decode cX2_begin 47 = .ok (.aload_n 0, 1) := by decide +kernel
theorem dX2_begin_48 : decode cX2_begin 48 = .ok (.bipush (-5), 2) := by decide +kernel
theorem dX2_begin_50 : decode cX2_begin 50 = .ok (.putfield 51, 3) := by decide +kernel
theorem dX2_begin_53 : decode cX2_begin 53 = .ok (.return_, 1) := by decide +kernel
abbrev rmX2_begin : Room := { frames := 0, cells := 0, slots := 0, locals := 0 }
def w_X2_begin (n : Nat) (M : Mem) (t : Nat) (p1 : Int32) (p2 : Int32) (p3 : Int32) (p4 : Int32) (K : Mem → Prop) : Prop := ((t ≤ n ∧ kd t = (2, 0)) ∧ ((p1 = 0 ∨ p1 = 1) ∧ (∀ M3, M3 = sI M t 1 p1 → (∀ M4, M4 = sI M3 t 2 p2 → (∀ M5, M5 = sI M4 t 3 p3 → (∀ M6, M6 = sI M5 t 4 (0 : Int32) → (∀ M7, M7 = sI M6 t 5 p4 → (∀ M8, M8 = sI M7 t 6 (0 : Int32) → (∀ M9, M9 = sI M8 t 7 (0 : Int32) → (∀ M10, M10 = sI M9 t 8 (-5 : Int32) → (∀ M11, M11 = sD M10 t 9 FP.dconst0 → (∀ M12, M12 = sI M11 t 10 (-5 : Int32) → K M12))))))))))))
set_option maxHeartbeats 4000000 in
set_option maxRecDepth 20000 in
theorem c_X2_begin (l : Launch) (E : Gl) (n : Nat) (M : Mem) (t : Nat) (p1 : Int32) (p2 : Int32) (p3 : Int32) (p4 : Int32) (K : Mem → Prop) (hw : w_X2_begin n M t p1 p2 p3 p4 K) : CT E l yX2_begin cX2_begin 5 none rmX2_begin n M [rV t, iV p1, iV p2, iV p3, iV p4] (PV E n K) := by
  refine g_met l (by decide) (Nat.le_of_ble_eq_true rfl) ?_
  intro p e s m args below meth c X hr hlk hnm hSz hOld
  change CX E p s m c _ _ RX2 at X
  unfold w_X2_begin at hw
  refine g_aload_n X dX2_begin_0 0 rfl ?_
  refine g_iload_n X dX2_begin_1 1 rfl ?_
  obtain ⟨hk1, hw⟩ := hw
  obtain ⟨hq2, hw⟩ := hw
  refine g_putZ X dX2_begin_2 fl_X2_25 rfl (Or.inl rfl) ⟨hq2, hk1, hw⟩ (fun hw => ?_)
  refine g_topM (fun M3 hM3 => ?_)
  have hw := hw M3 hM3
  refine g_aload_n X dX2_begin_5 0 rfl ?_
  refine g_iload_n X dX2_begin_6 2 rfl ?_
  refine g_putI X dX2_begin_7 fl_X2_29 rfl (Or.inl rfl) ⟨hk1, hw⟩ (fun hw => ?_)
  refine g_topM (fun M4 hM4 => ?_)
  have hw := hw M4 hM4
  refine g_aload_n X dX2_begin_10 0 rfl ?_
  refine g_iload_n X dX2_begin_11 3 rfl ?_
  refine g_putI X dX2_begin_12 fl_X2_32 rfl (Or.inl rfl) ⟨hk1, hw⟩ (fun hw => ?_)
  refine g_topM (fun M5 hM5 => ?_)
  have hw := hw M5 hM5
  refine g_aload_n X dX2_begin_15 0 rfl ?_
  refine g_iconst X (0 : Int32) dX2_begin_16 (by decide) ?_
  refine g_putI X dX2_begin_17 fl_X2_22 rfl (Or.inl rfl) ⟨hk1, hw⟩ (fun hw => ?_)
  refine g_topM (fun M6 hM6 => ?_)
  have hw := hw M6 hM6
  refine g_aload_n X dX2_begin_20 0 rfl ?_
  refine g_iload X dX2_begin_21 4 rfl ?_
  refine g_putI X dX2_begin_23 fl_X2_35 rfl (Or.inl rfl) ⟨hk1, hw⟩ (fun hw => ?_)
  refine g_topM (fun M7 hM7 => ?_)
  have hw := hw M7 hM7
  refine g_aload_n X dX2_begin_26 0 rfl ?_
  refine g_iconst X (0 : Int32) dX2_begin_27 (by decide) ?_
  refine g_putI X dX2_begin_28 fl_X2_38 rfl (Or.inl rfl) ⟨hk1, hw⟩ (fun hw => ?_)
  refine g_topM (fun M8 hM8 => ?_)
  have hw := hw M8 hM8
  refine g_aload_n X dX2_begin_31 0 rfl ?_
  refine g_iconst X (0 : Int32) dX2_begin_32 (by decide) ?_
  refine g_putI X dX2_begin_33 fl_X2_41 rfl (Or.inl rfl) ⟨hk1, hw⟩ (fun hw => ?_)
  refine g_topM (fun M9 hM9 => ?_)
  have hw := hw M9 hM9
  refine g_aload_n X dX2_begin_36 0 rfl ?_
  refine g_bipush X (-5 : Int32) dX2_begin_37 (by decide) ?_
  refine g_putI X dX2_begin_39 fl_X2_44 rfl (Or.inl rfl) ⟨hk1, hw⟩ (fun hw => ?_)
  refine g_topM (fun M10 hM10 => ?_)
  have hw := hw M10 hM10
  refine g_aload_n X dX2_begin_42 0 rfl ?_
  refine g_dconst0 X dX2_begin_43 ?_
  refine g_putD X dX2_begin_44 fl_X2_47 rfl (Or.inl rfl) ⟨hk1, hw⟩ (fun hw => ?_)
  refine g_topM (fun M11 hM11 => ?_)
  have hw := hw M11 hM11
  refine g_aload_n X dX2_begin_47 0 rfl ?_
  refine g_bipush X (-5 : Int32) dX2_begin_48 (by decide) ?_
  refine g_putI X dX2_begin_50 fl_X2_51 rfl (Or.inl rfl) ⟨hk1, hw⟩ (fun hw => ?_)
  refine g_topM (fun M12 hM12 => ?_)
  have hw := hw M12 hM12
  exact g_vret X hr hlk hSz hOld (Nat.le_refl _) dX2_begin_53 hw
theorem dX2_beAbsent_0 : decode cX2_beAbsent 0 = .ok (.aload_n 0, 1) := by decide +kernel
theorem dX2_beAbsent_1 : decode cX2_beAbsent 1 = .ok (.iconst 0, 1) := by decide +kernel
theorem dX2_beAbsent_2 : decode cX2_beAbsent 2 = .ok (.iconst 0, 1) := by decide +kernel
theorem dX2_beAbsent_3 : decode cX2_beAbsent 3 = .ok (.iconst 1, 1) := by decide +kernel
theorem dX2_beAbsent_4 : decode cX2_beAbsent 4 = .ok (.bipush (-5), 2) := by decide +kernel
theorem dX2_beAbsent_6 : decode cX2_beAbsent 6 = .ok (.invokevirtual 18, 3) := by decide +kernel
theorem dX2_beAbsent_9 : decode cX2_beAbsent 9 = .ok (.aload_n 0, 1) := by decide +kernel
theorem dX2_beAbsent_10 : decode cX2_beAbsent 10 = .ok (.iconst (-1), 1) := by decide +kernel
theorem dX2_beAbsent_11 : decode cX2_beAbsent 11 = .ok (.putfield 22, 3) := by decide +kernel
theorem dX2_beAbsent_14 : decode cX2_beAbsent 14 = .ok (.return_, 1) := by decide +kernel
abbrev rmX2_beAbsent : Room := { frames := 1, cells := 0, slots := 0, locals := 24 }
def w_X2_beAbsent (n : Nat) (M : Mem) (t : Nat) (K : Mem → Prop) : Prop := ((t ≤ n ∧ kd t = (2, 0)) ∧ w_X2_begin n M t (0 : Int32) (0 : Int32) (1 : Int32) (-5 : Int32) (fun M2 => (∀ M3, M3 = sI M2 t 4 (-1 : Int32) → K M3)))
set_option maxHeartbeats 4000000 in
set_option maxRecDepth 20000 in
theorem c_X2_beAbsent (l : Launch) (E : Gl) (n : Nat) (M : Mem) (t : Nat) (K : Mem → Prop) (hw : w_X2_beAbsent n M t K) : CT E l yX2_beAbsent cX2_beAbsent 1 none rmX2_beAbsent n M [rV t] (PV E n K) := by
  refine g_met l (by decide) (Nat.le_of_ble_eq_true rfl) ?_
  intro p e s m args below meth c X hr hlk hnm hSz hOld
  change CX E p s m c _ _ RX2 at X
  unfold w_X2_beAbsent at hw
  refine g_aload_n X dX2_beAbsent_0 0 rfl ?_
  refine g_iconst X (0 : Int32) dX2_beAbsent_1 (by decide) ?_
  refine g_iconst X (0 : Int32) dX2_beAbsent_2 (by decide) ?_
  refine g_iconst X (1 : Int32) dX2_beAbsent_3 (by decide) ?_
  refine g_bipush X (-5 : Int32) dX2_beAbsent_4 (by decide) ?_
  obtain ⟨hk1, hw⟩ := hw
  refine g_callv (pc' := 9) (rest := []) rfl (fun H locs ls d qR qL => g_runV X cw_X2_18 iv_X2_begin ⟨Nat.le_of_ble_eq_true rfl, Nat.le_of_ble_eq_true rfl⟩ dX2_beAbsent_6 (c_X2_begin l E n M t (0 : Int32) (0 : Int32) (1 : Int32) (-5 : Int32) _ hw) hk1 rfl rfl (Nat.le_of_ble_eq_true rfl) ⟨Nat.le_of_ble_eq_true rfl, Nat.le_of_ble_eq_true rfl⟩ qR qL) (fun M2 hw => ?_)
  refine g_aload_n X dX2_beAbsent_9 0 rfl ?_
  refine g_iconst X (-1 : Int32) dX2_beAbsent_10 (by decide) ?_
  refine g_putI X dX2_beAbsent_11 fl_X2_22 rfl (Or.inl rfl) ⟨hk1, hw⟩ (fun hw => ?_)
  refine g_topM (fun M3 hM3 => ?_)
  have hw := hw M3 hM3
  exact g_vret X hr hlk hSz hOld (Nat.le_refl _) dX2_beAbsent_14 hw
theorem dX2_init_0 : decode cX2_init 0 = .ok (.aload_n 0, 1) := by decide +kernel
theorem dX2_init_1 : decode cX2_init 1 = .ok (.invokespecial 3, 3) := by decide +kernel
theorem dX2_init_4 : decode cX2_init 4 = .ok (.aload_n 0, 1) := by decide +kernel
theorem dX2_init_5 : decode cX2_init 5 = .ok (.iload_n 1, 1) := by decide +kernel
theorem dX2_init_6 : decode cX2_init 6 = .ok (.putfield 9, 3) := by decide +kernel
theorem dX2_init_9 : decode cX2_init 9 = .ok (.aload_n 0, 1) := by decide +kernel
theorem dX2_init_10 : decode cX2_init 10 = .ok (.invokevirtual 15, 3) := by decide +kernel
theorem dX2_init_13 : decode cX2_init 13 = .ok (.return_, 1) := by decide +kernel
abbrev rmX2_init : Room := { frames := 2, cells := 0, slots := 0, locals := 44 }
def w_X2_init (n : Nat) (M : Mem) (t : Nat) (p1 : Int32) (K : Mem → Prop) : Prop := (¬ t = 0 ∧ ((t ≤ n ∧ kd t = (2, 0)) ∧ (∀ M2, M2 = sI M t 0 p1 → w_X2_beAbsent n M2 t  (fun M3 => K M3))))
set_option maxHeartbeats 4000000 in
set_option maxRecDepth 20000 in
theorem c_X2_init (l : Launch) (E : Gl) (n : Nat) (M : Mem) (t : Nat) (p1 : Int32) (K : Mem → Prop) (hw : w_X2_init n M t p1 K) : CT E l yX2_init cX2_init 2 none rmX2_init n M [rV t, iV p1] (PV E n K) := by
  refine g_met l (by decide) (Nat.le_of_ble_eq_true rfl) ?_
  intro p e s m args below meth c X hr hlk hnm hSz hOld
  change CX E p s m c _ _ RX2 at X
  unfold w_X2_init at hw
  refine g_aload_n X dX2_init_0 0 rfl ?_
  refine g_objInit X wm_X2_3 ⟨wn_obj, wc_obj⟩ dX2_init_1 (by decide) (by decide) hw (fun hw => ?_)
  refine g_aload_n X dX2_init_4 0 rfl ?_
  refine g_iload_n X dX2_init_5 1 rfl ?_
  obtain ⟨hk1, hw⟩ := hw
  refine g_putI X dX2_init_6 fl_X2_9 rfl (Or.inr ⟨rfl, hnm, rfl⟩) ⟨hk1, hw⟩ (fun hw => ?_)
  refine g_topM (fun M2 hM2 => ?_)
  have hw := hw M2 hM2
  refine g_aload_n X dX2_init_9 0 rfl ?_
  refine g_callv (pc' := 13) (rest := []) rfl (fun H locs ls d qR qL => g_runV X cw_X2_15 iv_X2_beAbsent ⟨Nat.le_of_ble_eq_true rfl, Nat.le_of_ble_eq_true rfl⟩ dX2_init_10 (c_X2_beAbsent l E n M2 t  _ hw) hk1 rfl rfl (Nat.le_of_ble_eq_true rfl) ⟨Nat.le_of_ble_eq_true rfl, Nat.le_of_ble_eq_true rfl⟩ qR qL) (fun M3 hw => ?_)
  exact g_vret X hr hlk hSz hOld (Nat.le_refl _) dX2_init_13 hw
theorem dX5_numberOf_0 : decode cX5_numberOf 0 = .ok (.lload_n 0, 1) := by decide +kernel
theorem dX5_numberOf_1 : decode cX5_numberOf 1 = .ok (.bipush 52, 2) := by decide +kernel
theorem dX5_numberOf_3 : decode cX5_numberOf 3 = .ok (.lushr, 1) := by decide +kernel
theorem dX5_numberOf_4 : decode cX5_numberOf 4 = .ok (.l2i, 1) := by decide +kernel
theorem dX5_numberOf_5 : decode cX5_numberOf 5 = .ok (.istore_n 2, 1) := by decide +kernel
theorem dX5_numberOf_6 : decode cX5_numberOf 6 = .ok (.lload_n 0, 1) := by decide +kernel
theorem dX5_numberOf_7 : decode cX5_numberOf 7 = .ok (.ldc2_w 262, 3) := by decide +kernel
theorem dX5_numberOf_10 : decode cX5_numberOf 10 = .ok (.land, 1) := by decide +kernel
theorem dX5_numberOf_11 : decode cX5_numberOf 11 = .ok (.lstore_n 3, 1) := by decide +kernel
theorem dX5_numberOf_12 : decode cX5_numberOf 12 = .ok (.iload_n 2, 1) := by decide +kernel
theorem dX5_numberOf_13 : decode cX5_numberOf 13 = .ok (.ifCond .ne 8, 3) := by decide +kernel
theorem dX5_numberOf_16 : decode cX5_numberOf 16 = .ok (.lload_n 3, 1) := by decide +kernel
theorem dX5_numberOf_17 : decode cX5_numberOf 17 = .ok (.l2d, 1) := by decide +kernel
theorem dX5_numberOf_18 : decode cX5_numberOf 18 = .ok (.goto 9, 3) := by decide +kernel
theorem dX5_numberOf_21 : decode cX5_numberOf 21 = .ok (.lload_n 3, 1) := by decide +kernel
theorem dX5_numberOf_22 : decode cX5_numberOf 22 = .ok (.ldc2_w 264, 3) := by decide +kernel
theorem dX5_numberOf_25 : decode cX5_numberOf 25 = .ok (.ladd, 1) := by decide +kernel
theorem dX5_numberOf_26 : decode cX5_numberOf 26 = .ok (.l2d, 1) := by decide +kernel
theorem dX5_numberOf_27 : decode cX5_numberOf 27 = .ok (.dstore 5, 2) := by decide +kernel
theorem dX5_numberOf_29 : decode cX5_numberOf 29 = .ok (.iload_n 2, 1) := by decide +kernel
theorem dX5_numberOf_30 : decode cX5_numberOf 30 = .ok (.ifCond .ne 9, 3) := by decide +kernel
theorem dX5_numberOf_33 : decode cX5_numberOf 33 = .ok (.sipush 1074, 3) := by decide +kernel
theorem dX5_numberOf_36 : decode cX5_numberOf 36 = .ok (.goto 8, 3) := by decide +kernel
theorem dX5_numberOf_39 : decode cX5_numberOf 39 = .ok (.sipush 1075, 3) := by decide +kernel
theorem dX5_numberOf_42 : decode cX5_numberOf 42 = .ok (.iload_n 2, 1) := by decide +kernel
theorem dX5_numberOf_43 : decode cX5_numberOf 43 = .ok (.isub, 1) := by decide +kernel
theorem dX5_numberOf_44 : decode cX5_numberOf 44 = .ok (.istore 7, 2) := by decide +kernel
theorem dX5_numberOf_46 : decode cX5_numberOf 46 = .ok (.iload 7, 2) := by decide +kernel
theorem dX5_numberOf_48 : decode cX5_numberOf 48 = .ok (.bipush 32, 2) := by decide +kernel
theorem dX5_numberOf_50 : decode cX5_numberOf 50 = .ok (.if_icmp .lt 17, 3) := by decide +kernel
theorem dX5_numberOf_53 : decode cX5_numberOf 53 = .ok (.dload 5, 2) := by decide +kernel
theorem dX5_numberOf_55 : decode cX5_numberOf 55 = .ok (.ldc2_w 266, 3) := by decide +kernel
theorem dX5_numberOf_58 : decode cX5_numberOf 58 = .ok (.ddiv, 1) := by decide +kernel
theorem dX5_numberOf_59 : decode cX5_numberOf 59 = .ok (.dstore 5, 2) := by decide +kernel
theorem dX5_numberOf_61 : decode cX5_numberOf 61 = .ok (.iinc 7 (-32), 3) := by decide +kernel
theorem dX5_numberOf_64 : decode cX5_numberOf 64 = .ok (.goto (-18), 3) := by decide +kernel
theorem dX5_numberOf_67 : decode cX5_numberOf 67 = .ok (.iload 7, 2) := by decide +kernel
theorem dX5_numberOf_69 : decode cX5_numberOf 69 = .ok (.ifCond .le 17, 3) := by decide +kernel
theorem dX5_numberOf_72 : decode cX5_numberOf 72 = .ok (.dload 5, 2) := by decide +kernel
theorem dX5_numberOf_74 : decode cX5_numberOf 74 = .ok (.ldc2_w 268, 3) := by decide +kernel
theorem dX5_numberOf_77 : decode cX5_numberOf 77 = .ok (.ddiv, 1) := by decide +kernel
theorem dX5_numberOf_78 : decode cX5_numberOf 78 = .ok (.dstore 5, 2) := by decide +kernel
theorem dX5_numberOf_80 : decode cX5_numberOf 80 = .ok (.iinc 7 (-1), 3) := by decide +kernel
theorem dX5_numberOf_83 : decode cX5_numberOf 83 = .ok (.goto (-16), 3) := by decide +kernel
theorem dX5_numberOf_86 : decode cX5_numberOf 86 = .ok (.dload 5, 2) := by decide +kernel
theorem dX5_numberOf_88 : decode cX5_numberOf 88 = .ok (.dreturn, 1) := by decide +kernel
abbrev rmX5_numberOf : Room := { frames := 0, cells := 0, slots := 0, locals := 0 }
def w_X5_numberOf_L67 (n : Nat) (K : UInt64 → Mem → Prop) : Nat → Mem → UInt64 → Int32 → Prop
  | 0, _, _, _ => False
  | fuel + 1, M, g5, a7 => ((a7 ≤ 0 → K g5 M) ∧ (¬ a7 ≤ 0 → (vf_n64 (FP.ddiv g5 (4611686018427387904 : UInt64)) ∧ (∀ z5, z5 = FP.ddiv g5 (4611686018427387904 : UInt64) → (∀ x6, x6 = a7 + (-1 : Int32) → w_X5_numberOf_L67 n K fuel M z5 x6)))))
def w_X5_numberOf_L46 (n : Nat) (K : UInt64 → Mem → Prop) : Nat → Mem → UInt64 → Int32 → Prop
  | 0, _, _, _ => False
  | fuel + 1, M, g5, a7 => ((a7 < (32 : Int32) → w_X5_numberOf_L67 n K 4000 M g5 a7) ∧ (¬ a7 < (32 : Int32) → (vf_n64 (FP.ddiv g5 (4751297606875873280 : UInt64)) ∧ (∀ z7, z7 = FP.ddiv g5 (4751297606875873280 : UInt64) → (∀ x8, x8 = a7 + (-32 : Int32) → w_X5_numberOf_L46 n K fuel M z7 x8)))))
def w_X5_numberOf (n : Nat) (M : Mem) (p1 : Int64) (K : UInt64 → Mem → Prop) : Prop := (∀ x1, x1 = Int64.toInt32 ((Int64.toUInt64 p1 >>> ((Int32.toInt64 (52 : Int32)).toUInt64 &&& Int64.toUInt64 63)).toInt64) → (∀ y2, y2 = p1 &&& (4503599627370495 : Int64) → ((¬ x1 = 0 → (∀ z3, z3 = FP.l2d (y2 + (4503599627370496 : Int64)) → ((¬ x1 = 0 → (∀ x4, x4 = (1075 : Int32) - x1 → w_X5_numberOf_L46 n K 4000 M z3 x4)) ∧ (x1 = 0 → w_X5_numberOf_L46 n K 4000 M z3 (1074 : Int32))))) ∧ (x1 = 0 → (∀ z9, z9 = FP.l2d y2 → ((¬ x1 = 0 → (∀ x10, x10 = (1075 : Int32) - x1 → w_X5_numberOf_L46 n K 4000 M z9 x10)) ∧ (x1 = 0 → w_X5_numberOf_L46 n K 4000 M z9 (1074 : Int32))))))))
set_option maxHeartbeats 4000000 in
set_option maxRecDepth 20000 in
theorem c_X5_numberOf (l : Launch) (E : Gl) (n : Nat) (M : Mem) (p1 : Int64) (K : UInt64 → Mem → Prop) (hw : w_X5_numberOf n M p1 K) : CT E l yX5_numberOf cX5_numberOf 8 (some .double) rmX5_numberOf n M [lV p1] (PD E n K) := by
  refine g_met l (by decide) (Nat.le_of_ble_eq_true rfl) ?_
  intro p e s m args below meth c X hr hlk hnm hSz hOld
  change CX E p s m c _ _ RX5 at X
  have L67 : ∀ (fuel67 : Nat) (M : Mem) (g5 : UInt64) (a7 : Int32), w_X5_numberOf_L67 n K fuel67 M g5 a7 → G E p l e rmX5_numberOf s m args below meth c 8 n M 0 0 (MQD lw_cs below (PD E n K) args s rmX5_numberOf.cells rmX5_numberOf.slots (Ab E)) 67 [(5, dV g5), (7, iV a7)] [] := by
    intro fuel67
    induction fuel67 with
    | zero => intro M g5 a7 hw; exact False.elim hw
    | succ fuel67 ih67 =>
      intro M g5 a7 hw
      unfold w_X5_numberOf_L67 at hw
      refine g_iload X dX5_numberOf_67 1 rfl ?_
      refine g_if_le X 86 dX5_numberOf_69 (by decide) hw (fun hw => ?_) (fun hw => ?_)
      · refine g_dload X dX5_numberOf_86 0 rfl ?_
        exact g_dret X hr hlk hSz hOld (Nat.le_refl _) dX5_numberOf_88 hw
      · refine g_dload X dX5_numberOf_72 0 rfl ?_
        refine g_ldcD X (4611686018427387904 : UInt64) dX5_numberOf_74 wk_X5_268 ?_
        refine g_ddiv X dX5_numberOf_77 hw (fun hw => ?_)
        refine g_topD (fun z5 hz5 => ?_)
        have hw := hw z5 hz5
        refine g_dstore (lv' := [(5, dV z5), (7, iV a7)]) X dX5_numberOf_78 (by decide) rfl ?_
        obtain ⟨x6, hx6⟩ : ∃ y : Int32, y = a7 + (-1 : Int32) := ⟨_, rfl⟩
        have hw := hw x6 hx6
        refine g_iinc (lv' := [(7, iV x6), (5, dV z5)]) X x6 dX5_numberOf_80 1 rfl (by rw [hx6]; rfl) (by decide) rfl ?_
        refine g_goto X 67 dX5_numberOf_83 (by decide) ?_
        refine g_lvsub (lv' := [(5, dV z5), (7, iV x6)]) [1, 0] rfl ?_
        exact ih67 _ _ _ hw
  have L46 : ∀ (fuel46 : Nat) (M : Mem) (g5 : UInt64) (a7 : Int32), w_X5_numberOf_L46 n K fuel46 M g5 a7 → G E p l e rmX5_numberOf s m args below meth c 8 n M 0 0 (MQD lw_cs below (PD E n K) args s rmX5_numberOf.cells rmX5_numberOf.slots (Ab E)) 46 [(5, dV g5), (7, iV a7)] [] := by
    intro fuel46
    induction fuel46 with
    | zero => intro M g5 a7 hw; exact False.elim hw
    | succ fuel46 ih46 =>
      intro M g5 a7 hw
      unfold w_X5_numberOf_L46 at hw
      refine g_iload X dX5_numberOf_46 1 rfl ?_
      refine g_bipush X (32 : Int32) dX5_numberOf_48 (by decide) ?_
      refine g_icmp_lt X 67 dX5_numberOf_50 (by decide) hw (fun hw => ?_) (fun hw => ?_)
      · exact L67 _ _ _ _ hw
      · refine g_dload X dX5_numberOf_53 0 rfl ?_
        refine g_ldcD X (4751297606875873280 : UInt64) dX5_numberOf_55 wk_X5_266 ?_
        refine g_ddiv X dX5_numberOf_58 hw (fun hw => ?_)
        refine g_topD (fun z7 hz7 => ?_)
        have hw := hw z7 hz7
        refine g_dstore (lv' := [(5, dV z7), (7, iV a7)]) X dX5_numberOf_59 (by decide) rfl ?_
        obtain ⟨x8, hx8⟩ : ∃ y : Int32, y = a7 + (-32 : Int32) := ⟨_, rfl⟩
        have hw := hw x8 hx8
        refine g_iinc (lv' := [(7, iV x8), (5, dV z7)]) X x8 dX5_numberOf_61 1 rfl (by rw [hx8]; rfl) (by decide) rfl ?_
        refine g_goto X 46 dX5_numberOf_64 (by decide) ?_
        refine g_lvsub (lv' := [(5, dV z7), (7, iV x8)]) [1, 0] rfl ?_
        exact ih46 _ _ _ hw
  unfold w_X5_numberOf at hw
  refine g_lload_n X dX5_numberOf_0 0 rfl ?_
  refine g_bipush X (52 : Int32) dX5_numberOf_1 (by decide) ?_
  refine g_lushr X dX5_numberOf_3 ?_
  refine g_l2i X dX5_numberOf_4 ?_
  refine g_topI (fun x1 hx1 => ?_)
  have hw := hw x1 hx1
  refine g_istore_n (lv' := [(2, iV x1), (0, lV p1)]) X dX5_numberOf_5 (by decide) rfl ?_
  refine g_lload_n X dX5_numberOf_6 1 rfl ?_
  refine g_ldcL X (4503599627370495 : Int64) dX5_numberOf_7 wk_X5_262 ?_
  refine g_land X dX5_numberOf_10 ?_
  refine g_topJ (fun y2 hy2 => ?_)
  have hw := hw y2 hy2
  refine g_lstore_n (lv' := [(3, lV y2), (2, iV x1), (0, lV p1)]) X dX5_numberOf_11 (by decide) rfl ?_
  refine g_iload_n X dX5_numberOf_12 1 rfl ?_
  refine g_if_ne X 21 dX5_numberOf_13 (by decide) hw (fun hw => ?_) (fun hw => ?_)
  · refine g_lload_n X dX5_numberOf_21 0 rfl ?_
    refine g_ldcL X (4503599627370496 : Int64) dX5_numberOf_22 wk_X5_264 ?_
    refine g_ladd X dX5_numberOf_25 ?_
    refine g_l2d X dX5_numberOf_26 ?_
    refine g_topD (fun z3 hz3 => ?_)
    have hw := hw z3 hz3
    refine g_dstore (lv' := [(5, dV z3), (3, lV y2), (2, iV x1), (0, lV p1)]) X dX5_numberOf_27 (by decide) rfl ?_
    refine g_iload_n X dX5_numberOf_29 2 rfl ?_
    refine g_if_ne X 39 dX5_numberOf_30 (by decide) hw (fun hw => ?_) (fun hw => ?_)
    · refine g_sipush X (1075 : Int32) dX5_numberOf_39 (by decide) ?_
      refine g_iload_n X dX5_numberOf_42 2 rfl ?_
      refine g_isub X dX5_numberOf_43 ?_
      refine g_topI (fun x4 hx4 => ?_)
      have hw := hw x4 hx4
      refine g_istore (lv' := [(7, iV x4), (5, dV z3), (3, lV y2), (2, iV x1), (0, lV p1)]) X dX5_numberOf_44 (by decide) rfl ?_
      refine g_lvsub (lv' := [(5, dV z3), (7, iV x4)]) [1, 0] rfl ?_
      exact L46 _ _ _ _ hw
    · refine g_sipush X (1074 : Int32) dX5_numberOf_33 (by decide) ?_
      refine g_goto X 44 dX5_numberOf_36 (by decide) ?_
      refine g_istore (lv' := [(7, iV (1074 : Int32)), (5, dV z3), (3, lV y2), (2, iV x1), (0, lV p1)]) X dX5_numberOf_44 (by decide) rfl ?_
      refine g_lvsub (lv' := [(5, dV z3), (7, iV (1074 : Int32))]) [1, 0] rfl ?_
      exact L46 _ _ _ _ hw
  · refine g_lload_n X dX5_numberOf_16 0 rfl ?_
    refine g_l2d X dX5_numberOf_17 ?_
    refine g_goto X 27 dX5_numberOf_18 (by decide) ?_
    refine g_topD (fun z9 hz9 => ?_)
    have hw := hw z9 hz9
    refine g_dstore (lv' := [(5, dV z9), (3, lV y2), (2, iV x1), (0, lV p1)]) X dX5_numberOf_27 (by decide) rfl ?_
    refine g_iload_n X dX5_numberOf_29 2 rfl ?_
    refine g_if_ne X 39 dX5_numberOf_30 (by decide) hw (fun hw => ?_) (fun hw => ?_)
    · refine g_sipush X (1075 : Int32) dX5_numberOf_39 (by decide) ?_
      refine g_iload_n X dX5_numberOf_42 2 rfl ?_
      refine g_isub X dX5_numberOf_43 ?_
      refine g_topI (fun x10 hx10 => ?_)
      have hw := hw x10 hx10
      refine g_istore (lv' := [(7, iV x10), (5, dV z9), (3, lV y2), (2, iV x1), (0, lV p1)]) X dX5_numberOf_44 (by decide) rfl ?_
      refine g_lvsub (lv' := [(5, dV z9), (7, iV x10)]) [1, 0] rfl ?_
      exact L46 _ _ _ _ hw
    · refine g_sipush X (1074 : Int32) dX5_numberOf_33 (by decide) ?_
      refine g_goto X 44 dX5_numberOf_36 (by decide) ?_
      refine g_istore (lv' := [(7, iV (1074 : Int32)), (5, dV z9), (3, lV y2), (2, iV x1), (0, lV p1)]) X dX5_numberOf_44 (by decide) rfl ?_
      refine g_lvsub (lv' := [(5, dV z9), (7, iV (1074 : Int32))]) [1, 0] rfl ?_
      exact L46 _ _ _ _ hw
theorem dX3_init_0 : decode cX3_init 0 = .ok (.aload_n 0, 1) := by decide +kernel
theorem dX3_init_1 : decode cX3_init 1 = .ok (.invokespecial 1, 3) := by decide +kernel
theorem dX3_init_4 : decode cX3_init 4 = .ok (.aload_n 0, 1) := by decide +kernel
theorem dX3_init_5 : decode cX3_init 5 = .ok (.lload_n 1, 1) := by decide +kernel
theorem dX3_init_6 : decode cX3_init 6 = .ok (.putfield 7, 3) := by decide +kernel
theorem dX3_init_9 : decode cX3_init 9 = .ok (.aload_n 0, 1) := by decide +kernel
theorem dX3_init_10 : decode cX3_init 10 = .ok (.lload_n 3, 1) := by decide +kernel
theorem dX3_init_11 : decode cX3_init 11 = .ok (.putfield 13, 3) := by decide +kernel
theorem dX3_init_14 : decode cX3_init 14 = .ok (.aload_n 0, 1) := by decide +kernel
theorem dX3_init_15 : decode cX3_init 15 = .ok (.lload 5, 2) := by decide +kernel
theorem dX3_init_17 : decode cX3_init 17 = .ok (.putfield 16, 3) := by decide +kernel
theorem dX3_init_20 : decode cX3_init 20 = .ok (.aload_n 0, 1) := by decide +kernel
theorem dX3_init_21 : decode cX3_init 21 = .ok (.lload 5, 2) := by decide +kernel
theorem dX3_init_23 : decode cX3_init 23 = .ok (.invokestatic 19, 3) := by decide +kernel
theorem dX3_init_26 : decode cX3_init 26 = .ok (.putfield 25, 3) := by decide +kernel
theorem dX3_init_29 : decode cX3_init 29 = .ok (.return_, 1) := by decide +kernel
abbrev rmX3_init : Room := { frames := 1, cells := 0, slots := 0, locals := 27 }
def w_X3_init (n : Nat) (M : Mem) (t : Nat) (p1 : Int64) (p2 : Int64) (p3 : Int64) (K : Mem → Prop) : Prop := (¬ t = 0 ∧ ((t ≤ n ∧ kd t = (3, 0)) ∧ (∀ M2, M2 = sL M t 0 p1 → (∀ M3, M3 = sL M2 t 1 p2 → (∀ M4, M4 = sL M3 t 2 p3 → w_X5_numberOf n M4 p3 (fun z6 M5 => (∀ M7, M7 = sD M5 t 3 z6 → K M7)))))))
set_option maxHeartbeats 4000000 in
set_option maxRecDepth 20000 in
theorem c_X3_init (l : Launch) (E : Gl) (n : Nat) (M : Mem) (t : Nat) (p1 : Int64) (p2 : Int64) (p3 : Int64) (K : Mem → Prop) (hw : w_X3_init n M t p1 p2 p3 K) : CT E l yX3_init cX3_init 7 none rmX3_init n M [rV t, lV p1, lV p2, lV p3] (PV E n K) := by
  refine g_met l (by decide) (Nat.le_of_ble_eq_true rfl) ?_
  intro p e s m args below meth c X hr hlk hnm hSz hOld
  change CX E p s m c _ _ RX3 at X
  unfold w_X3_init at hw
  refine g_aload_n X dX3_init_0 0 rfl ?_
  refine g_objInit X wm_X3_1 ⟨wn_obj, wc_obj⟩ dX3_init_1 (by decide) (by decide) hw (fun hw => ?_)
  refine g_aload_n X dX3_init_4 0 rfl ?_
  refine g_lload_n X dX3_init_5 1 rfl ?_
  obtain ⟨hk1, hw⟩ := hw
  refine g_putL X dX3_init_6 fl_X3_7 rfl (Or.inr ⟨rfl, hnm, rfl⟩) ⟨hk1, hw⟩ (fun hw => ?_)
  refine g_topM (fun M2 hM2 => ?_)
  have hw := hw M2 hM2
  refine g_aload_n X dX3_init_9 0 rfl ?_
  refine g_lload_n X dX3_init_10 2 rfl ?_
  refine g_putL X dX3_init_11 fl_X3_13 rfl (Or.inr ⟨rfl, hnm, rfl⟩) ⟨hk1, hw⟩ (fun hw => ?_)
  refine g_topM (fun M3 hM3 => ?_)
  have hw := hw M3 hM3
  refine g_aload_n X dX3_init_14 0 rfl ?_
  refine g_lload X dX3_init_15 3 rfl ?_
  refine g_putL X dX3_init_17 fl_X3_16 rfl (Or.inl rfl) ⟨hk1, hw⟩ (fun hw => ?_)
  refine g_topM (fun M4 hM4 => ?_)
  have hw := hw M4 hM4
  refine g_aload_n X dX3_init_20 0 rfl ?_
  refine g_lload X dX3_init_21 3 rfl ?_
  refine g_calld (pc' := 26) (rest := [rV t]) rfl (fun H locs ls d qR qL => g_runN X cn_X5_numberOf (fun k => k.2.2.1) ⟨Nat.le_of_ble_eq_true rfl, Nat.le_of_ble_eq_true rfl⟩ dX3_init_23 (c_X5_numberOf l E n M4 p3 _ hw) rfl rfl (Nat.le_of_ble_eq_true rfl) ⟨Nat.le_of_ble_eq_true rfl, Nat.le_of_ble_eq_true rfl⟩ qR qL) (fun z6 M5 hw => ?_)
  refine g_putD X dX3_init_26 fl_X3_25 rfl (Or.inl rfl) ⟨hk1, hw⟩ (fun hw => ?_)
  refine g_topM (fun M7 hM7 => ?_)
  have hw := hw M7 hM7
  exact g_vret X hr hlk hSz hOld (Nat.le_refl _) dX3_init_29 hw
theorem dX1_copyOf_0 : decode cX1_copyOf 0 = .ok (.aload_n 0, 1) := by decide +kernel
theorem dX1_copyOf_1 : decode cX1_copyOf 1 = .ok (.aload_n 1, 1) := by decide +kernel
theorem dX1_copyOf_2 : decode cX1_copyOf 2 = .ok (.getfield 18, 3) := by decide +kernel
theorem dX1_copyOf_5 : decode cX1_copyOf 5 = .ok (.putfield 18, 3) := by decide +kernel
theorem dX1_copyOf_8 : decode cX1_copyOf 8 = .ok (.aload_n 0, 1) := by decide +kernel
theorem dX1_copyOf_9 : decode cX1_copyOf 9 = .ok (.aload_n 1, 1) := by decide +kernel
theorem dX1_copyOf_10 : decode cX1_copyOf 10 = .ok (.getfield 22, 3) := by decide +kernel
theorem dX1_copyOf_13 : decode cX1_copyOf 13 = .ok (.putfield 22, 3) := by decide +kernel
theorem dX1_copyOf_16 : decode cX1_copyOf 16 = .ok (.aload_n 0, 1) := by decide +kernel
theorem dX1_copyOf_17 : decode cX1_copyOf 17 = .ok (.aload_n 1, 1) := by decide +kernel
theorem dX1_copyOf_18 : decode cX1_copyOf 18 = .ok (.getfield 25, 3) := by decide +kernel
theorem dX1_copyOf_21 : decode cX1_copyOf 21 = .ok (.putfield 25, 3) := by decide +kernel
theorem dX1_copyOf_24 : decode cX1_copyOf 24 = .ok (.aload_n 0, 1) := by decide +kernel
theorem dX1_copyOf_25 : decode cX1_copyOf 25 = .ok (.aload_n 1, 1) := by decide +kernel
theorem dX1_copyOf_26 : decode cX1_copyOf 26 = .ok (.getfield 28, 3) := by decide +kernel
theorem dX1_copyOf_29 : decode cX1_copyOf 29 = .ok (.putfield 28, 3) := by decide +kernel
theorem dX1_copyOf_32 : decode cX1_copyOf 32 = .ok (.aload_n 0, 1) := by decide +kernel
theorem dX1_copyOf_33 : decode cX1_copyOf 33 = .ok (.aload_n 1, 1) := by decide +kernel
theorem dX1_copyOf_34 : decode cX1_copyOf 34 = .ok (.getfield 31, 3) := by decide +kernel
theorem dX1_copyOf_37 : decode cX1_copyOf 37 = .ok (.putfield 31, 3) := by decide +kernel
theorem dX1_copyOf_40 : decode cX1_copyOf 40 = .ok (.aload_n 0, 1) := by decide +kernel
theorem dX1_copyOf_41 : decode cX1_copyOf 41 = .ok (.aload_n 1, 1) := by decide +kernel
theorem dX1_copyOf_42 : decode cX1_copyOf 42 = .ok (.getfield 34, 3) := by decide +kernel
theorem dX1_copyOf_45 : decode cX1_copyOf 45 = .ok (.putfield 34, 3) := by decide +kernel
theorem dX1_copyOf_48 : decode cX1_copyOf 48 = .ok (.aload_n 0, 1) := by decide +kernel
theorem dX1_copyOf_49 : decode cX1_copyOf 49 = .ok (.aload_n 1, 1) := by decide +kernel
theorem dX1_copyOf_50 : decode cX1_copyOf 50 = .ok (.getfield 37, 3) := by decide +kernel
theorem dX1_copyOf_53 : decode cX1_copyOf 53 = .ok (.putfield 37, 3) := by decide +kernel
theorem dX1_copyOf_56 : decode cX1_copyOf 56 = .ok (.aload_n 0, 1) := by decide +kernel
theorem dX1_copyOf_57 : decode cX1_copyOf 57 = .ok (.aload_n 1, 1) := by decide +kernel
theorem dX1_copyOf_58 : decode cX1_copyOf 58 = .ok (.getfield 40, 3) := by decide +kernel
theorem dX1_copyOf_61 : decode cX1_copyOf 61 = .ok (.putfield 40, 3) := by decide +kernel
theorem dX1_copyOf_64 : decode cX1_copyOf 64 = .ok (.aload_n 0, 1) := by decide +kernel
theorem dX1_copyOf_65 : decode cX1_copyOf 65 = .ok (.aload_n 1, 1) := by decide +kernel
theorem dX1_copyOf_66 : decode cX1_copyOf 66 = .ok (.getfield 43, 3) := by decide +kernel
theorem dX1_copyOf_69 : decode cX1_copyOf 69 = .ok (.putfield 43, 3) := by decide +kernel
theorem dX1_copyOf_72 : decode cX1_copyOf 72 = .ok (.aload_n 0, 1) := by decide +kernel
theorem dX1_copyOf_73 : decode cX1_copyOf 73 = .ok (.aload_n 1, 1) := by decide +kernel
theorem dX1_copyOf_74 : decode cX1_copyOf 74 = .ok (.getfield 46, 3) := by decide +kernel
theorem dX1_copyOf_77 : decode cX1_copyOf 77 = .ok (.putfield 46, 3) := by decide +kernel
theorem dX1_copyOf_80 : decode cX1_copyOf 80 = .ok (.aload_n 0, 1) := by decide +kernel
theorem dX1_copyOf_81 : decode cX1_copyOf 81 = .ok (.aload_n 1, 1) := by decide +kernel
theorem dX1_copyOf_82 : decode cX1_copyOf 82 = .ok (.getfield 49, 3) := by decide +kernel
theorem dX1_copyOf_85 : decode cX1_copyOf 85 = .ok (.putfield 49, 3) := by decide +kernel
theorem dX1_copyOf_88 : decode cX1_copyOf 88 = .ok (.aload_n 0, 1) := by decide +kernel
theorem dX1_copyOf_89 : decode cX1_copyOf 89 = .ok (.aload_n 1, 1) := by decide +kernel
theorem dX1_copyOf_90 : decode cX1_copyOf 90 = .ok (.getfield 52, 3) := by decide +kernel
theorem dX1_copyOf_93 : decode cX1_copyOf 93 = .ok (.putfield 52, 3) := by decide +kernel
theorem dX1_copyOf_96 : decode cX1_copyOf 96 = .ok (.aload_n 0, 1) := by decide +kernel
theorem dX1_copyOf_97 : decode cX1_copyOf 97 = .ok (.aload_n 1, 1) := by decide +kernel
theorem dX1_copyOf_98 : decode cX1_copyOf 98 = .ok (.getfield 55, 3) := by decide +kernel
theorem dX1_copyOf_101 : decode cX1_copyOf 101 = .ok (.putfield 55, 3) := by decide +kernel
theorem dX1_copyOf_104 : decode cX1_copyOf 104 = .ok (.return_, 1) := by decide +kernel
abbrev rmX1_copyOf : Room := { frames := 0, cells := 0, slots := 0, locals := 0 }
def w_X1_copyOf (n : Nat) (M : Mem) (t : Nat) (p1 : Nat) (K : Mem → Prop) : Prop := ((p1 ≤ n ∧ kd p1 = (1, 0)) ∧ ((t ≤ n ∧ kd t = (1, 0)) ∧ (∀ M3, M3 = sD M t 1 (gD M p1 1) → (∀ M4, M4 = sD M3 t 2 (gD M3 p1 2) → (∀ M5, M5 = sI M4 t 3 (gI M4 p1 3) → (∀ M6, M6 = sI M5 t 4 (gI M5 p1 4) → (∀ M7, M7 = sI M6 t 5 (gI M6 p1 5) → (∀ M8, M8 = sI M7 t 6 (gI M7 p1 6) → (∀ M9, M9 = sD M8 t 7 (gD M8 p1 7) → (∀ M10, M10 = sD M9 t 8 (gD M9 p1 8) → (∀ M11, M11 = sI M10 t 9 (gI M10 p1 9) → (∀ M12, M12 = sI M11 t 10 (gI M11 p1 10) → (∀ M13, M13 = sI M12 t 11 (gI M12 p1 11) → (∀ M14, M14 = sI M13 t 12 (gI M13 p1 12) → (∀ M15, M15 = sI M14 t 13 (gI M14 p1 13) → K M15)))))))))))))))
set_option maxHeartbeats 4000000 in
set_option maxRecDepth 20000 in
theorem c_X1_copyOf (l : Launch) (E : Gl) (n : Nat) (M : Mem) (t : Nat) (p1 : Nat) (K : Mem → Prop) (hw : w_X1_copyOf n M t p1 K) : CT E l yX1_copyOf cX1_copyOf 2 none rmX1_copyOf n M [rV t, rV p1] (PV E n K) := by
  refine g_met l (by decide) (Nat.le_of_ble_eq_true rfl) ?_
  intro p e s m args below meth c X hr hlk hnm hSz hOld
  change CX E p s m c _ _ RX1 at X
  unfold w_X1_copyOf at hw
  refine g_aload_n X dX1_copyOf_0 0 rfl ?_
  refine g_aload_n X dX1_copyOf_1 1 rfl ?_
  obtain ⟨hk1, hw⟩ := hw
  refine g_get X (dV (gD M p1 1)) dX1_copyOf_2 fl_X1_18 (fun _ => rfl) ⟨hk1, hw⟩ (fun hw => ?_)
  obtain ⟨hk2, hw⟩ := hw
  refine g_putD X dX1_copyOf_5 fl_X1_18 rfl (Or.inl rfl) ⟨hk2, hw⟩ (fun hw => ?_)
  refine g_topM (fun M3 hM3 => ?_)
  have hw := hw M3 hM3
  refine g_aload_n X dX1_copyOf_8 0 rfl ?_
  refine g_aload_n X dX1_copyOf_9 1 rfl ?_
  refine g_get X (dV (gD M3 p1 2)) dX1_copyOf_10 fl_X1_22 (fun _ => rfl) ⟨hk1, hw⟩ (fun hw => ?_)
  refine g_putD X dX1_copyOf_13 fl_X1_22 rfl (Or.inl rfl) ⟨hk2, hw⟩ (fun hw => ?_)
  refine g_topM (fun M4 hM4 => ?_)
  have hw := hw M4 hM4
  refine g_aload_n X dX1_copyOf_16 0 rfl ?_
  refine g_aload_n X dX1_copyOf_17 1 rfl ?_
  refine g_get X (iV (gI M4 p1 3)) dX1_copyOf_18 fl_X1_25 (fun _ => rfl) ⟨hk1, hw⟩ (fun hw => ?_)
  refine g_putI X dX1_copyOf_21 fl_X1_25 rfl (Or.inl rfl) ⟨hk2, hw⟩ (fun hw => ?_)
  refine g_topM (fun M5 hM5 => ?_)
  have hw := hw M5 hM5
  refine g_aload_n X dX1_copyOf_24 0 rfl ?_
  refine g_aload_n X dX1_copyOf_25 1 rfl ?_
  refine g_get X (iV (gI M5 p1 4)) dX1_copyOf_26 fl_X1_28 (fun _ => rfl) ⟨hk1, hw⟩ (fun hw => ?_)
  refine g_putI X dX1_copyOf_29 fl_X1_28 rfl (Or.inl rfl) ⟨hk2, hw⟩ (fun hw => ?_)
  refine g_topM (fun M6 hM6 => ?_)
  have hw := hw M6 hM6
  refine g_aload_n X dX1_copyOf_32 0 rfl ?_
  refine g_aload_n X dX1_copyOf_33 1 rfl ?_
  refine g_get X (iV (gI M6 p1 5)) dX1_copyOf_34 fl_X1_31 (fun _ => rfl) ⟨hk1, hw⟩ (fun hw => ?_)
  refine g_putI X dX1_copyOf_37 fl_X1_31 rfl (Or.inl rfl) ⟨hk2, hw⟩ (fun hw => ?_)
  refine g_topM (fun M7 hM7 => ?_)
  have hw := hw M7 hM7
  refine g_aload_n X dX1_copyOf_40 0 rfl ?_
  refine g_aload_n X dX1_copyOf_41 1 rfl ?_
  refine g_get X (iV (gI M7 p1 6)) dX1_copyOf_42 fl_X1_34 (fun _ => rfl) ⟨hk1, hw⟩ (fun hw => ?_)
  refine g_putI X dX1_copyOf_45 fl_X1_34 rfl (Or.inl rfl) ⟨hk2, hw⟩ (fun hw => ?_)
  refine g_topM (fun M8 hM8 => ?_)
  have hw := hw M8 hM8
  refine g_aload_n X dX1_copyOf_48 0 rfl ?_
  refine g_aload_n X dX1_copyOf_49 1 rfl ?_
  refine g_get X (dV (gD M8 p1 7)) dX1_copyOf_50 fl_X1_37 (fun _ => rfl) ⟨hk1, hw⟩ (fun hw => ?_)
  refine g_putD X dX1_copyOf_53 fl_X1_37 rfl (Or.inl rfl) ⟨hk2, hw⟩ (fun hw => ?_)
  refine g_topM (fun M9 hM9 => ?_)
  have hw := hw M9 hM9
  refine g_aload_n X dX1_copyOf_56 0 rfl ?_
  refine g_aload_n X dX1_copyOf_57 1 rfl ?_
  refine g_get X (dV (gD M9 p1 8)) dX1_copyOf_58 fl_X1_40 (fun _ => rfl) ⟨hk1, hw⟩ (fun hw => ?_)
  refine g_putD X dX1_copyOf_61 fl_X1_40 rfl (Or.inl rfl) ⟨hk2, hw⟩ (fun hw => ?_)
  refine g_topM (fun M10 hM10 => ?_)
  have hw := hw M10 hM10
  refine g_aload_n X dX1_copyOf_64 0 rfl ?_
  refine g_aload_n X dX1_copyOf_65 1 rfl ?_
  refine g_get X (iV (gI M10 p1 9)) dX1_copyOf_66 fl_X1_43 (fun _ => rfl) ⟨hk1, hw⟩ (fun hw => ?_)
  refine g_putI X dX1_copyOf_69 fl_X1_43 rfl (Or.inl rfl) ⟨hk2, hw⟩ (fun hw => ?_)
  refine g_topM (fun M11 hM11 => ?_)
  have hw := hw M11 hM11
  refine g_aload_n X dX1_copyOf_72 0 rfl ?_
  refine g_aload_n X dX1_copyOf_73 1 rfl ?_
  refine g_get X (iV (gI M11 p1 10)) dX1_copyOf_74 fl_X1_46 (fun _ => rfl) ⟨hk1, hw⟩ (fun hw => ?_)
  refine g_putI X dX1_copyOf_77 fl_X1_46 rfl (Or.inl rfl) ⟨hk2, hw⟩ (fun hw => ?_)
  refine g_topM (fun M12 hM12 => ?_)
  have hw := hw M12 hM12
  refine g_aload_n X dX1_copyOf_80 0 rfl ?_
  refine g_aload_n X dX1_copyOf_81 1 rfl ?_
  refine g_get X (iV (gI M12 p1 11)) dX1_copyOf_82 fl_X1_49 (fun _ => rfl) ⟨hk1, hw⟩ (fun hw => ?_)
  refine g_putI X dX1_copyOf_85 fl_X1_49 rfl (Or.inl rfl) ⟨hk2, hw⟩ (fun hw => ?_)
  refine g_topM (fun M13 hM13 => ?_)
  have hw := hw M13 hM13
  refine g_aload_n X dX1_copyOf_88 0 rfl ?_
  refine g_aload_n X dX1_copyOf_89 1 rfl ?_
  refine g_get X (iV (gI M13 p1 12)) dX1_copyOf_90 fl_X1_52 (fun _ => rfl) ⟨hk1, hw⟩ (fun hw => ?_)
  refine g_putI X dX1_copyOf_93 fl_X1_52 rfl (Or.inl rfl) ⟨hk2, hw⟩ (fun hw => ?_)
  refine g_topM (fun M14 hM14 => ?_)
  have hw := hw M14 hM14
  refine g_aload_n X dX1_copyOf_96 0 rfl ?_
  refine g_aload_n X dX1_copyOf_97 1 rfl ?_
  refine g_get X (iV (gI M14 p1 13)) dX1_copyOf_98 fl_X1_55 (fun _ => rfl) ⟨hk1, hw⟩ (fun hw => ?_)
  refine g_putI X dX1_copyOf_101 fl_X1_55 rfl (Or.inl rfl) ⟨hk2, hw⟩ (fun hw => ?_)
  refine g_topM (fun M15 hM15 => ?_)
  have hw := hw M15 hM15
  exact g_vret X hr hlk hSz hOld (Nat.le_refl _) dX1_copyOf_104 hw
theorem dX2_copyOf_0 : decode cX2_copyOf 0 = .ok (.aload_n 0, 1) := by decide +kernel
theorem dX2_copyOf_1 : decode cX2_copyOf 1 = .ok (.aload_n 1, 1) := by decide +kernel
theorem dX2_copyOf_2 : decode cX2_copyOf 2 = .ok (.getfield 25, 3) := by decide +kernel
theorem dX2_copyOf_5 : decode cX2_copyOf 5 = .ok (.putfield 25, 3) := by decide +kernel
theorem dX2_copyOf_8 : decode cX2_copyOf 8 = .ok (.aload_n 0, 1) := by decide +kernel
theorem dX2_copyOf_9 : decode cX2_copyOf 9 = .ok (.aload_n 1, 1) := by decide +kernel
theorem dX2_copyOf_10 : decode cX2_copyOf 10 = .ok (.getfield 29, 3) := by decide +kernel
theorem dX2_copyOf_13 : decode cX2_copyOf 13 = .ok (.putfield 29, 3) := by decide +kernel
theorem dX2_copyOf_16 : decode cX2_copyOf 16 = .ok (.aload_n 0, 1) := by decide +kernel
theorem dX2_copyOf_17 : decode cX2_copyOf 17 = .ok (.aload_n 1, 1) := by decide +kernel
theorem dX2_copyOf_18 : decode cX2_copyOf 18 = .ok (.getfield 32, 3) := by decide +kernel
theorem dX2_copyOf_21 : decode cX2_copyOf 21 = .ok (.putfield 32, 3) := by decide +kernel
theorem dX2_copyOf_24 : decode cX2_copyOf 24 = .ok (.aload_n 0, 1) := by decide +kernel
theorem dX2_copyOf_25 : decode cX2_copyOf 25 = .ok (.aload_n 1, 1) := by decide +kernel
theorem dX2_copyOf_26 : decode cX2_copyOf 26 = .ok (.getfield 22, 3) := by decide +kernel
theorem dX2_copyOf_29 : decode cX2_copyOf 29 = .ok (.putfield 22, 3) := by decide +kernel
theorem dX2_copyOf_32 : decode cX2_copyOf 32 = .ok (.aload_n 0, 1) := by decide +kernel
theorem dX2_copyOf_33 : decode cX2_copyOf 33 = .ok (.aload_n 1, 1) := by decide +kernel
theorem dX2_copyOf_34 : decode cX2_copyOf 34 = .ok (.getfield 35, 3) := by decide +kernel
theorem dX2_copyOf_37 : decode cX2_copyOf 37 = .ok (.putfield 35, 3) := by decide +kernel
theorem dX2_copyOf_40 : decode cX2_copyOf 40 = .ok (.aload_n 0, 1) := by decide +kernel
theorem dX2_copyOf_41 : decode cX2_copyOf 41 = .ok (.aload_n 1, 1) := by decide +kernel
theorem dX2_copyOf_42 : decode cX2_copyOf 42 = .ok (.getfield 38, 3) := by decide +kernel
theorem dX2_copyOf_45 : decode cX2_copyOf 45 = .ok (.putfield 38, 3) := by decide +kernel
theorem dX2_copyOf_48 : decode cX2_copyOf 48 = .ok (.aload_n 0, 1) := by decide +kernel
theorem dX2_copyOf_49 : decode cX2_copyOf 49 = .ok (.aload_n 1, 1) := by decide +kernel
theorem dX2_copyOf_50 : decode cX2_copyOf 50 = .ok (.getfield 41, 3) := by decide +kernel
theorem dX2_copyOf_53 : decode cX2_copyOf 53 = .ok (.putfield 41, 3) := by decide +kernel
theorem dX2_copyOf_56 : decode cX2_copyOf 56 = .ok (.aload_n 0, 1) := by decide +kernel
theorem dX2_copyOf_57 : decode cX2_copyOf 57 = .ok (.aload_n 1, 1) := by decide +kernel
theorem dX2_copyOf_58 : decode cX2_copyOf 58 = .ok (.getfield 44, 3) := by decide +kernel
theorem dX2_copyOf_61 : decode cX2_copyOf 61 = .ok (.putfield 44, 3) := by decide +kernel
theorem dX2_copyOf_64 : decode cX2_copyOf 64 = .ok (.aload_n 0, 1) := by decide +kernel
theorem dX2_copyOf_65 : decode cX2_copyOf 65 = .ok (.aload_n 1, 1) := by decide +kernel
theorem dX2_copyOf_66 : decode cX2_copyOf 66 = .ok (.getfield 47, 3) := by decide +kernel
theorem dX2_copyOf_69 : decode cX2_copyOf 69 = .ok (.putfield 47, 3) := by decide +kernel
theorem dX2_copyOf_72 : decode cX2_copyOf 72 = .ok (.aload_n 0, 1) := by decide +kernel
theorem dX2_copyOf_73 : decode cX2_copyOf 73 = .ok (.aload_n 1, 1) := by decide +kernel
theorem dX2_copyOf_74 : decode cX2_copyOf 74 = .ok (.getfield 51, 3) := by decide +kernel
theorem dX2_copyOf_77 : decode cX2_copyOf 77 = .ok (.putfield 51, 3) := by decide +kernel
theorem dX2_copyOf_80 : decode cX2_copyOf 80 = .ok (.return_, 1) := by decide +kernel
abbrev rmX2_copyOf : Room := { frames := 0, cells := 0, slots := 0, locals := 0 }
def w_X2_copyOf (n : Nat) (M : Mem) (t : Nat) (p1 : Nat) (K : Mem → Prop) : Prop := ((p1 ≤ n ∧ kd p1 = (2, 0)) ∧ ((t ≤ n ∧ kd t = (2, 0)) ∧ (((gI M p1 1) = 0 ∨ (gI M p1 1) = 1) ∧ (∀ M4, M4 = sI M t 1 (gI M p1 1) → (∀ M5, M5 = sI M4 t 2 (gI M4 p1 2) → (∀ M6, M6 = sI M5 t 3 (gI M5 p1 3) → (∀ M7, M7 = sI M6 t 4 (gI M6 p1 4) → (∀ M8, M8 = sI M7 t 5 (gI M7 p1 5) → (∀ M9, M9 = sI M8 t 6 (gI M8 p1 6) → (∀ M10, M10 = sI M9 t 7 (gI M9 p1 7) → (∀ M11, M11 = sI M10 t 8 (gI M10 p1 8) → (∀ M12, M12 = sD M11 t 9 (gD M11 p1 9) → (∀ M13, M13 = sI M12 t 10 (gI M12 p1 10) → K M13)))))))))))))
set_option maxHeartbeats 4000000 in
set_option maxRecDepth 20000 in
theorem c_X2_copyOf (l : Launch) (E : Gl) (n : Nat) (M : Mem) (t : Nat) (p1 : Nat) (K : Mem → Prop) (hw : w_X2_copyOf n M t p1 K) : CT E l yX2_copyOf cX2_copyOf 2 none rmX2_copyOf n M [rV t, rV p1] (PV E n K) := by
  refine g_met l (by decide) (Nat.le_of_ble_eq_true rfl) ?_
  intro p e s m args below meth c X hr hlk hnm hSz hOld
  change CX E p s m c _ _ RX2 at X
  unfold w_X2_copyOf at hw
  refine g_aload_n X dX2_copyOf_0 0 rfl ?_
  refine g_aload_n X dX2_copyOf_1 1 rfl ?_
  obtain ⟨hk1, hw⟩ := hw
  refine g_get X (iV (gI M p1 1)) dX2_copyOf_2 fl_X2_25 (fun _ => rfl) ⟨hk1, hw⟩ (fun hw => ?_)
  obtain ⟨hk2, hw⟩ := hw
  obtain ⟨hq3, hw⟩ := hw
  refine g_putZ X dX2_copyOf_5 fl_X2_25 rfl (Or.inl rfl) ⟨hq3, hk2, hw⟩ (fun hw => ?_)
  refine g_topM (fun M4 hM4 => ?_)
  have hw := hw M4 hM4
  refine g_aload_n X dX2_copyOf_8 0 rfl ?_
  refine g_aload_n X dX2_copyOf_9 1 rfl ?_
  refine g_get X (iV (gI M4 p1 2)) dX2_copyOf_10 fl_X2_29 (fun _ => rfl) ⟨hk1, hw⟩ (fun hw => ?_)
  refine g_putI X dX2_copyOf_13 fl_X2_29 rfl (Or.inl rfl) ⟨hk2, hw⟩ (fun hw => ?_)
  refine g_topM (fun M5 hM5 => ?_)
  have hw := hw M5 hM5
  refine g_aload_n X dX2_copyOf_16 0 rfl ?_
  refine g_aload_n X dX2_copyOf_17 1 rfl ?_
  refine g_get X (iV (gI M5 p1 3)) dX2_copyOf_18 fl_X2_32 (fun _ => rfl) ⟨hk1, hw⟩ (fun hw => ?_)
  refine g_putI X dX2_copyOf_21 fl_X2_32 rfl (Or.inl rfl) ⟨hk2, hw⟩ (fun hw => ?_)
  refine g_topM (fun M6 hM6 => ?_)
  have hw := hw M6 hM6
  refine g_aload_n X dX2_copyOf_24 0 rfl ?_
  refine g_aload_n X dX2_copyOf_25 1 rfl ?_
  refine g_get X (iV (gI M6 p1 4)) dX2_copyOf_26 fl_X2_22 (fun _ => rfl) ⟨hk1, hw⟩ (fun hw => ?_)
  refine g_putI X dX2_copyOf_29 fl_X2_22 rfl (Or.inl rfl) ⟨hk2, hw⟩ (fun hw => ?_)
  refine g_topM (fun M7 hM7 => ?_)
  have hw := hw M7 hM7
  refine g_aload_n X dX2_copyOf_32 0 rfl ?_
  refine g_aload_n X dX2_copyOf_33 1 rfl ?_
  refine g_get X (iV (gI M7 p1 5)) dX2_copyOf_34 fl_X2_35 (fun _ => rfl) ⟨hk1, hw⟩ (fun hw => ?_)
  refine g_putI X dX2_copyOf_37 fl_X2_35 rfl (Or.inl rfl) ⟨hk2, hw⟩ (fun hw => ?_)
  refine g_topM (fun M8 hM8 => ?_)
  have hw := hw M8 hM8
  refine g_aload_n X dX2_copyOf_40 0 rfl ?_
  refine g_aload_n X dX2_copyOf_41 1 rfl ?_
  refine g_get X (iV (gI M8 p1 6)) dX2_copyOf_42 fl_X2_38 (fun _ => rfl) ⟨hk1, hw⟩ (fun hw => ?_)
  refine g_putI X dX2_copyOf_45 fl_X2_38 rfl (Or.inl rfl) ⟨hk2, hw⟩ (fun hw => ?_)
  refine g_topM (fun M9 hM9 => ?_)
  have hw := hw M9 hM9
  refine g_aload_n X dX2_copyOf_48 0 rfl ?_
  refine g_aload_n X dX2_copyOf_49 1 rfl ?_
  refine g_get X (iV (gI M9 p1 7)) dX2_copyOf_50 fl_X2_41 (fun _ => rfl) ⟨hk1, hw⟩ (fun hw => ?_)
  refine g_putI X dX2_copyOf_53 fl_X2_41 rfl (Or.inl rfl) ⟨hk2, hw⟩ (fun hw => ?_)
  refine g_topM (fun M10 hM10 => ?_)
  have hw := hw M10 hM10
  refine g_aload_n X dX2_copyOf_56 0 rfl ?_
  refine g_aload_n X dX2_copyOf_57 1 rfl ?_
  refine g_get X (iV (gI M10 p1 8)) dX2_copyOf_58 fl_X2_44 (fun _ => rfl) ⟨hk1, hw⟩ (fun hw => ?_)
  refine g_putI X dX2_copyOf_61 fl_X2_44 rfl (Or.inl rfl) ⟨hk2, hw⟩ (fun hw => ?_)
  refine g_topM (fun M11 hM11 => ?_)
  have hw := hw M11 hM11
  refine g_aload_n X dX2_copyOf_64 0 rfl ?_
  refine g_aload_n X dX2_copyOf_65 1 rfl ?_
  refine g_get X (dV (gD M11 p1 9)) dX2_copyOf_66 fl_X2_47 (fun _ => rfl) ⟨hk1, hw⟩ (fun hw => ?_)
  refine g_putD X dX2_copyOf_69 fl_X2_47 rfl (Or.inl rfl) ⟨hk2, hw⟩ (fun hw => ?_)
  refine g_topM (fun M12 hM12 => ?_)
  have hw := hw M12 hM12
  refine g_aload_n X dX2_copyOf_72 0 rfl ?_
  refine g_aload_n X dX2_copyOf_73 1 rfl ?_
  refine g_get X (iV (gI M12 p1 10)) dX2_copyOf_74 fl_X2_51 (fun _ => rfl) ⟨hk1, hw⟩ (fun hw => ?_)
  refine g_putI X dX2_copyOf_77 fl_X2_51 rfl (Or.inl rfl) ⟨hk2, hw⟩ (fun hw => ?_)
  refine g_topM (fun M13 hM13 => ?_)
  have hw := hw M13 hM13
  exact g_vret X hr hlk hSz hOld (Nat.le_refl _) dX2_copyOf_80 hw
theorem dX3_copyOf_0 : decode cX3_copyOf 0 = .ok (.aload_n 0, 1) := by decide +kernel
theorem dX3_copyOf_1 : decode cX3_copyOf 1 = .ok (.aload_n 1, 1) := by decide +kernel
theorem dX3_copyOf_2 : decode cX3_copyOf 2 = .ok (.getfield 16, 3) := by decide +kernel
theorem dX3_copyOf_5 : decode cX3_copyOf 5 = .ok (.putfield 16, 3) := by decide +kernel
theorem dX3_copyOf_8 : decode cX3_copyOf 8 = .ok (.aload_n 0, 1) := by decide +kernel
theorem dX3_copyOf_9 : decode cX3_copyOf 9 = .ok (.aload_n 1, 1) := by decide +kernel
theorem dX3_copyOf_10 : decode cX3_copyOf 10 = .ok (.getfield 25, 3) := by decide +kernel
theorem dX3_copyOf_13 : decode cX3_copyOf 13 = .ok (.putfield 25, 3) := by decide +kernel
theorem dX3_copyOf_16 : decode cX3_copyOf 16 = .ok (.return_, 1) := by decide +kernel
abbrev rmX3_copyOf : Room := { frames := 0, cells := 0, slots := 0, locals := 0 }
def w_X3_copyOf (n : Nat) (M : Mem) (t : Nat) (p1 : Nat) (K : Mem → Prop) : Prop := ((p1 ≤ n ∧ kd p1 = (3, 0)) ∧ ((t ≤ n ∧ kd t = (3, 0)) ∧ (∀ M3, M3 = sL M t 2 (gL M p1 2) → (∀ M4, M4 = sD M3 t 3 (gD M3 p1 3) → K M4))))
set_option maxHeartbeats 4000000 in
set_option maxRecDepth 20000 in
theorem c_X3_copyOf (l : Launch) (E : Gl) (n : Nat) (M : Mem) (t : Nat) (p1 : Nat) (K : Mem → Prop) (hw : w_X3_copyOf n M t p1 K) : CT E l yX3_copyOf cX3_copyOf 2 none rmX3_copyOf n M [rV t, rV p1] (PV E n K) := by
  refine g_met l (by decide) (Nat.le_of_ble_eq_true rfl) ?_
  intro p e s m args below meth c X hr hlk hnm hSz hOld
  change CX E p s m c _ _ RX3 at X
  unfold w_X3_copyOf at hw
  refine g_aload_n X dX3_copyOf_0 0 rfl ?_
  refine g_aload_n X dX3_copyOf_1 1 rfl ?_
  obtain ⟨hk1, hw⟩ := hw
  refine g_get X (lV (gL M p1 2)) dX3_copyOf_2 fl_X3_16 (fun _ => rfl) ⟨hk1, hw⟩ (fun hw => ?_)
  obtain ⟨hk2, hw⟩ := hw
  refine g_putL X dX3_copyOf_5 fl_X3_16 rfl (Or.inl rfl) ⟨hk2, hw⟩ (fun hw => ?_)
  refine g_topM (fun M3 hM3 => ?_)
  have hw := hw M3 hM3
  refine g_aload_n X dX3_copyOf_8 0 rfl ?_
  refine g_aload_n X dX3_copyOf_9 1 rfl ?_
  refine g_get X (dV (gD M3 p1 3)) dX3_copyOf_10 fl_X3_25 (fun _ => rfl) ⟨hk1, hw⟩ (fun hw => ?_)
  refine g_putD X dX3_copyOf_13 fl_X3_25 rfl (Or.inl rfl) ⟨hk2, hw⟩ (fun hw => ?_)
  refine g_topM (fun M4 hM4 => ?_)
  have hw := hw M4 hM4
  exact g_vret X hr hlk hSz hOld (Nat.le_refl _) dX3_copyOf_16 hw
theorem dX2_rejectFor_0 : decode cX2_rejectFor 0 = .ok (.aload_n 0, 1) := by decide +kernel
theorem dX2_rejectFor_1 : decode cX2_rejectFor 1 = .ok (.iconst 3, 1) := by decide +kernel
theorem dX2_rejectFor_2 : decode cX2_rejectFor 2 = .ok (.putfield 22, 3) := by decide +kernel
theorem dX2_rejectFor_5 : decode cX2_rejectFor 5 = .ok (.aload_n 0, 1) := by decide +kernel
theorem dX2_rejectFor_6 : decode cX2_rejectFor 6 = .ok (.bipush (-5), 2) := by decide +kernel
theorem dX2_rejectFor_8 : decode cX2_rejectFor 8 = .ok (.putfield 35, 3) := by decide +kernel
theorem dX2_rejectFor_11 : decode cX2_rejectFor 11 = .ok (.aload_n 0, 1) := by decide +kernel
theorem dX2_rejectFor_12 : decode cX2_rejectFor 12 = .ok (.iload_n 1, 1) := by decide +kernel
theorem dX2_rejectFor_13 : decode cX2_rejectFor 13 = .ok (.putfield 51, 3) := by decide +kernel
theorem dX2_rejectFor_16 : decode cX2_rejectFor 16 = .ok (.return_, 1) := by decide +kernel
abbrev rmX2_rejectFor : Room := { frames := 0, cells := 0, slots := 0, locals := 0 }
def w_X2_rejectFor (n : Nat) (M : Mem) (t : Nat) (p1 : Int32) (K : Mem → Prop) : Prop := ((t ≤ n ∧ kd t = (2, 0)) ∧ (∀ M2, M2 = sI M t 4 (3 : Int32) → (∀ M3, M3 = sI M2 t 5 (-5 : Int32) → (∀ M4, M4 = sI M3 t 10 p1 → K M4))))
set_option maxHeartbeats 4000000 in
set_option maxRecDepth 20000 in
theorem c_X2_rejectFor (l : Launch) (E : Gl) (n : Nat) (M : Mem) (t : Nat) (p1 : Int32) (K : Mem → Prop) (hw : w_X2_rejectFor n M t p1 K) : CT E l yX2_rejectFor cX2_rejectFor 2 none rmX2_rejectFor n M [rV t, iV p1] (PV E n K) := by
  refine g_met l (by decide) (Nat.le_of_ble_eq_true rfl) ?_
  intro p e s m args below meth c X hr hlk hnm hSz hOld
  change CX E p s m c _ _ RX2 at X
  unfold w_X2_rejectFor at hw
  refine g_aload_n X dX2_rejectFor_0 0 rfl ?_
  refine g_iconst X (3 : Int32) dX2_rejectFor_1 (by decide) ?_
  obtain ⟨hk1, hw⟩ := hw
  refine g_putI X dX2_rejectFor_2 fl_X2_22 rfl (Or.inl rfl) ⟨hk1, hw⟩ (fun hw => ?_)
  refine g_topM (fun M2 hM2 => ?_)
  have hw := hw M2 hM2
  refine g_aload_n X dX2_rejectFor_5 0 rfl ?_
  refine g_bipush X (-5 : Int32) dX2_rejectFor_6 (by decide) ?_
  refine g_putI X dX2_rejectFor_8 fl_X2_35 rfl (Or.inl rfl) ⟨hk1, hw⟩ (fun hw => ?_)
  refine g_topM (fun M3 hM3 => ?_)
  have hw := hw M3 hM3
  refine g_aload_n X dX2_rejectFor_11 0 rfl ?_
  refine g_iload_n X dX2_rejectFor_12 1 rfl ?_
  refine g_putI X dX2_rejectFor_13 fl_X2_51 rfl (Or.inl rfl) ⟨hk1, hw⟩ (fun hw => ?_)
  refine g_topM (fun M4 hM4 => ?_)
  have hw := hw M4 hM4
  exact g_vret X hr hlk hSz hOld (Nat.le_refl _) dX2_rejectFor_16 hw
theorem dX5_decayed_0 : decode cX5_decayed 0 = .ok (.dload_n 0, 1) := by decide +kernel
theorem dX5_decayed_1 : decode cX5_decayed 1 = .ok (.dstore 5, 2) := by decide +kernel
theorem dX5_decayed_3 : decode cX5_decayed 3 = .ok (.iconst 0, 1) := by decide +kernel
theorem dX5_decayed_4 : decode cX5_decayed 4 = .ok (.istore 7, 2) := by decide +kernel
theorem dX5_decayed_6 : decode cX5_decayed 6 = .ok (.iload 7, 2) := by decide +kernel
theorem dX5_decayed_8 : decode cX5_decayed 8 = .ok (.iload 4, 2) := by decide +kernel
theorem dX5_decayed_10 : decode cX5_decayed 10 = .ok (.if_icmp .ge 41, 3) := by decide +kernel
theorem dX5_decayed_13 : decode cX5_decayed 13 = .ok (.dload 5, 2) := by decide +kernel
theorem dX5_decayed_15 : decode cX5_decayed 15 = .ok (.dload 5, 2) := by decide +kernel
theorem dX5_decayed_17 : decode cX5_decayed 17 = .ok (.iload_n 2, 1) := by decide +kernel
theorem dX5_decayed_18 : decode cX5_decayed 18 = .ok (.i2d, 1) := by decide +kernel
theorem dX5_decayed_19 : decode cX5_decayed 19 = .ok (.dmul, 1) := by decide +kernel
theorem dX5_decayed_20 : decode cX5_decayed 20 = .ok (.ldc2_w 260, 3) := by decide +kernel
theorem dX5_decayed_23 : decode cX5_decayed 23 = .ok (.iload_n 3, 1) := by decide +kernel
theorem dX5_decayed_24 : decode cX5_decayed 24 = .ok (.i2d, 1) := by decide +kernel
theorem dX5_decayed_25 : decode cX5_decayed 25 = .ok (.dmul, 1) := by decide +kernel
theorem dX5_decayed_26 : decode cX5_decayed 26 = .ok (.ddiv, 1) := by decide +kernel
theorem dX5_decayed_27 : decode cX5_decayed 27 = .ok (.dsub, 1) := by decide +kernel
theorem dX5_decayed_28 : decode cX5_decayed 28 = .ok (.dstore 8, 2) := by decide +kernel
theorem dX5_decayed_30 : decode cX5_decayed 30 = .ok (.dload 8, 2) := by decide +kernel
theorem dX5_decayed_32 : decode cX5_decayed 32 = .ok (.dconst 0, 1) := by decide +kernel
theorem dX5_decayed_33 : decode cX5_decayed 33 = .ok (.dcmp .g, 1) := by decide +kernel
theorem dX5_decayed_34 : decode cX5_decayed 34 = .ok (.ifCond .ge 7, 3) := by decide +kernel
theorem dX5_decayed_37 : decode cX5_decayed 37 = .ok (.dconst 0, 1) := by decide +kernel
theorem dX5_decayed_38 : decode cX5_decayed 38 = .ok (.goto 5, 3) := by decide +kernel
theorem dX5_decayed_41 : decode cX5_decayed 41 = .ok (.dload 8, 2) := by decide +kernel
theorem dX5_decayed_43 : decode cX5_decayed 43 = .ok (.dstore 5, 2) := by decide +kernel
theorem dX5_decayed_45 : decode cX5_decayed 45 = .ok (.iinc 7 1, 3) := by decide +kernel
theorem dX5_decayed_48 : decode cX5_decayed 48 = .ok (.goto (-42), 3) := by decide +kernel
theorem dX5_decayed_51 : decode cX5_decayed 51 = .ok (.dload 5, 2) := by decide +kernel
theorem dX5_decayed_53 : decode cX5_decayed 53 = .ok (.dreturn, 1) := by decide +kernel
abbrev rmX5_decayed : Room := { frames := 0, cells := 0, slots := 0, locals := 0 }
def w_X5_decayed_L6 (n : Nat) (K : UInt64 → Mem → Prop) : Nat → Mem → Int32 → Int32 → Int32 → UInt64 → Int32 → Prop
  | 0, _, _, _, _, _, _ => False
  | fuel + 1, M, a2, a3, a4, g5, a7 => ((a4 ≤ a7 → K g5 M) ∧ (¬ a4 ≤ a7 → (vf_n64 (FP.dmul g5 (FP.i2d a2)) ∧ (∀ z1, z1 = FP.dmul g5 (FP.i2d a2) → (vf_n64 (FP.dmul (4652007308841189376 : UInt64) (FP.i2d a3)) ∧ (∀ z2, z2 = FP.dmul (4652007308841189376 : UInt64) (FP.i2d a3) → (vf_n64 (FP.ddiv z1 z2) ∧ (∀ z3, z3 = FP.ddiv z1 z2 → (vf_n64 (FP.dsub g5 z3) ∧ (∀ z4, z4 = FP.dsub g5 z3 → ((0 ≤ (Op.cmpValue (FP.dcmp z4 FP.dconst0) CmpOp.g) → (∀ x5, x5 = a7 + (1 : Int32) → w_X5_decayed_L6 n K fuel M a2 a3 a4 z4 x5)) ∧ (¬ 0 ≤ (Op.cmpValue (FP.dcmp z4 FP.dconst0) CmpOp.g) → (∀ x6, x6 = a7 + (1 : Int32) → w_X5_decayed_L6 n K fuel M a2 a3 a4 FP.dconst0 x6)))))))))))))
def w_X5_decayed (n : Nat) (M : Mem) (p1 : UInt64) (p2 : Int32) (p3 : Int32) (p4 : Int32) (K : UInt64 → Mem → Prop) : Prop := w_X5_decayed_L6 n K 4000 M p2 p3 p4 p1 (0 : Int32)
set_option maxHeartbeats 4000000 in
set_option maxRecDepth 20000 in
theorem c_X5_decayed (l : Launch) (E : Gl) (n : Nat) (M : Mem) (p1 : UInt64) (p2 : Int32) (p3 : Int32) (p4 : Int32) (K : UInt64 → Mem → Prop) (hw : w_X5_decayed n M p1 p2 p3 p4 K) : CT E l yX5_decayed cX5_decayed 10 (some .double) rmX5_decayed n M [dV p1, iV p2, iV p3, iV p4] (PD E n K) := by
  refine g_met l (by decide) (Nat.le_of_ble_eq_true rfl) ?_
  intro p e s m args below meth c X hr hlk hnm hSz hOld
  change CX E p s m c _ _ RX5 at X
  have L6 : ∀ (fuel6 : Nat) (M : Mem) (a2 : Int32) (a3 : Int32) (a4 : Int32) (g5 : UInt64) (a7 : Int32), w_X5_decayed_L6 n K fuel6 M a2 a3 a4 g5 a7 → G E p l e rmX5_decayed s m args below meth c 10 n M 0 0 (MQD lw_cs below (PD E n K) args s rmX5_decayed.cells rmX5_decayed.slots (Ab E)) 6 [(2, iV a2), (3, iV a3), (4, iV a4), (5, dV g5), (7, iV a7)] [] := by
    intro fuel6
    induction fuel6 with
    | zero => intro M a2 a3 a4 g5 a7 hw; exact False.elim hw
    | succ fuel6 ih6 =>
      intro M a2 a3 a4 g5 a7 hw
      unfold w_X5_decayed_L6 at hw
      refine g_iload X dX5_decayed_6 4 rfl ?_
      refine g_iload X dX5_decayed_8 2 rfl ?_
      refine g_icmp_ge X 51 dX5_decayed_10 (by decide) hw (fun hw => ?_) (fun hw => ?_)
      · refine g_dload X dX5_decayed_51 3 rfl ?_
        exact g_dret X hr hlk hSz hOld (Nat.le_refl _) dX5_decayed_53 hw
      · refine g_dload X dX5_decayed_13 3 rfl ?_
        refine g_dload X dX5_decayed_15 3 rfl ?_
        refine g_iload_n X dX5_decayed_17 0 rfl ?_
        refine g_i2d X dX5_decayed_18 ?_
        refine g_dmul X dX5_decayed_19 hw (fun hw => ?_)
        refine g_topD (fun z1 hz1 => ?_)
        have hw := hw z1 hz1
        refine g_ldcD X (4652007308841189376 : UInt64) dX5_decayed_20 wk_X5_260 ?_
        refine g_iload_n X dX5_decayed_23 1 rfl ?_
        refine g_i2d X dX5_decayed_24 ?_
        refine g_dmul X dX5_decayed_25 hw (fun hw => ?_)
        refine g_topD (fun z2 hz2 => ?_)
        have hw := hw z2 hz2
        refine g_ddiv X dX5_decayed_26 hw (fun hw => ?_)
        refine g_topD (fun z3 hz3 => ?_)
        have hw := hw z3 hz3
        refine g_dsub X dX5_decayed_27 hw (fun hw => ?_)
        refine g_topD (fun z4 hz4 => ?_)
        have hw := hw z4 hz4
        refine g_dstore (lv' := [(8, dV z4), (2, iV a2), (3, iV a3), (4, iV a4), (5, dV g5), (7, iV a7)]) X dX5_decayed_28 (by decide) rfl ?_
        refine g_dload X dX5_decayed_30 0 rfl ?_
        refine g_dconst0 X dX5_decayed_32 ?_
        refine g_dcmp X dX5_decayed_33 ?_
        refine g_if_ge X 41 dX5_decayed_34 (by decide) hw (fun hw => ?_) (fun hw => ?_)
        · refine g_dload X dX5_decayed_41 0 rfl ?_
          refine g_dstore (lv' := [(5, dV z4), (8, dV z4), (2, iV a2), (3, iV a3), (4, iV a4), (7, iV a7)]) X dX5_decayed_43 (by decide) rfl ?_
          obtain ⟨x5, hx5⟩ : ∃ y : Int32, y = a7 + (1 : Int32) := ⟨_, rfl⟩
          have hw := hw x5 hx5
          refine g_iinc (lv' := [(7, iV x5), (5, dV z4), (8, dV z4), (2, iV a2), (3, iV a3), (4, iV a4)]) X x5 dX5_decayed_45 5 rfl (by rw [hx5]; rfl) (by decide) rfl ?_
          refine g_goto X 6 dX5_decayed_48 (by decide) ?_
          refine g_lvsub (lv' := [(2, iV a2), (3, iV a3), (4, iV a4), (5, dV z4), (7, iV x5)]) [3, 4, 5, 1, 0] rfl ?_
          exact ih6 _ _ _ _ _ _ hw
        · refine g_dconst0 X dX5_decayed_37 ?_
          refine g_goto X 43 dX5_decayed_38 (by decide) ?_
          refine g_dstore (lv' := [(5, dV FP.dconst0), (8, dV z4), (2, iV a2), (3, iV a3), (4, iV a4), (7, iV a7)]) X dX5_decayed_43 (by decide) rfl ?_
          obtain ⟨x6, hx6⟩ : ∃ y : Int32, y = a7 + (1 : Int32) := ⟨_, rfl⟩
          have hw := hw x6 hx6
          refine g_iinc (lv' := [(7, iV x6), (5, dV FP.dconst0), (8, dV z4), (2, iV a2), (3, iV a3), (4, iV a4)]) X x6 dX5_decayed_45 5 rfl (by rw [hx6]; rfl) (by decide) rfl ?_
          refine g_goto X 6 dX5_decayed_48 (by decide) ?_
          refine g_lvsub (lv' := [(2, iV a2), (3, iV a3), (4, iV a4), (5, dV FP.dconst0), (7, iV x6)]) [3, 4, 5, 1, 0] rfl ?_
          exact ih6 _ _ _ _ _ _ hw
  unfold w_X5_decayed at hw
  refine g_dload_n X dX5_decayed_0 0 rfl ?_
  refine g_dstore (lv' := [(5, dV p1), (0, dV p1), (2, iV p2), (3, iV p3), (4, iV p4)]) X dX5_decayed_1 (by decide) rfl ?_
  refine g_iconst X (0 : Int32) dX5_decayed_3 (by decide) ?_
  refine g_istore (lv' := [(7, iV (0 : Int32)), (5, dV p1), (0, dV p1), (2, iV p2), (3, iV p3), (4, iV p4)]) X dX5_decayed_4 (by decide) rfl ?_
  refine g_lvsub (lv' := [(2, iV p2), (3, iV p3), (4, iV p4), (5, dV p1), (7, iV (0 : Int32))]) [3, 4, 5, 1, 0] rfl ?_
  exact L6 _ _ _ _ _ _ _ hw
theorem dX1_fill_0 : decode cX1_fill 0 = .ok (.aload_n 0, 1) := by decide +kernel
theorem dX1_fill_1 : decode cX1_fill 1 = .ok (.aload_n 1, 1) := by decide +kernel
theorem dX1_fill_2 : decode cX1_fill 2 = .ok (.getfield 64, 3) := by decide +kernel
theorem dX1_fill_5 : decode cX1_fill 5 = .ok (.putfield 34, 3) := by decide +kernel
theorem dX1_fill_8 : decode cX1_fill 8 = .ok (.aload_n 0, 1) := by decide +kernel
theorem dX1_fill_9 : decode cX1_fill 9 = .ok (.dload_n 2, 1) := by decide +kernel
theorem dX1_fill_10 : decode cX1_fill 10 = .ok (.putfield 37, 3) := by decide +kernel
theorem dX1_fill_13 : decode cX1_fill 13 = .ok (.aload_n 0, 1) := by decide +kernel
theorem dX1_fill_14 : decode cX1_fill 14 = .ok (.dload_n 2, 1) := by decide +kernel
theorem dX1_fill_15 : decode cX1_fill 15 = .ok (.putfield 40, 3) := by decide +kernel
theorem dX1_fill_18 : decode cX1_fill 18 = .ok (.aload_n 0, 1) := by decide +kernel
theorem dX1_fill_19 : decode cX1_fill 19 = .ok (.iconst 0, 1) := by decide +kernel
theorem dX1_fill_20 : decode cX1_fill 20 = .ok (.putfield 43, 3) := by decide +kernel
theorem dX1_fill_23 : decode cX1_fill 23 = .ok (.return_, 1) := by decide +kernel
abbrev rmX1_fill : Room := { frames := 0, cells := 0, slots := 0, locals := 0 }
def w_X1_fill (n : Nat) (M : Mem) (t : Nat) (p1 : Nat) (p2 : UInt64) (K : Mem → Prop) : Prop := ((p1 ≤ n ∧ kd p1 = (2, 0)) ∧ ((t ≤ n ∧ kd t = (1, 0)) ∧ (∀ M3, M3 = sI M t 6 (gI M p1 0) → (∀ M4, M4 = sD M3 t 7 p2 → (∀ M5, M5 = sD M4 t 8 p2 → (∀ M6, M6 = sI M5 t 9 (0 : Int32) → K M6))))))
set_option maxHeartbeats 4000000 in
set_option maxRecDepth 20000 in
theorem c_X1_fill (l : Launch) (E : Gl) (n : Nat) (M : Mem) (t : Nat) (p1 : Nat) (p2 : UInt64) (K : Mem → Prop) (hw : w_X1_fill n M t p1 p2 K) : CT E l yX1_fill cX1_fill 4 none rmX1_fill n M [rV t, rV p1, dV p2] (PV E n K) := by
  refine g_met l (by decide) (Nat.le_of_ble_eq_true rfl) ?_
  intro p e s m args below meth c X hr hlk hnm hSz hOld
  change CX E p s m c _ _ RX1 at X
  unfold w_X1_fill at hw
  refine g_aload_n X dX1_fill_0 0 rfl ?_
  refine g_aload_n X dX1_fill_1 1 rfl ?_
  obtain ⟨hk1, hw⟩ := hw
  refine g_get X (iV (gI M p1 0)) dX1_fill_2 fl_X1_64 (fun _ => rfl) ⟨hk1, hw⟩ (fun hw => ?_)
  obtain ⟨hk2, hw⟩ := hw
  refine g_putI X dX1_fill_5 fl_X1_34 rfl (Or.inl rfl) ⟨hk2, hw⟩ (fun hw => ?_)
  refine g_topM (fun M3 hM3 => ?_)
  have hw := hw M3 hM3
  refine g_aload_n X dX1_fill_8 0 rfl ?_
  refine g_dload_n X dX1_fill_9 2 rfl ?_
  refine g_putD X dX1_fill_10 fl_X1_37 rfl (Or.inl rfl) ⟨hk2, hw⟩ (fun hw => ?_)
  refine g_topM (fun M4 hM4 => ?_)
  have hw := hw M4 hM4
  refine g_aload_n X dX1_fill_13 0 rfl ?_
  refine g_dload_n X dX1_fill_14 2 rfl ?_
  refine g_putD X dX1_fill_15 fl_X1_40 rfl (Or.inl rfl) ⟨hk2, hw⟩ (fun hw => ?_)
  refine g_topM (fun M5 hM5 => ?_)
  have hw := hw M5 hM5
  refine g_aload_n X dX1_fill_18 0 rfl ?_
  refine g_iconst X (0 : Int32) dX1_fill_19 (by decide) ?_
  refine g_putI X dX1_fill_20 fl_X1_43 rfl (Or.inl rfl) ⟨hk2, hw⟩ (fun hw => ?_)
  refine g_topM (fun M6 hM6 => ?_)
  have hw := hw M6 hM6
  exact g_vret X hr hlk hSz hOld (Nat.le_refl _) dX1_fill_23 hw
theorem dX1_takes_0 : decode cX1_takes 0 = .ok (.aload_n 0, 1) := by decide +kernel
theorem dX1_takes_1 : decode cX1_takes 1 = .ok (.getfield 28, 3) := by decide +kernel
theorem dX1_takes_4 : decode cX1_takes 4 = .ok (.ifCond .eq 23, 3) := by decide +kernel
theorem dX1_takes_7 : decode cX1_takes 7 = .ok (.aload_n 0, 1) := by decide +kernel
theorem dX1_takes_8 : decode cX1_takes 8 = .ok (.getfield 28, 3) := by decide +kernel
theorem dX1_takes_11 : decode cX1_takes 11 = .ok (.iconst 2, 1) := by decide +kernel
theorem dX1_takes_12 : decode cX1_takes 12 = .ok (.if_icmp .ne 7, 3) := by decide +kernel
theorem dX1_takes_15 : decode cX1_takes 15 = .ok (.iconst 1, 1) := by decide +kernel
theorem dX1_takes_16 : decode cX1_takes 16 = .ok (.goto 4, 3) := by decide +kernel
theorem dX1_takes_19 : decode cX1_takes 19 = .ok (.iconst 0, 1) := by decide +kernel
theorem dX1_takes_20 : decode cX1_takes 20 = .ok (.aload_n 1, 1) := by decide +kernel
theorem dX1_takes_21 : decode cX1_takes 21 = .ok (.getfield 58, 3) := by decide +kernel
theorem dX1_takes_24 : decode cX1_takes 24 = .ok (.if_icmp .ne 7, 3) := by decide +kernel
theorem dX1_takes_27 : decode cX1_takes 27 = .ok (.iconst 1, 1) := by decide +kernel
theorem dX1_takes_28 : decode cX1_takes 28 = .ok (.goto 4, 3) := by decide +kernel
theorem dX1_takes_31 : decode cX1_takes 31 = .ok (.iconst 0, 1) := by decide +kernel
theorem dX1_takes_32 : decode cX1_takes 32 = .ok (.ireturn, 1) := by decide +kernel
abbrev rmX1_takes : Room := { frames := 0, cells := 0, slots := 0, locals := 0 }
def w_X1_takes (n : Nat) (M : Mem) (t : Nat) (p1 : Nat) (K : Int32 → Mem → Prop) : Prop := ((t ≤ n ∧ kd t = (1, 0)) ∧ (((gI M t 4) = 0 → K (1 : Int32) M) ∧ (¬ (gI M t 4) = 0 → ((¬ (gI M t 4) = (2 : Int32) → ((p1 ≤ n ∧ kd p1 = (2, 0)) ∧ ((¬ (0 : Int32) = (gI M p1 1) → K (0 : Int32) M) ∧ ((0 : Int32) = (gI M p1 1) → K (1 : Int32) M)))) ∧ ((gI M t 4) = (2 : Int32) → ((p1 ≤ n ∧ kd p1 = (2, 0)) ∧ ((¬ (1 : Int32) = (gI M p1 1) → K (0 : Int32) M) ∧ ((1 : Int32) = (gI M p1 1) → K (1 : Int32) M))))))))
set_option maxHeartbeats 4000000 in
set_option maxRecDepth 20000 in
theorem c_X1_takes (l : Launch) (E : Gl) (n : Nat) (M : Mem) (t : Nat) (p1 : Nat) (K : Int32 → Mem → Prop) (hw : w_X1_takes n M t p1 K) : CT E l yX1_takes cX1_takes 2 (some .boolean) rmX1_takes n M [rV t, rV p1] (PI E n K) := by
  refine g_met l (by decide) (Nat.le_of_ble_eq_true rfl) ?_
  intro p e s m args below meth c X hr hlk hnm hSz hOld
  change CX E p s m c _ _ RX1 at X
  unfold w_X1_takes at hw
  refine g_aload_n X dX1_takes_0 0 rfl ?_
  obtain ⟨hk1, hw⟩ := hw
  refine g_get X (iV (gI M t 4)) dX1_takes_1 fl_X1_28 (fun _ => rfl) ⟨hk1, hw⟩ (fun hw => ?_)
  refine g_if_eq X 27 dX1_takes_4 (by decide) hw (fun hw => ?_) (fun hw => ?_)
  · refine g_iconst X (1 : Int32) dX1_takes_27 (by decide) ?_
    refine g_goto X 32 dX1_takes_28 (by decide) ?_
    exact g_zret X hr hlk hSz hOld (Nat.le_refl _) dX1_takes_32 ⟨rfl, hw⟩
  · refine g_aload_n X dX1_takes_7 0 rfl ?_
    refine g_get X (iV (gI M t 4)) dX1_takes_8 fl_X1_28 (fun _ => rfl) ⟨hk1, hw⟩ (fun hw => ?_)
    refine g_iconst X (2 : Int32) dX1_takes_11 (by decide) ?_
    refine g_icmp_ne X 19 dX1_takes_12 (by decide) hw (fun hw => ?_) (fun hw => ?_)
    · refine g_iconst X (0 : Int32) dX1_takes_19 (by decide) ?_
      refine g_aload_n X dX1_takes_20 1 rfl ?_
      obtain ⟨hk2, hw⟩ := hw
      refine g_get X (iV (gI M p1 1)) dX1_takes_21 fl_X1_58 (fun _ => rfl) ⟨hk2, hw⟩ (fun hw => ?_)
      refine g_icmp_ne X 31 dX1_takes_24 (by decide) hw (fun hw => ?_) (fun hw => ?_)
      · refine g_iconst X (0 : Int32) dX1_takes_31 (by decide) ?_
        exact g_zret X hr hlk hSz hOld (Nat.le_refl _) dX1_takes_32 ⟨rfl, hw⟩
      · refine g_iconst X (1 : Int32) dX1_takes_27 (by decide) ?_
        refine g_goto X 32 dX1_takes_28 (by decide) ?_
        exact g_zret X hr hlk hSz hOld (Nat.le_refl _) dX1_takes_32 ⟨rfl, hw⟩
    · refine g_iconst X (1 : Int32) dX1_takes_15 (by decide) ?_
      refine g_goto X 20 dX1_takes_16 (by decide) ?_
      refine g_aload_n X dX1_takes_20 1 rfl ?_
      obtain ⟨hk3, hw⟩ := hw
      refine g_get X (iV (gI M p1 1)) dX1_takes_21 fl_X1_58 (fun _ => rfl) ⟨hk3, hw⟩ (fun hw => ?_)
      refine g_icmp_ne X 31 dX1_takes_24 (by decide) hw (fun hw => ?_) (fun hw => ?_)
      · refine g_iconst X (0 : Int32) dX1_takes_31 (by decide) ?_
        exact g_zret X hr hlk hSz hOld (Nat.le_refl _) dX1_takes_32 ⟨rfl, hw⟩
      · refine g_iconst X (1 : Int32) dX1_takes_27 (by decide) ?_
        refine g_goto X 32 dX1_takes_28 (by decide) ?_
        exact g_zret X hr hlk hSz hOld (Nat.le_refl _) dX1_takes_32 ⟨rfl, hw⟩
theorem dX3_become_0 : decode cX3_become 0 = .ok (.aload_n 0, 1) := by decide +kernel
theorem dX3_become_1 : decode cX3_become 1 = .ok (.lload_n 1, 1) := by decide +kernel
theorem dX3_become_2 : decode cX3_become 2 = .ok (.putfield 16, 3) := by decide +kernel
theorem dX3_become_5 : decode cX3_become 5 = .ok (.aload_n 0, 1) := by decide +kernel
theorem dX3_become_6 : decode cX3_become 6 = .ok (.lload_n 1, 1) := by decide +kernel
theorem dX3_become_7 : decode cX3_become 7 = .ok (.invokestatic 19, 3) := by decide +kernel
theorem dX3_become_10 : decode cX3_become 10 = .ok (.putfield 25, 3) := by decide +kernel
theorem dX3_become_13 : decode cX3_become 13 = .ok (.return_, 1) := by decide +kernel
abbrev rmX3_become : Room := { frames := 1, cells := 0, slots := 0, locals := 27 }
def w_X3_become (n : Nat) (M : Mem) (t : Nat) (p1 : Int64) (K : Mem → Prop) : Prop := ((t ≤ n ∧ kd t = (3, 0)) ∧ (∀ M2, M2 = sL M t 2 p1 → w_X5_numberOf n M2 p1 (fun z4 M3 => (∀ M5, M5 = sD M3 t 3 z4 → K M5))))
set_option maxHeartbeats 4000000 in
set_option maxRecDepth 20000 in
theorem c_X3_become (l : Launch) (E : Gl) (n : Nat) (M : Mem) (t : Nat) (p1 : Int64) (K : Mem → Prop) (hw : w_X3_become n M t p1 K) : CT E l yX3_become cX3_become 3 none rmX3_become n M [rV t, lV p1] (PV E n K) := by
  refine g_met l (by decide) (Nat.le_of_ble_eq_true rfl) ?_
  intro p e s m args below meth c X hr hlk hnm hSz hOld
  change CX E p s m c _ _ RX3 at X
  unfold w_X3_become at hw
  refine g_aload_n X dX3_become_0 0 rfl ?_
  refine g_lload_n X dX3_become_1 1 rfl ?_
  obtain ⟨hk1, hw⟩ := hw
  refine g_putL X dX3_become_2 fl_X3_16 rfl (Or.inl rfl) ⟨hk1, hw⟩ (fun hw => ?_)
  refine g_topM (fun M2 hM2 => ?_)
  have hw := hw M2 hM2
  refine g_aload_n X dX3_become_5 0 rfl ?_
  refine g_lload_n X dX3_become_6 1 rfl ?_
  refine g_calld (pc' := 10) (rest := [rV t]) rfl (fun H locs ls d qR qL => g_runN X cn_X5_numberOf (fun k => k.2.2.1) ⟨Nat.le_of_ble_eq_true rfl, Nat.le_of_ble_eq_true rfl⟩ dX3_become_7 (c_X5_numberOf l E n M2 p1 _ hw) rfl rfl (Nat.le_of_ble_eq_true rfl) ⟨Nat.le_of_ble_eq_true rfl, Nat.le_of_ble_eq_true rfl⟩ qR qL) (fun z4 M3 hw => ?_)
  refine g_putD X dX3_become_10 fl_X3_25 rfl (Or.inl rfl) ⟨hk1, hw⟩ (fun hw => ?_)
  refine g_topM (fun M5 hM5 => ?_)
  have hw := hw M5 hM5
  exact g_vret X hr hlk hSz hOld (Nat.le_refl _) dX3_become_13 hw
theorem dX4_init_0 : decode cX4_init 0 = .ok (.aload_n 0, 1) := by decide +kernel
theorem dX4_init_1 : decode cX4_init 1 = .ok (.invokespecial 3, 3) := by decide +kernel
theorem dX4_init_4 : decode cX4_init 4 = .ok (.aload_n 0, 1) := by decide +kernel
theorem dX4_init_5 : decode cX4_init 5 = .ok (.bipush 60, 2) := by decide +kernel
theorem dX4_init_7 : decode cX4_init 7 = .ok (.newarray .char, 2) := by decide +kernel
theorem dX4_init_9 : decode cX4_init 9 = .ok (.putfield 9, 3) := by decide +kernel
theorem dX4_init_12 : decode cX4_init 12 = .ok (.aload_n 0, 1) := by decide +kernel
theorem dX4_init_13 : decode cX4_init 13 = .ok (.iconst 0, 1) := by decide +kernel
theorem dX4_init_14 : decode cX4_init 14 = .ok (.putfield 15, 3) := by decide +kernel
theorem dX4_init_17 : decode cX4_init 17 = .ok (.return_, 1) := by decide +kernel
abbrev rmX4_init : Room := { frames := 1, cells := 1, slots := 60, locals := 20 }
def w_X4_init (n : Nat) (M : Mem) (t : Nat) (K : Mem → Prop) : Prop := (¬ t = 0 ∧ ((kd (n + 1) = (9, 60) ∧ Al rmX4_init n n) ∧ (∀ M1, M1 = zr M (n + 1) → ((t ≤ (n + 1) ∧ kd t = (4, 0)) ∧ (∀ M3, M3 = sR M1 t 0 (n + 1) → (∀ M4, M4 = sI M3 t 1 (0 : Int32) → (n + 1 = n + 1 ∧ SL (n + 1) ≤ SL n + 60 ∧ K M4)))))))
set_option maxHeartbeats 4000000 in
set_option maxRecDepth 20000 in
theorem c_X4_init (l : Launch) (E : Gl) (n : Nat) (M : Mem) (t : Nat) (K : Mem → Prop) (hw : w_X4_init n M t K) : CT E l yX4_init cX4_init 1 none rmX4_init n M [rV t] (PV E (n + 1) K) := by
  refine g_met l (by decide) (Nat.le_of_ble_eq_true rfl) ?_
  intro p e s m args below meth c X hr hlk hnm hSz hOld
  change CX E p s m c _ _ RX4 at X
  refine g_widen (k := n - n) (z := SL n - SL n) (Nat.zero_le _) (Nat.zero_le _) ?_
  unfold w_X4_init at hw
  refine g_aload_n X dX4_init_0 0 rfl ?_
  refine g_objInit X wm_X4_3 ⟨wn_obj, wc_obj⟩ dX4_init_1 (by decide) (by decide) hw (fun hw => ?_)
  refine g_aload_n X dX4_init_4 0 rfl ?_
  refine g_bipush X (60 : Int32) dX4_init_5 (by decide) ?_
  refine g_newa X 9 60 dX4_init_7 (by decide) wa_char ⟨by decide, by decide⟩ hw (fun hw => ?_)
  refine g_topM (fun M1 hM1 => ?_)
  have hw := hw M1 hM1
  obtain ⟨hk2, hw⟩ := hw
  refine g_putR X dX4_init_9 fl_X4_9 (Or.inr ⟨_, rfl⟩) (Or.inr ⟨rfl, hnm, rfl⟩) ⟨hk2, hw⟩ (fun hw => ?_)
  refine g_topM (fun M3 hM3 => ?_)
  have hw := hw M3 hM3
  refine g_aload_n X dX4_init_12 0 rfl ?_
  refine g_iconst X (0 : Int32) dX4_init_13 (by decide) ?_
  refine g_putI X dX4_init_14 fl_X4_15 rfl (Or.inl rfl) ⟨hk2, hw⟩ (fun hw => ?_)
  refine g_topM (fun M4 hM4 => ?_)
  have hw := hw M4 hM4
  obtain ⟨he, hs, hw⟩ := hw
  rw [he]
  refine g_widen (k := rmX4_init.cells) (z := rmX4_init.slots) (by show n + 1 - n ≤ 1; omega) (by show SL (n + 1) - SL n ≤ 60; omega) ?_
  exact g_vret (n := n) X hr hlk hSz hOld (Nat.le_add_right _ _) dX4_init_17 hw
theorem dX4_append_0 : decode cX4_append 0 = .ok (.aload_n 0, 1) := by decide +kernel
theorem dX4_append_1 : decode cX4_append 1 = .ok (.getfield 15, 3) := by decide +kernel
theorem dX4_append_4 : decode cX4_append 4 = .ok (.ifCond .lt 15, 3) := by decide +kernel
theorem dX4_append_7 : decode cX4_append 7 = .ok (.aload_n 0, 1) := by decide +kernel
theorem dX4_append_8 : decode cX4_append 8 = .ok (.getfield 15, 3) := by decide +kernel
theorem dX4_append_11 : decode cX4_append 11 = .ok (.aload_n 0, 1) := by decide +kernel
theorem dX4_append_12 : decode cX4_append 12 = .ok (.getfield 9, 3) := by decide +kernel
theorem dX4_append_15 : decode cX4_append 15 = .ok (.arraylength, 1) := by decide +kernel
theorem dX4_append_16 : decode cX4_append 16 = .ok (.if_icmp .lt 6, 3) := by decide +kernel
theorem dX4_append_19 : decode cX4_append 19 = .ok (.bipush (-3), 2) := by decide +kernel
theorem dX4_append_21 : decode cX4_append 21 = .ok (.ireturn, 1) := by decide +kernel
theorem dX4_append_22 : decode cX4_append 22 = .ok (.aload_n 0, 1) := by decide +kernel
theorem dX4_append_23 : decode cX4_append 23 = .ok (.getfield 9, 3) := by decide +kernel
theorem dX4_append_26 : decode cX4_append 26 = .ok (.aload_n 0, 1) := by decide +kernel
theorem dX4_append_27 : decode cX4_append 27 = .ok (.getfield 15, 3) := by decide +kernel
theorem dX4_append_30 : decode cX4_append 30 = .ok (.iload_n 1, 1) := by decide +kernel
theorem dX4_append_31 : decode cX4_append 31 = .ok (.castore, 1) := by decide +kernel
theorem dX4_append_32 : decode cX4_append 32 = .ok (.aload_n 0, 1) := by decide +kernel
theorem dX4_append_33 : decode cX4_append 33 = .ok (.dup, 1) := by decide +kernel
theorem dX4_append_34 : decode cX4_append 34 = .ok (.getfield 15, 3) := by decide +kernel
theorem dX4_append_37 : decode cX4_append 37 = .ok (.iconst 1, 1) := by decide +kernel
theorem dX4_append_38 : decode cX4_append 38 = .ok (.iadd, 1) := by decide +kernel
theorem dX4_append_39 : decode cX4_append 39 = .ok (.putfield 15, 3) := by decide +kernel
theorem dX4_append_42 : decode cX4_append 42 = .ok (.aload_n 0, 1) := by decide +kernel
theorem dX4_append_43 : decode cX4_append 43 = .ok (.getfield 15, 3) := by decide +kernel
theorem dX4_append_46 : decode cX4_append 46 = .ok (.ireturn, 1) := by decide +kernel
abbrev rmX4_append : Room := { frames := 0, cells := 0, slots := 0, locals := 0 }
def w_X4_append (n : Nat) (M : Mem) (t : Nat) (p1 : Int32) (K : Int32 → Mem → Prop) : Prop := ((t ≤ n ∧ kd t = (4, 0)) ∧ (((gI M t 1) < 0 → K (-3 : Int32) M) ∧ (¬ (gI M t 1) < 0 → (∀ r2, r2 = gR M t 0 → ((r2 ≤ n ∧ 7 ≤ (kd r2).1 ∧ (kd r2).1 < 13) ∧ (((gI M t 1) < (nI (kd r2).2) → (∀ r3, r3 = gR M t 0 → ((r3 ≤ n ∧ (kd r3).1 = 9 ∧ vp_in (gI M t 1) (kd r3).2) ∧ (∀ M4, M4 = sI M r3 (Int32.toNatClampNeg (gI M t 1)) (vp_nar .char p1) → (∀ M5, M5 = sI M4 t 1 ((gI M4 t 1) + (1 : Int32)) → K (gI M5 t 1) M5))))) ∧ (¬ (gI M t 1) < (nI (kd r2).2) → K (-3 : Int32) M)))))))
set_option maxHeartbeats 4000000 in
set_option maxRecDepth 20000 in
theorem c_X4_append (l : Launch) (E : Gl) (n : Nat) (M : Mem) (t : Nat) (p1 : Int32) (K : Int32 → Mem → Prop) (hw : w_X4_append n M t p1 K) : CT E l yX4_append cX4_append 2 (some .int) rmX4_append n M [rV t, iV p1] (PI E n K) := by
  refine g_met l (by decide) (Nat.le_of_ble_eq_true rfl) ?_
  intro p e s m args below meth c X hr hlk hnm hSz hOld
  change CX E p s m c _ _ RX4 at X
  unfold w_X4_append at hw
  refine g_aload_n X dX4_append_0 0 rfl ?_
  obtain ⟨hk1, hw⟩ := hw
  refine g_get X (iV (gI M t 1)) dX4_append_1 fl_X4_15 (fun _ => rfl) ⟨hk1, hw⟩ (fun hw => ?_)
  refine g_if_lt X 19 dX4_append_4 (by decide) hw (fun hw => ?_) (fun hw => ?_)
  · refine g_bipush X (-3 : Int32) dX4_append_19 (by decide) ?_
    exact g_iret X hr hlk hSz hOld (Nat.le_refl _) dX4_append_21 hw
  · refine g_aload_n X dX4_append_7 0 rfl ?_
    refine g_get X (iV (gI M t 1)) dX4_append_8 fl_X4_15 (fun _ => rfl) ⟨hk1, hw⟩ (fun hw => ?_)
    refine g_aload_n X dX4_append_11 0 rfl ?_
    refine g_get X (rV (gR M t 0)) dX4_append_12 fl_X4_9 (fun _ => rfl) ⟨hk1, hw⟩ (fun hw => ?_)
    refine g_topR (fun r2 hr2 => ?_)
    have hw := hw r2 hr2
    refine g_alen X dX4_append_15 hw (fun hw => ?_)
    refine g_icmp_lt X 22 dX4_append_16 (by decide) hw (fun hw => ?_) (fun hw => ?_)
    · refine g_aload_n X dX4_append_22 0 rfl ?_
      refine g_get X (rV (gR M t 0)) dX4_append_23 fl_X4_9 (fun _ => rfl) ⟨hk1, hw⟩ (fun hw => ?_)
      refine g_topR (fun r3 hr3 => ?_)
      have hw := hw r3 hr3
      refine g_aload_n X dX4_append_26 0 rfl ?_
      refine g_get X (iV (gI M t 1)) dX4_append_27 fl_X4_15 (fun _ => rfl) ⟨hk1, hw⟩ (fun hw => ?_)
      refine g_iload_n X dX4_append_30 1 rfl ?_
      refine g_cast X dX4_append_31 hw (fun hw => ?_)
      refine g_topM (fun M4 hM4 => ?_)
      have hw := hw M4 hM4
      refine g_aload_n X dX4_append_32 0 rfl ?_
      refine g_dup X dX4_append_33 rfl ?_
      refine g_get X (iV (gI M4 t 1)) dX4_append_34 fl_X4_15 (fun _ => rfl) ⟨hk1, hw⟩ (fun hw => ?_)
      refine g_iconst X (1 : Int32) dX4_append_37 (by decide) ?_
      refine g_iadd X dX4_append_38 ?_
      refine g_putI X dX4_append_39 fl_X4_15 rfl (Or.inl rfl) ⟨hk1, hw⟩ (fun hw => ?_)
      refine g_topM (fun M5 hM5 => ?_)
      have hw := hw M5 hM5
      refine g_aload_n X dX4_append_42 0 rfl ?_
      refine g_get X (iV (gI M5 t 1)) dX4_append_43 fl_X4_15 (fun _ => rfl) ⟨hk1, hw⟩ (fun hw => ?_)
      exact g_iret X hr hlk hSz hOld (Nat.le_refl _) dX4_append_46 hw
    · refine g_bipush X (-3 : Int32) dX4_append_19 (by decide) ?_
      exact g_iret X hr hlk hSz hOld (Nat.le_refl _) dX4_append_21 hw
theorem dJ0_isLatin1_aae02_0 : decode cJ0_isLatin1_aae02 0 = .ok (.getstatic 38, 3) := by decide +kernel
theorem dJ0_isLatin1_aae02_3 : decode cJ0_isLatin1_aae02 3 = .ok (.ifCond .eq 14, 3) := by decide +kernel
theorem dJ0_isLatin1_aae02_6 : decode cJ0_isLatin1_aae02 6 = .ok (.aload_n 0, 1) := by decide +kernel
theorem dJ0_isLatin1_aae02_7 : decode cJ0_isLatin1_aae02 7 = .ok (.getfield 15, 3) := by decide +kernel
theorem dJ0_isLatin1_aae02_10 : decode cJ0_isLatin1_aae02 10 = .ok (.ifCond .ne 7, 3) := by decide +kernel
theorem dJ0_isLatin1_aae02_13 : decode cJ0_isLatin1_aae02 13 = .ok (.iconst 1, 1) := by decide +kernel
theorem dJ0_isLatin1_aae02_14 : decode cJ0_isLatin1_aae02 14 = .ok (.goto 4, 3) := by decide +kernel
theorem dJ0_isLatin1_aae02_17 : decode cJ0_isLatin1_aae02 17 = .ok (.iconst 0, 1) := by decide +kernel
theorem dJ0_isLatin1_aae02_18 : decode cJ0_isLatin1_aae02 18 = .ok (.ireturn, 1) := by decide +kernel
abbrev rmJ0_isLatin1_aae02 : Room := { frames := 0, cells := 0, slots := 0, locals := 0 }
def w_J0_isLatin1_aae02 (n : Nat) (M : Mem) (t : Nat) (K : Int32 → Mem → Prop) : Prop := (t < 4 ∧ K (1 : Int32) M)
set_option maxHeartbeats 4000000 in
set_option maxRecDepth 20000 in
theorem c_J0_isLatin1_aae02 (l : Launch) (E : Gl) (n : Nat) (M : Mem) (t : Nat) (K : Int32 → Mem → Prop) (hw : w_J0_isLatin1_aae02 n M t K) : CT E l yJ0_isLatin1_aae02 cJ0_isLatin1_aae02 1 (some .boolean) rmJ0_isLatin1_aae02 n M [sV E t] (PI E n K) := by
  refine g_metF l (by decide +kernel) (Nat.le_of_ble_eq_true rfl) ?_
  intro p e s m args below meth c X hr hlk hnm hSz hOld
  change CX E p s m c _ _ RJ0 at X
  unfold w_J0_isLatin1_aae02 at hw
  refine g_getsC X hSz hOld wf_J0_38 dJ0_isLatin1_aae02_0 ?_
  refine g_if_eq (A := False) X 17 dJ0_isLatin1_aae02_3 (by decide) ⟨fun h => absurd h (by decide), fun _ => hw⟩ (fun h => h.elim) (fun hw => ?_)
  refine g_aload_nS X dJ0_isLatin1_aae02_6 0 rfl ?_
  obtain ⟨hs1, hw⟩ := hw
  refine g_getSC X hSz hOld wf_J0_15 dJ0_isLatin1_aae02_7 hs1 ?_
  refine g_if_ne (A := False) X 17 dJ0_isLatin1_aae02_10 (by decide) ⟨fun h => absurd h (by decide), fun _ => hw⟩ (fun h => h.elim) (fun hw => ?_)
  refine g_iconst X (1 : Int32) dJ0_isLatin1_aae02_13 (by decide) ?_
  refine g_goto X 18 dJ0_isLatin1_aae02_14 (by decide) ?_
  exact g_zret X hr hlk hSz hOld (Nat.le_refl _) dJ0_isLatin1_aae02_18 ⟨rfl, hw⟩
theorem dJ3_checkIndex_8e157_0 : decode cJ3_checkIndex_8e157 0 = .ok (.iload_n 0, 1) := by decide +kernel
theorem dJ3_checkIndex_8e157_1 : decode cJ3_checkIndex_8e157 1 = .ok (.ifCond .lt 8, 3) := by decide +kernel
theorem dJ3_checkIndex_8e157_4 : decode cJ3_checkIndex_8e157 4 = .ok (.iload_n 0, 1) := by decide +kernel
theorem dJ3_checkIndex_8e157_5 : decode cJ3_checkIndex_8e157 5 = .ok (.iload_n 1, 1) := by decide +kernel
theorem dJ3_checkIndex_8e157_6 : decode cJ3_checkIndex_8e157 6 = .ok (.if_icmp .lt 10, 3) := by decide +kernel
theorem dJ3_checkIndex_8e157_9 : decode cJ3_checkIndex_8e157 9 = .ok (.aload_n 2, 1) := by decide +kernel
theorem dJ3_checkIndex_8e157_10 : decode cJ3_checkIndex_8e157 10 = .ok (.iload_n 0, 1) := by decide +kernel
theorem dJ3_checkIndex_8e157_11 : decode cJ3_checkIndex_8e157 11 = .ok (.iload_n 1, 1) := by decide +kernel
theorem dJ3_checkIndex_8e157_12 : decode cJ3_checkIndex_8e157 12 = .ok (.invokestatic 95, 3) := by decide +kernel
theorem dJ3_checkIndex_8e157_15 : decode cJ3_checkIndex_8e157 15 = .ok (.athrow, 1) := by decide +kernel
theorem dJ3_checkIndex_8e157_16 : decode cJ3_checkIndex_8e157 16 = .ok (.iload_n 0, 1) := by decide +kernel
theorem dJ3_checkIndex_8e157_17 : decode cJ3_checkIndex_8e157 17 = .ok (.ireturn, 1) := by decide +kernel
abbrev rmJ3_checkIndex_8e157 : Room := { frames := 0, cells := 0, slots := 0, locals := 0 }
def w_J3_checkIndex_8e157 (n : Nat) (M : Mem) (p1 : Int32) (p2 : Int32) (p3 : Value) (K : Int32 → Mem → Prop) : Prop := p3.category = 1 ∧ ((p1 < 0 → False) ∧ (¬ p1 < 0 → ((p1 < p2 → K p1 M) ∧ (¬ p1 < p2 → False))))
set_option maxHeartbeats 4000000 in
set_option maxRecDepth 20000 in
theorem c_J3_checkIndex_8e157 (l : Launch) (E : Gl) (n : Nat) (M : Mem) (p1 : Int32) (p2 : Int32) (p3 : Value) (K : Int32 → Mem → Prop) (hw : w_J3_checkIndex_8e157 n M p1 p2 p3 K) : CT E l yJ3_checkIndex_8e157 cJ3_checkIndex_8e157 3 (some .int) rmJ3_checkIndex_8e157 n M [iV p1, iV p2, uV p3] (PI E n K) := by
  refine g_metF l (by decide +kernel) (by have hU : catA (uV p3) = 1 := hw.1; show 1 + (1 + (catA (uV p3) + 0)) ≤ 3; rw [hU]; decide) ?_
  intro p e s m args below meth c X hr hlk hnm hSz hOld
  change CX E p s m c _ _ RJ3 at X
  unfold w_J3_checkIndex_8e157 at hw
  obtain ⟨hU, hw⟩ := hw
  refine g_iload_n X dJ3_checkIndex_8e157_0 0 rfl ?_
  refine g_if_lt X 9 dJ3_checkIndex_8e157_1 (by decide) hw (fun hw => ?_) (fun hw => ?_)
  · exact hw.elim
  · refine g_iload_n X dJ3_checkIndex_8e157_4 0 rfl ?_
    refine g_iload_n X dJ3_checkIndex_8e157_5 1 rfl ?_
    refine g_icmp_lt X 16 dJ3_checkIndex_8e157_6 (by decide) hw (fun hw => ?_) (fun hw => ?_)
    · refine g_iload_n X dJ3_checkIndex_8e157_16 0 rfl ?_
      exact g_iret X hr hlk hSz hOld (Nat.le_refl _) dJ3_checkIndex_8e157_17 hw
    · exact hw.elim
theorem dJ0_checkIndex_df160_0 : decode cJ0_checkIndex_df160 0 = .ok (.iload_n 0, 1) := by decide +kernel
theorem dJ0_checkIndex_df160_1 : decode cJ0_checkIndex_df160 1 = .ok (.iload_n 1, 1) := by decide +kernel
theorem dJ0_checkIndex_df160_2 : decode cJ0_checkIndex_df160 2 = .ok (.getstatic 1053, 3) := by decide +kernel
theorem dJ0_checkIndex_df160_5 : decode cJ0_checkIndex_df160 5 = .ok (.invokestatic 1059, 3) := by decide +kernel
theorem dJ0_checkIndex_df160_8 : decode cJ0_checkIndex_df160 8 = .ok (.pop, 1) := by decide +kernel
theorem dJ0_checkIndex_df160_9 : decode cJ0_checkIndex_df160 9 = .ok (.return_, 1) := by decide +kernel
abbrev rmJ0_checkIndex_df160 : Room := { frames := 1, cells := 0, slots := 0, locals := 22 }
def w_J0_checkIndex_df160 (n : Nat) (M : Mem) (p1 : Int32) (p2 : Int32) (K : Mem → Prop) : Prop := (∀ u1 : Value, u1.category = 1 → w_J3_checkIndex_8e157 n M p1 p2 u1 (fun x3 M2 => K M2))
set_option maxHeartbeats 4000000 in
set_option maxRecDepth 20000 in
theorem c_J0_checkIndex_df160 (l : Launch) (E : Gl) (n : Nat) (M : Mem) (p1 : Int32) (p2 : Int32) (K : Mem → Prop) (hw : w_J0_checkIndex_df160 n M p1 p2 K) : CT E l yJ0_checkIndex_df160 cJ0_checkIndex_df160 2 none rmJ0_checkIndex_df160 n M [iV p1, iV p2] (PV E n K) := by
  refine g_metF l (by decide +kernel) (Nat.le_of_ble_eq_true rfl) ?_
  intro p e s m args below meth c X hr hlk hnm hSz hOld
  change CX E p s m c _ _ RJ0 at X
  unfold w_J0_checkIndex_df160 at hw
  refine g_iload_n X dJ0_checkIndex_df160_0 0 rfl ?_
  refine g_iload_n X dJ0_checkIndex_df160_1 1 rfl ?_
  refine g_getsF X hSz hOld wf_J0_1053 dJ0_checkIndex_df160_2 hw (fun u1 hu1 hw => ?_)
  refine g_calli (pc' := 8) (rest := []) rfl (fun H locs ls d qR qL => g_runS X cw_J0_1059 wt_J3_checkIndex_8e157 ⟨Nat.le_of_ble_eq_true rfl, Nat.le_of_ble_eq_true rfl⟩ dJ0_checkIndex_df160_5 (c_J3_checkIndex_8e157 l E n M p1 p2 u1 _ hw) rfl rfl (Nat.le_of_ble_eq_true rfl) ⟨Nat.le_of_ble_eq_true rfl, Nat.le_of_ble_eq_true rfl⟩ qR qL) (fun x3 M2 hw => ?_)
  refine g_pop X dJ0_checkIndex_df160_8 rfl ?_
  exact g_vret X hr hlk hSz hOld (Nat.le_refl _) dJ0_checkIndex_df160_9 hw
theorem dJ1_charAt_3b067_0 : decode cJ1_charAt_3b067 0 = .ok (.iload_n 1, 1) := by decide +kernel
theorem dJ1_charAt_3b067_1 : decode cJ1_charAt_3b067 1 = .ok (.aload_n 0, 1) := by decide +kernel
theorem dJ1_charAt_3b067_2 : decode cJ1_charAt_3b067 2 = .ok (.arraylength, 1) := by decide +kernel
theorem dJ1_charAt_3b067_3 : decode cJ1_charAt_3b067 3 = .ok (.invokestatic 9, 3) := by decide +kernel
theorem dJ1_charAt_3b067_6 : decode cJ1_charAt_3b067 6 = .ok (.aload_n 0, 1) := by decide +kernel
theorem dJ1_charAt_3b067_7 : decode cJ1_charAt_3b067 7 = .ok (.iload_n 1, 1) := by decide +kernel
theorem dJ1_charAt_3b067_8 : decode cJ1_charAt_3b067 8 = .ok (.baload, 1) := by decide +kernel
theorem dJ1_charAt_3b067_9 : decode cJ1_charAt_3b067 9 = .ok (.sipush 255, 3) := by decide +kernel
theorem dJ1_charAt_3b067_12 : decode cJ1_charAt_3b067 12 = .ok (.iand, 1) := by decide +kernel
theorem dJ1_charAt_3b067_13 : decode cJ1_charAt_3b067 13 = .ok (.i2c, 1) := by decide +kernel
theorem dJ1_charAt_3b067_14 : decode cJ1_charAt_3b067 14 = .ok (.ireturn, 1) := by decide +kernel
abbrev rmJ1_charAt_3b067 : Room := { frames := 2, cells := 0, slots := 0, locals := 43 }
def w_J1_charAt_3b067 (n : Nat) (M : Mem) (p1 : Nat) (p2 : Int32) (K : Int32 → Mem → Prop) : Prop := (p1 < 4 ∧ w_J0_checkIndex_df160 n M p2 (nI (lenS.getD p1 0)) (fun M2 => (vp_in p2 (lenS.getD p1 0) ∧ (narrow .char (.int ((Int32.toUInt32 (((bytS.getD p1 []).getD (Int32.toNatClampNeg p2) 0) &&& (255 : Int32)) % 65536).toInt32)) = .int ((Int32.toUInt32 (((bytS.getD p1 []).getD (Int32.toNatClampNeg p2) 0) &&& (255 : Int32)) % 65536).toInt32) ∧ K ((Int32.toUInt32 (((bytS.getD p1 []).getD (Int32.toNatClampNeg p2) 0) &&& (255 : Int32)) % 65536).toInt32) M2))))
set_option maxHeartbeats 4000000 in
set_option maxRecDepth 20000 in
theorem c_J1_charAt_3b067 (l : Launch) (E : Gl) (n : Nat) (M : Mem) (p1 : Nat) (p2 : Int32) (K : Int32 → Mem → Prop) (hw : w_J1_charAt_3b067 n M p1 p2 K) : CT E l yJ1_charAt_3b067 cJ1_charAt_3b067 2 (some .char) rmJ1_charAt_3b067 n M [tV E p1, iV p2] (PI E n K) := by
  refine g_metF l (by decide +kernel) (Nat.le_of_ble_eq_true rfl) ?_
  intro p e s m args below meth c X hr hlk hnm hSz hOld
  change CX E p s m c _ _ RJ1 at X
  unfold w_J1_charAt_3b067 at hw
  refine g_iload_n X dJ1_charAt_3b067_0 1 rfl ?_
  refine g_aload_nS X dJ1_charAt_3b067_1 0 rfl ?_
  obtain ⟨hs1, hw⟩ := hw
  refine g_alenT X hSz hOld dJ1_charAt_3b067_2 hs1 ?_
  refine g_callv (pc' := 6) (rest := []) rfl (fun H locs ls d qR qL => g_runS X cw_J1_9 wt_J0_checkIndex_df160 ⟨Nat.le_of_ble_eq_true rfl, Nat.le_of_ble_eq_true rfl⟩ dJ1_charAt_3b067_3 (c_J0_checkIndex_df160 l E n M p2 (nI (lenS.getD p1 0)) _ hw) rfl rfl (Nat.le_of_ble_eq_true rfl) ⟨Nat.le_of_ble_eq_true rfl, Nat.le_of_ble_eq_true rfl⟩ qR qL) (fun M2 hw => ?_)
  refine g_aload_nS X dJ1_charAt_3b067_6 0 rfl ?_
  refine g_iload_n X dJ1_charAt_3b067_7 1 rfl ?_
  refine g_baldT X hSz hOld dJ1_charAt_3b067_8 hs1 hw (fun hw => ?_)
  refine g_sipush X (255 : Int32) dJ1_charAt_3b067_9 (by decide) ?_
  refine g_iand X dJ1_charAt_3b067_12 ?_
  refine g_i2c X dJ1_charAt_3b067_13 ?_
  exact g_zret X hr hlk hSz hOld (Nat.le_refl _) dJ1_charAt_3b067_14 hw
theorem dJ0_charAt_5068e_0 : decode cJ0_charAt_5068e 0 = .ok (.aload_n 0, 1) := by decide +kernel
theorem dJ0_charAt_5068e_1 : decode cJ0_charAt_5068e 1 = .ok (.invokevirtual 492, 3) := by decide +kernel
theorem dJ0_charAt_5068e_4 : decode cJ0_charAt_5068e 4 = .ok (.ifCond .eq 12, 3) := by decide +kernel
theorem dJ0_charAt_5068e_7 : decode cJ0_charAt_5068e 7 = .ok (.aload_n 0, 1) := by decide +kernel
theorem dJ0_charAt_5068e_8 : decode cJ0_charAt_5068e 8 = .ok (.getfield 9, 3) := by decide +kernel
theorem dJ0_charAt_5068e_11 : decode cJ0_charAt_5068e 11 = .ok (.iload_n 1, 1) := by decide +kernel
theorem dJ0_charAt_5068e_12 : decode cJ0_charAt_5068e 12 = .ok (.invokestatic 495, 3) := by decide +kernel
theorem dJ0_charAt_5068e_15 : decode cJ0_charAt_5068e 15 = .ok (.ireturn, 1) := by decide +kernel
theorem dJ0_charAt_5068e_16 : decode cJ0_charAt_5068e 16 = .ok (.aload_n 0, 1) := by decide +kernel
theorem dJ0_charAt_5068e_17 : decode cJ0_charAt_5068e 17 = .ok (.getfield 9, 3) := by decide +kernel
theorem dJ0_charAt_5068e_20 : decode cJ0_charAt_5068e 20 = .ok (.iload_n 1, 1) := by decide +kernel
theorem dJ0_charAt_5068e_21 : decode cJ0_charAt_5068e 21 = .ok (.invokestatic 498, 3) := by decide +kernel
theorem dJ0_charAt_5068e_24 : decode cJ0_charAt_5068e 24 = .ok (.ireturn, 1) := by decide +kernel
abbrev rmJ0_charAt_5068e : Room := { frames := 3, cells := 0, slots := 0, locals := 64 }
def w_J0_charAt_5068e (n : Nat) (M : Mem) (t : Nat) (p1 : Int32) (K : Int32 → Mem → Prop) : Prop := (t < 4 ∧ w_J0_isLatin1_aae02 n M t  (fun x3 M2 => ((x3 = 0 → False) ∧ (¬ x3 = 0 → w_J1_charAt_3b067 n M2 t p1 (fun x5 M4 => (narrow .char (.int x5) = .int x5 ∧ K x5 M4))))))
set_option maxHeartbeats 4000000 in
set_option maxRecDepth 20000 in
theorem c_J0_charAt_5068e (l : Launch) (E : Gl) (n : Nat) (M : Mem) (t : Nat) (p1 : Int32) (K : Int32 → Mem → Prop) (hw : w_J0_charAt_5068e n M t p1 K) : CT E l yJ0_charAt_5068e cJ0_charAt_5068e 2 (some .char) rmJ0_charAt_5068e n M [sV E t, iV p1] (PI E n K) := by
  refine g_metF l (by decide +kernel) (Nat.le_of_ble_eq_true rfl) ?_
  intro p e s m args below meth c X hr hlk hnm hSz hOld
  change CX E p s m c _ _ RJ0 at X
  unfold w_J0_charAt_5068e at hw
  refine g_aload_nS X dJ0_charAt_5068e_0 0 rfl ?_
  obtain ⟨hs1, hw⟩ := hw
  refine g_calli (pc' := 4) (rest := []) rfl (fun H locs ls d qR qL => g_runT X cw_J0_492 ivs_J0_isLatin1_aae02 ⟨Nat.le_of_ble_eq_true rfl, Nat.le_of_ble_eq_true rfl⟩ dJ0_charAt_5068e_1 (c_J0_isLatin1_aae02 l E n M t  _ hw) hs1 rfl rfl (Nat.le_of_ble_eq_true rfl) ⟨Nat.le_of_ble_eq_true rfl, Nat.le_of_ble_eq_true rfl⟩ qR qL) (fun x3 M2 hw => ?_)
  refine g_if_eq X 16 dJ0_charAt_5068e_4 (by decide) hw (fun hw => ?_) (fun hw => ?_)
  · exact hw.elim
  · refine g_aload_nS X dJ0_charAt_5068e_7 0 rfl ?_
    refine g_getSV X hSz hOld wf_J0_9 dJ0_charAt_5068e_8 hs1 ?_
    refine g_iload_n X dJ0_charAt_5068e_11 1 rfl ?_
    refine g_calli (pc' := 15) (rest := []) rfl (fun H locs ls d qR qL => g_runS X cw_J0_495 wt_J1_charAt_3b067 ⟨Nat.le_of_ble_eq_true rfl, Nat.le_of_ble_eq_true rfl⟩ dJ0_charAt_5068e_12 (c_J1_charAt_3b067 l E n M2 t p1 _ hw) rfl rfl (Nat.le_of_ble_eq_true rfl) ⟨Nat.le_of_ble_eq_true rfl, Nat.le_of_ble_eq_true rfl⟩ qR qL) (fun x5 M4 hw => ?_)
    exact g_zret X hr hlk hSz hOld (Nat.le_refl _) dJ0_charAt_5068e_15 hw
theorem dJ0_coder_7d493_0 : decode cJ0_coder_7d493 0 = .ok (.getstatic 38, 3) := by decide +kernel
theorem dJ0_coder_7d493_3 : decode cJ0_coder_7d493 3 = .ok (.ifCond .eq 10, 3) := by decide +kernel
theorem dJ0_coder_7d493_6 : decode cJ0_coder_7d493 6 = .ok (.aload_n 0, 1) := by decide +kernel
theorem dJ0_coder_7d493_7 : decode cJ0_coder_7d493 7 = .ok (.getfield 15, 3) := by decide +kernel
theorem dJ0_coder_7d493_10 : decode cJ0_coder_7d493 10 = .ok (.goto 4, 3) := by decide +kernel
theorem dJ0_coder_7d493_13 : decode cJ0_coder_7d493 13 = .ok (.iconst 1, 1) := by decide +kernel
theorem dJ0_coder_7d493_14 : decode cJ0_coder_7d493 14 = .ok (.ireturn, 1) := by decide +kernel
abbrev rmJ0_coder_7d493 : Room := { frames := 0, cells := 0, slots := 0, locals := 0 }
def w_J0_coder_7d493 (n : Nat) (M : Mem) (t : Nat) (K : Int32 → Mem → Prop) : Prop := (t < 4 ∧ K (0 : Int32) M)
set_option maxHeartbeats 4000000 in
set_option maxRecDepth 20000 in
theorem c_J0_coder_7d493 (l : Launch) (E : Gl) (n : Nat) (M : Mem) (t : Nat) (K : Int32 → Mem → Prop) (hw : w_J0_coder_7d493 n M t K) : CT E l yJ0_coder_7d493 cJ0_coder_7d493 1 (some .byte) rmJ0_coder_7d493 n M [sV E t] (PI E n K) := by
  refine g_metF l (by decide +kernel) (Nat.le_of_ble_eq_true rfl) ?_
  intro p e s m args below meth c X hr hlk hnm hSz hOld
  change CX E p s m c _ _ RJ0 at X
  unfold w_J0_coder_7d493 at hw
  refine g_getsC X hSz hOld wf_J0_38 dJ0_coder_7d493_0 ?_
  refine g_if_eq (A := False) X 13 dJ0_coder_7d493_3 (by decide) ⟨fun h => absurd h (by decide), fun _ => hw⟩ (fun h => h.elim) (fun hw => ?_)
  refine g_aload_nS X dJ0_coder_7d493_6 0 rfl ?_
  obtain ⟨hs1, hw⟩ := hw
  refine g_getSC X hSz hOld wf_J0_15 dJ0_coder_7d493_7 hs1 ?_
  refine g_goto X 14 dJ0_coder_7d493_10 (by decide) ?_
  exact g_zret X hr hlk hSz hOld (Nat.le_refl _) dJ0_coder_7d493_14 ⟨rfl, hw⟩
theorem dJ0_length_8abf5_0 : decode cJ0_length_8abf5 0 = .ok (.aload_n 0, 1) := by decide +kernel
theorem dJ0_length_8abf5_1 : decode cJ0_length_8abf5 1 = .ok (.getfield 9, 3) := by decide +kernel
theorem dJ0_length_8abf5_4 : decode cJ0_length_8abf5 4 = .ok (.arraylength, 1) := by decide +kernel
theorem dJ0_length_8abf5_5 : decode cJ0_length_8abf5 5 = .ok (.aload_n 0, 1) := by decide +kernel
theorem dJ0_length_8abf5_6 : decode cJ0_length_8abf5 6 = .ok (.invokevirtual 335, 3) := by decide +kernel
theorem dJ0_length_8abf5_9 : decode cJ0_length_8abf5 9 = .ok (.ishr, 1) := by decide +kernel
theorem dJ0_length_8abf5_10 : decode cJ0_length_8abf5 10 = .ok (.ireturn, 1) := by decide +kernel
abbrev rmJ0_length_8abf5 : Room := { frames := 1, cells := 0, slots := 0, locals := 20 }
def w_J0_length_8abf5 (n : Nat) (M : Mem) (t : Nat) (K : Int32 → Mem → Prop) : Prop := (t < 4 ∧ w_J0_coder_7d493 n M t  (fun x3 M2 => K ((nI (lenS.getD t 0)) >>> (x3 &&& 31)) M2))
set_option maxHeartbeats 4000000 in
set_option maxRecDepth 20000 in
theorem c_J0_length_8abf5 (l : Launch) (E : Gl) (n : Nat) (M : Mem) (t : Nat) (K : Int32 → Mem → Prop) (hw : w_J0_length_8abf5 n M t K) : CT E l yJ0_length_8abf5 cJ0_length_8abf5 1 (some .int) rmJ0_length_8abf5 n M [sV E t] (PI E n K) := by
  refine g_metF l (by decide +kernel) (Nat.le_of_ble_eq_true rfl) ?_
  intro p e s m args below meth c X hr hlk hnm hSz hOld
  change CX E p s m c _ _ RJ0 at X
  unfold w_J0_length_8abf5 at hw
  refine g_aload_nS X dJ0_length_8abf5_0 0 rfl ?_
  obtain ⟨hs1, hw⟩ := hw
  refine g_getSV X hSz hOld wf_J0_9 dJ0_length_8abf5_1 hs1 ?_
  refine g_alenT X hSz hOld dJ0_length_8abf5_4 hs1 ?_
  refine g_aload_nS X dJ0_length_8abf5_5 0 rfl ?_
  refine g_calli (pc' := 9) (rest := [iV (nI (lenS.getD t 0))]) rfl (fun H locs ls d qR qL => g_runT X cw_J0_335 ivs_J0_coder_7d493 ⟨Nat.le_of_ble_eq_true rfl, Nat.le_of_ble_eq_true rfl⟩ dJ0_length_8abf5_6 (c_J0_coder_7d493 l E n M t  _ hw) hs1 rfl rfl (Nat.le_of_ble_eq_true rfl) ⟨Nat.le_of_ble_eq_true rfl, Nat.le_of_ble_eq_true rfl⟩ qR qL) (fun x3 M2 hw => ?_)
  refine g_ishr X dJ0_length_8abf5_9 ?_
  exact g_iret X hr hlk hSz hOld (Nat.le_refl _) dJ0_length_8abf5_10 hw
theorem dX4_signAt_0 : decode cX4_signAt 0 = .ok (.iload_n 1, 1) := by decide +kernel
theorem dX4_signAt_1 : decode cX4_signAt 1 = .ok (.ifCond .lt 29, 3) := by decide +kernel
theorem dX4_signAt_4 : decode cX4_signAt 4 = .ok (.iload_n 1, 1) := by decide +kernel
theorem dX4_signAt_5 : decode cX4_signAt 5 = .ok (.aload_n 0, 1) := by decide +kernel
theorem dX4_signAt_6 : decode cX4_signAt 6 = .ok (.getfield 15, 3) := by decide +kernel
theorem dX4_signAt_9 : decode cX4_signAt 9 = .ok (.if_icmp .ge 21, 3) := by decide +kernel
theorem dX4_signAt_12 : decode cX4_signAt 12 = .ok (.iload_n 1, 1) := by decide +kernel
theorem dX4_signAt_13 : decode cX4_signAt 13 = .ok (.aload_n 0, 1) := by decide +kernel
theorem dX4_signAt_14 : decode cX4_signAt 14 = .ok (.getfield 9, 3) := by decide +kernel
theorem dX4_signAt_17 : decode cX4_signAt 17 = .ok (.arraylength, 1) := by decide +kernel
theorem dX4_signAt_18 : decode cX4_signAt 18 = .ok (.if_icmp .ge 12, 3) := by decide +kernel
theorem dX4_signAt_21 : decode cX4_signAt 21 = .ok (.aload_n 0, 1) := by decide +kernel
theorem dX4_signAt_22 : decode cX4_signAt 22 = .ok (.getfield 9, 3) := by decide +kernel
theorem dX4_signAt_25 : decode cX4_signAt 25 = .ok (.iload_n 1, 1) := by decide +kernel
theorem dX4_signAt_26 : decode cX4_signAt 26 = .ok (.caload, 1) := by decide +kernel
theorem dX4_signAt_27 : decode cX4_signAt 27 = .ok (.goto 4, 3) := by decide +kernel
theorem dX4_signAt_30 : decode cX4_signAt 30 = .ok (.iconst (-1), 1) := by decide +kernel
theorem dX4_signAt_31 : decode cX4_signAt 31 = .ok (.ireturn, 1) := by decide +kernel
abbrev rmX4_signAt : Room := { frames := 0, cells := 0, slots := 0, locals := 0 }
def w_X4_signAt (n : Nat) (M : Mem) (t : Nat) (p1 : Int32) (K : Int32 → Mem → Prop) : Prop := ((p1 < 0 → K (-1 : Int32) M) ∧ (¬ p1 < 0 → ((t ≤ n ∧ kd t = (4, 0)) ∧ (((gI M t 1) ≤ p1 → K (-1 : Int32) M) ∧ (¬ (gI M t 1) ≤ p1 → (∀ r2, r2 = gR M t 0 → ((r2 ≤ n ∧ 7 ≤ (kd r2).1 ∧ (kd r2).1 < 13) ∧ (((nI (kd r2).2) ≤ p1 → K (-1 : Int32) M) ∧ (¬ (nI (kd r2).2) ≤ p1 → (∀ r3, r3 = gR M t 0 → ((r3 ≤ n ∧ (kd r3).1 = 9 ∧ vp_in p1 (kd r3).2) ∧ (∀ x4, x4 = gI M r3 (Int32.toNatClampNeg p1) → K x4 M))))))))))))
set_option maxHeartbeats 4000000 in
set_option maxRecDepth 20000 in
theorem c_X4_signAt (l : Launch) (E : Gl) (n : Nat) (M : Mem) (t : Nat) (p1 : Int32) (K : Int32 → Mem → Prop) (hw : w_X4_signAt n M t p1 K) : CT E l yX4_signAt cX4_signAt 2 (some .int) rmX4_signAt n M [rV t, iV p1] (PI E n K) := by
  refine g_met l (by decide) (Nat.le_of_ble_eq_true rfl) ?_
  intro p e s m args below meth c X hr hlk hnm hSz hOld
  change CX E p s m c _ _ RX4 at X
  unfold w_X4_signAt at hw
  refine g_iload_n X dX4_signAt_0 1 rfl ?_
  refine g_if_lt X 30 dX4_signAt_1 (by decide) hw (fun hw => ?_) (fun hw => ?_)
  · refine g_iconst X (-1 : Int32) dX4_signAt_30 (by decide) ?_
    exact g_iret X hr hlk hSz hOld (Nat.le_refl _) dX4_signAt_31 hw
  · refine g_iload_n X dX4_signAt_4 1 rfl ?_
    refine g_aload_n X dX4_signAt_5 0 rfl ?_
    obtain ⟨hk1, hw⟩ := hw
    refine g_get X (iV (gI M t 1)) dX4_signAt_6 fl_X4_15 (fun _ => rfl) ⟨hk1, hw⟩ (fun hw => ?_)
    refine g_icmp_ge X 30 dX4_signAt_9 (by decide) hw (fun hw => ?_) (fun hw => ?_)
    · refine g_iconst X (-1 : Int32) dX4_signAt_30 (by decide) ?_
      exact g_iret X hr hlk hSz hOld (Nat.le_refl _) dX4_signAt_31 hw
    · refine g_iload_n X dX4_signAt_12 1 rfl ?_
      refine g_aload_n X dX4_signAt_13 0 rfl ?_
      refine g_get X (rV (gR M t 0)) dX4_signAt_14 fl_X4_9 (fun _ => rfl) ⟨hk1, hw⟩ (fun hw => ?_)
      refine g_topR (fun r2 hr2 => ?_)
      have hw := hw r2 hr2
      refine g_alen X dX4_signAt_17 hw (fun hw => ?_)
      refine g_icmp_ge X 30 dX4_signAt_18 (by decide) hw (fun hw => ?_) (fun hw => ?_)
      · refine g_iconst X (-1 : Int32) dX4_signAt_30 (by decide) ?_
        exact g_iret X hr hlk hSz hOld (Nat.le_refl _) dX4_signAt_31 hw
      · refine g_aload_n X dX4_signAt_21 0 rfl ?_
        refine g_get X (rV (gR M t 0)) dX4_signAt_22 fl_X4_9 (fun _ => rfl) ⟨hk1, hw⟩ (fun hw => ?_)
        refine g_topR (fun r3 hr3 => ?_)
        have hw := hw r3 hr3
        refine g_iload_n X dX4_signAt_25 1 rfl ?_
        refine g_cald X dX4_signAt_26 hw (fun hw => ?_)
        refine g_topI (fun x4 hx4 => ?_)
        have hw := hw x4 hx4
        refine g_goto X 31 dX4_signAt_27 (by decide) ?_
        exact g_iret X hr hlk hSz hOld (Nat.le_refl _) dX4_signAt_31 hw
theorem dX4_reads_0 : decode cX4_reads 0 = .ok (.aload_n 0, 1) := by decide +kernel
theorem dX4_reads_1 : decode cX4_reads 1 = .ok (.getfield 15, 3) := by decide +kernel
theorem dX4_reads_4 : decode cX4_reads 4 = .ok (.aload_n 1, 1) := by decide +kernel
theorem dX4_reads_5 : decode cX4_reads 5 = .ok (.invokevirtual 19, 3) := by decide +kernel
theorem dX4_reads_8 : decode cX4_reads 8 = .ok (.if_icmp .eq 5, 3) := by decide +kernel
theorem dX4_reads_11 : decode cX4_reads 11 = .ok (.iconst 0, 1) := by decide +kernel
theorem dX4_reads_12 : decode cX4_reads 12 = .ok (.ireturn, 1) := by decide +kernel
theorem dX4_reads_13 : decode cX4_reads 13 = .ok (.iconst 0, 1) := by decide +kernel
theorem dX4_reads_14 : decode cX4_reads 14 = .ok (.istore_n 2, 1) := by decide +kernel
theorem dX4_reads_15 : decode cX4_reads 15 = .ok (.iload_n 2, 1) := by decide +kernel
theorem dX4_reads_16 : decode cX4_reads 16 = .ok (.aload_n 1, 1) := by decide +kernel
theorem dX4_reads_17 : decode cX4_reads 17 = .ok (.invokevirtual 19, 3) := by decide +kernel
theorem dX4_reads_20 : decode cX4_reads 20 = .ok (.if_icmp .ge 24, 3) := by decide +kernel
theorem dX4_reads_23 : decode cX4_reads 23 = .ok (.aload_n 0, 1) := by decide +kernel
theorem dX4_reads_24 : decode cX4_reads 24 = .ok (.iload_n 2, 1) := by decide +kernel
theorem dX4_reads_25 : decode cX4_reads 25 = .ok (.invokevirtual 24, 3) := by decide +kernel
theorem dX4_reads_28 : decode cX4_reads 28 = .ok (.aload_n 1, 1) := by decide +kernel
theorem dX4_reads_29 : decode cX4_reads 29 = .ok (.iload_n 2, 1) := by decide +kernel
theorem dX4_reads_30 : decode cX4_reads 30 = .ok (.invokevirtual 28, 3) := by decide +kernel
theorem dX4_reads_33 : decode cX4_reads 33 = .ok (.if_icmp .eq 5, 3) := by decide +kernel
theorem dX4_reads_36 : decode cX4_reads 36 = .ok (.iconst 0, 1) := by decide +kernel
theorem dX4_reads_37 : decode cX4_reads 37 = .ok (.ireturn, 1) := by decide +kernel
theorem dX4_reads_38 : decode cX4_reads 38 = .ok (.iinc 2 1, 3) := by decide +kernel
theorem dX4_reads_41 : decode cX4_reads 41 = .ok (.goto (-26), 3) := by decide +kernel
theorem dX4_reads_44 : decode cX4_reads 44 = .ok (.iconst 1, 1) := by decide +kernel
theorem dX4_reads_45 : decode cX4_reads 45 = .ok (.ireturn, 1) := by decide +kernel
abbrev rmX4_reads : Room := { frames := 4, cells := 0, slots := 0, locals := 85 }
def w_X4_reads_L15 (n : Nat) (K : Int32 → Mem → Prop) : Nat → Mem → Nat → Nat → Int32 → Prop
  | 0, _, _, _, _ => False
  | fuel + 1, M, o0, q1, a2 => (q1 < 4 ∧ w_J0_length_8abf5 n M q1  (fun x7 M6 => ((x7 ≤ a2 → K (1 : Int32) M6) ∧ (¬ x7 ≤ a2 → ((o0 ≤ n ∧ kd o0 = (4, 0)) ∧ w_X4_signAt n M6 o0 a2 (fun x10 M9 => w_J0_charAt_5068e n M9 q1 a2 (fun x12 M11 => ((x10 = x12 → (∀ x13, x13 = a2 + (1 : Int32) → w_X4_reads_L15 n K fuel M11 o0 q1 x13)) ∧ (¬ x10 = x12 → K (0 : Int32) M11)))))))))
def w_X4_reads (n : Nat) (M : Mem) (t : Nat) (p1 : Nat) (K : Int32 → Mem → Prop) : Prop := ((t ≤ n ∧ kd t = (4, 0)) ∧ (p1 < 4 ∧ w_J0_length_8abf5 n M p1  (fun x4 M3 => (((gI M t 1) = x4 → w_X4_reads_L15 n K 4000 M3 t p1 (0 : Int32)) ∧ (¬ (gI M t 1) = x4 → K (0 : Int32) M3)))))
set_option maxHeartbeats 4000000 in
set_option maxRecDepth 20000 in
theorem c_X4_reads (l : Launch) (E : Gl) (n : Nat) (M : Mem) (t : Nat) (p1 : Nat) (K : Int32 → Mem → Prop) (hw : w_X4_reads n M t p1 K) : CT E l yX4_reads cX4_reads 3 (some .boolean) rmX4_reads n M [rV t, sV E p1] (PI E n K) := by
  refine g_met l (by decide) (Nat.le_of_ble_eq_true rfl) ?_
  intro p e s m args below meth c X hr hlk hnm hSz hOld
  change CX E p s m c _ _ RX4 at X
  have L15 : ∀ (fuel15 : Nat) (M : Mem) (o0 : Nat) (q1 : Nat) (a2 : Int32), w_X4_reads_L15 n K fuel15 M o0 q1 a2 → G E p l e rmX4_reads s m args below meth c 3 n M 0 0 (MQD lw_cs below (PI E n K) args s rmX4_reads.cells rmX4_reads.slots (Ab E)) 15 [(0, rV o0), (1, sV E q1), (2, iV a2)] [] := by
    intro fuel15
    induction fuel15 with
    | zero => intro M o0 q1 a2 hw; exact False.elim hw
    | succ fuel15 ih15 =>
      intro M o0 q1 a2 hw
      unfold w_X4_reads_L15 at hw
      refine g_iload_n X dX4_reads_15 2 rfl ?_
      refine g_aload_nS X dX4_reads_16 1 rfl ?_
      obtain ⟨hs5, hw⟩ := hw
      refine g_calli (pc' := 20) (rest := [iV a2]) rfl (fun H locs ls d qR qL => g_runT X cw_X4_19 ivs_J0_length_8abf5 ⟨Nat.le_of_ble_eq_true rfl, Nat.le_of_ble_eq_true rfl⟩ dX4_reads_17 (c_J0_length_8abf5 l E n M q1  _ hw) hs5 rfl rfl (Nat.le_of_ble_eq_true rfl) ⟨Nat.le_of_ble_eq_true rfl, Nat.le_of_ble_eq_true rfl⟩ qR qL) (fun x7 M6 hw => ?_)
      refine g_icmp_ge X 44 dX4_reads_20 (by decide) hw (fun hw => ?_) (fun hw => ?_)
      · refine g_iconst X (1 : Int32) dX4_reads_44 (by decide) ?_
        exact g_zret X hr hlk hSz hOld (Nat.le_refl _) dX4_reads_45 ⟨rfl, hw⟩
      · refine g_aload_n X dX4_reads_23 0 rfl ?_
        refine g_iload_n X dX4_reads_24 2 rfl ?_
        obtain ⟨hk8, hw⟩ := hw
        refine g_calli (pc' := 28) (rest := []) rfl (fun H locs ls d qR qL => g_runV X cw_X4_24 iv_X4_signAt ⟨Nat.le_of_ble_eq_true rfl, Nat.le_of_ble_eq_true rfl⟩ dX4_reads_25 (c_X4_signAt l E n M6 o0 a2 _ hw) hk8 rfl rfl (Nat.le_of_ble_eq_true rfl) ⟨Nat.le_of_ble_eq_true rfl, Nat.le_of_ble_eq_true rfl⟩ qR qL) (fun x10 M9 hw => ?_)
        refine g_aload_nS X dX4_reads_28 1 rfl ?_
        refine g_iload_n X dX4_reads_29 2 rfl ?_
        refine g_calli (pc' := 33) (rest := [iV x10]) rfl (fun H locs ls d qR qL => g_runT X cw_X4_28 ivs_J0_charAt_5068e ⟨Nat.le_of_ble_eq_true rfl, Nat.le_of_ble_eq_true rfl⟩ dX4_reads_30 (c_J0_charAt_5068e l E n M9 q1 a2 _ hw) hs5 rfl rfl (Nat.le_of_ble_eq_true rfl) ⟨Nat.le_of_ble_eq_true rfl, Nat.le_of_ble_eq_true rfl⟩ qR qL) (fun x12 M11 hw => ?_)
        refine g_icmp_eq X 38 dX4_reads_33 (by decide) hw (fun hw => ?_) (fun hw => ?_)
        · obtain ⟨x13, hx13⟩ : ∃ y : Int32, y = a2 + (1 : Int32) := ⟨_, rfl⟩
          have hw := hw x13 hx13
          refine g_iinc (lv' := [(2, iV x13), (0, rV o0), (1, sV E q1)]) X x13 dX4_reads_38 2 rfl (by rw [hx13]; rfl) (by decide) rfl ?_
          refine g_goto X 15 dX4_reads_41 (by decide) ?_
          refine g_lvsub (lv' := [(0, rV o0), (1, sV E q1), (2, iV x13)]) [1, 2, 0] rfl ?_
          exact ih15 _ _ _ _ hw
        · refine g_iconst X (0 : Int32) dX4_reads_36 (by decide) ?_
          exact g_zret X hr hlk hSz hOld (Nat.le_refl _) dX4_reads_37 ⟨rfl, hw⟩
  unfold w_X4_reads at hw
  refine g_aload_n X dX4_reads_0 0 rfl ?_
  obtain ⟨hk1, hw⟩ := hw
  refine g_get X (iV (gI M t 1)) dX4_reads_1 fl_X4_15 (fun _ => rfl) ⟨hk1, hw⟩ (fun hw => ?_)
  refine g_aload_nS X dX4_reads_4 1 rfl ?_
  obtain ⟨hs2, hw⟩ := hw
  refine g_calli (pc' := 8) (rest := [iV (gI M t 1)]) rfl (fun H locs ls d qR qL => g_runT X cw_X4_19 ivs_J0_length_8abf5 ⟨Nat.le_of_ble_eq_true rfl, Nat.le_of_ble_eq_true rfl⟩ dX4_reads_5 (c_J0_length_8abf5 l E n M p1  _ hw) hs2 rfl rfl (Nat.le_of_ble_eq_true rfl) ⟨Nat.le_of_ble_eq_true rfl, Nat.le_of_ble_eq_true rfl⟩ qR qL) (fun x4 M3 hw => ?_)
  refine g_icmp_eq X 13 dX4_reads_8 (by decide) hw (fun hw => ?_) (fun hw => ?_)
  · refine g_iconst X (0 : Int32) dX4_reads_13 (by decide) ?_
    refine g_istore_n (lv' := [(2, iV (0 : Int32)), (0, rV t), (1, sV E p1)]) X dX4_reads_14 (by decide) rfl ?_
    refine g_lvsub (lv' := [(0, rV t), (1, sV E p1), (2, iV (0 : Int32))]) [1, 2, 0] rfl ?_
    exact L15 _ _ _ _ _ hw
  · refine g_iconst X (0 : Int32) dX4_reads_11 (by decide) ?_
    exact g_zret X hr hlk hSz hOld (Nat.le_refl _) dX4_reads_12 ⟨rfl, hw⟩
theorem dX4_isDigitAt_0 : decode cX4_isDigitAt 0 = .ok (.aload_n 0, 1) := by decide +kernel
theorem dX4_isDigitAt_1 : decode cX4_isDigitAt 1 = .ok (.iload_n 1, 1) := by decide +kernel
theorem dX4_isDigitAt_2 : decode cX4_isDigitAt 2 = .ok (.invokevirtual 24, 3) := by decide +kernel
theorem dX4_isDigitAt_5 : decode cX4_isDigitAt 5 = .ok (.bipush 48, 2) := by decide +kernel
theorem dX4_isDigitAt_7 : decode cX4_isDigitAt 7 = .ok (.if_icmp .lt 17, 3) := by decide +kernel
theorem dX4_isDigitAt_10 : decode cX4_isDigitAt 10 = .ok (.aload_n 0, 1) := by decide +kernel
theorem dX4_isDigitAt_11 : decode cX4_isDigitAt 11 = .ok (.iload_n 1, 1) := by decide +kernel
theorem dX4_isDigitAt_12 : decode cX4_isDigitAt 12 = .ok (.invokevirtual 24, 3) := by decide +kernel
theorem dX4_isDigitAt_15 : decode cX4_isDigitAt 15 = .ok (.bipush 57, 2) := by decide +kernel
theorem dX4_isDigitAt_17 : decode cX4_isDigitAt 17 = .ok (.if_icmp .gt 7, 3) := by decide +kernel
theorem dX4_isDigitAt_20 : decode cX4_isDigitAt 20 = .ok (.iconst 1, 1) := by decide +kernel
theorem dX4_isDigitAt_21 : decode cX4_isDigitAt 21 = .ok (.goto 4, 3) := by decide +kernel
theorem dX4_isDigitAt_24 : decode cX4_isDigitAt 24 = .ok (.iconst 0, 1) := by decide +kernel
theorem dX4_isDigitAt_25 : decode cX4_isDigitAt 25 = .ok (.ireturn, 1) := by decide +kernel
abbrev rmX4_isDigitAt : Room := { frames := 1, cells := 0, slots := 0, locals := 21 }
def w_X4_isDigitAt (n : Nat) (M : Mem) (t : Nat) (p1 : Int32) (K : Int32 → Mem → Prop) : Prop := ((t ≤ n ∧ kd t = (4, 0)) ∧ w_X4_signAt n M t p1 (fun x3 M2 => ((x3 < (48 : Int32) → K (0 : Int32) M2) ∧ (¬ x3 < (48 : Int32) → w_X4_signAt n M2 t p1 (fun x5 M4 => (((57 : Int32) < x5 → K (0 : Int32) M4) ∧ (¬ (57 : Int32) < x5 → K (1 : Int32) M4)))))))
set_option maxHeartbeats 4000000 in
set_option maxRecDepth 20000 in
theorem c_X4_isDigitAt (l : Launch) (E : Gl) (n : Nat) (M : Mem) (t : Nat) (p1 : Int32) (K : Int32 → Mem → Prop) (hw : w_X4_isDigitAt n M t p1 K) : CT E l yX4_isDigitAt cX4_isDigitAt 2 (some .boolean) rmX4_isDigitAt n M [rV t, iV p1] (PI E n K) := by
  refine g_met l (by decide) (Nat.le_of_ble_eq_true rfl) ?_
  intro p e s m args below meth c X hr hlk hnm hSz hOld
  change CX E p s m c _ _ RX4 at X
  unfold w_X4_isDigitAt at hw
  refine g_aload_n X dX4_isDigitAt_0 0 rfl ?_
  refine g_iload_n X dX4_isDigitAt_1 1 rfl ?_
  obtain ⟨hk1, hw⟩ := hw
  refine g_calli (pc' := 5) (rest := []) rfl (fun H locs ls d qR qL => g_runV X cw_X4_24 iv_X4_signAt ⟨Nat.le_of_ble_eq_true rfl, Nat.le_of_ble_eq_true rfl⟩ dX4_isDigitAt_2 (c_X4_signAt l E n M t p1 _ hw) hk1 rfl rfl (Nat.le_of_ble_eq_true rfl) ⟨Nat.le_of_ble_eq_true rfl, Nat.le_of_ble_eq_true rfl⟩ qR qL) (fun x3 M2 hw => ?_)
  refine g_bipush X (48 : Int32) dX4_isDigitAt_5 (by decide) ?_
  refine g_icmp_lt X 24 dX4_isDigitAt_7 (by decide) hw (fun hw => ?_) (fun hw => ?_)
  · refine g_iconst X (0 : Int32) dX4_isDigitAt_24 (by decide) ?_
    exact g_zret X hr hlk hSz hOld (Nat.le_refl _) dX4_isDigitAt_25 ⟨rfl, hw⟩
  · refine g_aload_n X dX4_isDigitAt_10 0 rfl ?_
    refine g_iload_n X dX4_isDigitAt_11 1 rfl ?_
    refine g_calli (pc' := 15) (rest := []) rfl (fun H locs ls d qR qL => g_runV X cw_X4_24 iv_X4_signAt ⟨Nat.le_of_ble_eq_true rfl, Nat.le_of_ble_eq_true rfl⟩ dX4_isDigitAt_12 (c_X4_signAt l E n M2 t p1 _ hw) hk1 rfl rfl (Nat.le_of_ble_eq_true rfl) ⟨Nat.le_of_ble_eq_true rfl, Nat.le_of_ble_eq_true rfl⟩ qR qL) (fun x5 M4 hw => ?_)
    refine g_bipush X (57 : Int32) dX4_isDigitAt_15 (by decide) ?_
    refine g_icmp_gt X 24 dX4_isDigitAt_17 (by decide) hw (fun hw => ?_) (fun hw => ?_)
    · refine g_iconst X (0 : Int32) dX4_isDigitAt_24 (by decide) ?_
      exact g_zret X hr hlk hSz hOld (Nat.le_refl _) dX4_isDigitAt_25 ⟨rfl, hw⟩
    · refine g_iconst X (1 : Int32) dX4_isDigitAt_20 (by decide) ?_
      refine g_goto X 25 dX4_isDigitAt_21 (by decide) ?_
      exact g_zret X hr hlk hSz hOld (Nat.le_refl _) dX4_isDigitAt_25 ⟨rfl, hw⟩
theorem dX4_behindDigits_0 : decode cX4_behindDigits 0 = .ok (.iload_n 1, 1) := by decide +kernel
theorem dX4_behindDigits_1 : decode cX4_behindDigits 1 = .ok (.istore_n 3, 1) := by decide +kernel
theorem dX4_behindDigits_2 : decode cX4_behindDigits 2 = .ok (.iload_n 3, 1) := by decide +kernel
theorem dX4_behindDigits_3 : decode cX4_behindDigits 3 = .ok (.iload_n 1, 1) := by decide +kernel
theorem dX4_behindDigits_4 : decode cX4_behindDigits 4 = .ok (.iload_n 2, 1) := by decide +kernel
theorem dX4_behindDigits_5 : decode cX4_behindDigits 5 = .ok (.iadd, 1) := by decide +kernel
theorem dX4_behindDigits_6 : decode cX4_behindDigits 6 = .ok (.if_icmp .ge 17, 3) := by decide +kernel
theorem dX4_behindDigits_9 : decode cX4_behindDigits 9 = .ok (.aload_n 0, 1) := by decide +kernel
theorem dX4_behindDigits_10 : decode cX4_behindDigits 10 = .ok (.iload_n 3, 1) := by decide +kernel
theorem dX4_behindDigits_11 : decode cX4_behindDigits 11 = .ok (.invokevirtual 42, 3) := by decide +kernel
theorem dX4_behindDigits_14 : decode cX4_behindDigits 14 = .ok (.ifCond .eq 9, 3) := by decide +kernel
theorem dX4_behindDigits_17 : decode cX4_behindDigits 17 = .ok (.iinc 3 1, 3) := by decide +kernel
theorem dX4_behindDigits_20 : decode cX4_behindDigits 20 = .ok (.goto (-18), 3) := by decide +kernel
theorem dX4_behindDigits_23 : decode cX4_behindDigits 23 = .ok (.iload_n 3, 1) := by decide +kernel
theorem dX4_behindDigits_24 : decode cX4_behindDigits 24 = .ok (.ireturn, 1) := by decide +kernel
abbrev rmX4_behindDigits : Room := { frames := 2, cells := 0, slots := 0, locals := 42 }
def w_X4_behindDigits_L2 (n : Nat) (K : Int32 → Mem → Prop) : Nat → Mem → Nat → Int32 → Int32 → Int32 → Prop
  | 0, _, _, _, _, _ => False
  | fuel + 1, M, o0, a1, a2, a3 => (((a1 + a2) ≤ a3 → K a3 M) ∧ (¬ (a1 + a2) ≤ a3 → ((o0 ≤ n ∧ kd o0 = (4, 0)) ∧ w_X4_isDigitAt n M o0 a3 (fun x3 M2 => ((x3 = 0 → K a3 M2) ∧ (¬ x3 = 0 → (∀ x4, x4 = a3 + (1 : Int32) → w_X4_behindDigits_L2 n K fuel M2 o0 a1 a2 x4)))))))
def w_X4_behindDigits (n : Nat) (M : Mem) (t : Nat) (p1 : Int32) (p2 : Int32) (K : Int32 → Mem → Prop) : Prop := w_X4_behindDigits_L2 n K 4000 M t p1 p2 p1
set_option maxHeartbeats 4000000 in
set_option maxRecDepth 20000 in
theorem c_X4_behindDigits (l : Launch) (E : Gl) (n : Nat) (M : Mem) (t : Nat) (p1 : Int32) (p2 : Int32) (K : Int32 → Mem → Prop) (hw : w_X4_behindDigits n M t p1 p2 K) : CT E l yX4_behindDigits cX4_behindDigits 4 (some .int) rmX4_behindDigits n M [rV t, iV p1, iV p2] (PI E n K) := by
  refine g_met l (by decide) (Nat.le_of_ble_eq_true rfl) ?_
  intro p e s m args below meth c X hr hlk hnm hSz hOld
  change CX E p s m c _ _ RX4 at X
  have L2 : ∀ (fuel2 : Nat) (M : Mem) (o0 : Nat) (a1 : Int32) (a2 : Int32) (a3 : Int32), w_X4_behindDigits_L2 n K fuel2 M o0 a1 a2 a3 → G E p l e rmX4_behindDigits s m args below meth c 4 n M 0 0 (MQD lw_cs below (PI E n K) args s rmX4_behindDigits.cells rmX4_behindDigits.slots (Ab E)) 2 [(0, rV o0), (1, iV a1), (2, iV a2), (3, iV a3)] [] := by
    intro fuel2
    induction fuel2 with
    | zero => intro M o0 a1 a2 a3 hw; exact False.elim hw
    | succ fuel2 ih2 =>
      intro M o0 a1 a2 a3 hw
      unfold w_X4_behindDigits_L2 at hw
      refine g_iload_n X dX4_behindDigits_2 3 rfl ?_
      refine g_iload_n X dX4_behindDigits_3 1 rfl ?_
      refine g_iload_n X dX4_behindDigits_4 2 rfl ?_
      refine g_iadd X dX4_behindDigits_5 ?_
      refine g_icmp_ge X 23 dX4_behindDigits_6 (by decide) hw (fun hw => ?_) (fun hw => ?_)
      · refine g_iload_n X dX4_behindDigits_23 3 rfl ?_
        exact g_iret X hr hlk hSz hOld (Nat.le_refl _) dX4_behindDigits_24 hw
      · refine g_aload_n X dX4_behindDigits_9 0 rfl ?_
        refine g_iload_n X dX4_behindDigits_10 3 rfl ?_
        obtain ⟨hk1, hw⟩ := hw
        refine g_calli (pc' := 14) (rest := []) rfl (fun H locs ls d qR qL => g_runV X cw_X4_42 iv_X4_isDigitAt ⟨Nat.le_of_ble_eq_true rfl, Nat.le_of_ble_eq_true rfl⟩ dX4_behindDigits_11 (c_X4_isDigitAt l E n M o0 a3 _ hw) hk1 rfl rfl (Nat.le_of_ble_eq_true rfl) ⟨Nat.le_of_ble_eq_true rfl, Nat.le_of_ble_eq_true rfl⟩ qR qL) (fun x3 M2 hw => ?_)
        refine g_if_eq X 23 dX4_behindDigits_14 (by decide) hw (fun hw => ?_) (fun hw => ?_)
        · refine g_iload_n X dX4_behindDigits_23 3 rfl ?_
          exact g_iret X hr hlk hSz hOld (Nat.le_refl _) dX4_behindDigits_24 hw
        · obtain ⟨x4, hx4⟩ : ∃ y : Int32, y = a3 + (1 : Int32) := ⟨_, rfl⟩
          have hw := hw x4 hx4
          refine g_iinc (lv' := [(3, iV x4), (0, rV o0), (1, iV a1), (2, iV a2)]) X x4 dX4_behindDigits_17 3 rfl (by rw [hx4]; rfl) (by decide) rfl ?_
          refine g_goto X 2 dX4_behindDigits_20 (by decide) ?_
          refine g_lvsub (lv' := [(0, rV o0), (1, iV a1), (2, iV a2), (3, iV x4)]) [1, 2, 3, 0] rfl ?_
          exact ih2 _ _ _ _ _ hw
  unfold w_X4_behindDigits at hw
  refine g_iload_n X dX4_behindDigits_0 1 rfl ?_
  refine g_istore_n (lv' := [(3, iV p1), (0, rV t), (1, iV p1), (2, iV p2)]) X dX4_behindDigits_1 (by decide) rfl ?_
  refine g_lvsub (lv' := [(0, rV t), (1, iV p1), (2, iV p2), (3, iV p1)]) [1, 2, 3, 0] rfl ?_
  exact L2 _ _ _ _ _ _ hw
theorem dX4_behindLeak_0 : decode cX4_behindLeak 0 = .ok (.aload_n 0, 1) := by decide +kernel
theorem dX4_behindLeak_1 : decode cX4_behindLeak 1 = .ok (.iload_n 1, 1) := by decide +kernel
theorem dX4_behindLeak_2 : decode cX4_behindLeak 2 = .ok (.invokevirtual 24, 3) := by decide +kernel
theorem dX4_behindLeak_5 : decode cX4_behindLeak 5 = .ok (.bipush 48, 2) := by decide +kernel
theorem dX4_behindLeak_7 : decode cX4_behindLeak 7 = .ok (.if_icmp .ne 9, 3) := by decide +kernel
theorem dX4_behindLeak_10 : decode cX4_behindLeak 10 = .ok (.iload_n 1, 1) := by decide +kernel
theorem dX4_behindLeak_11 : decode cX4_behindLeak 11 = .ok (.iconst 1, 1) := by decide +kernel
theorem dX4_behindLeak_12 : decode cX4_behindLeak 12 = .ok (.iadd, 1) := by decide +kernel
theorem dX4_behindLeak_13 : decode cX4_behindLeak 13 = .ok (.goto 9, 3) := by decide +kernel
theorem dX4_behindLeak_16 : decode cX4_behindLeak 16 = .ok (.aload_n 0, 1) := by decide +kernel
theorem dX4_behindLeak_17 : decode cX4_behindLeak 17 = .ok (.iload_n 1, 1) := by decide +kernel
theorem dX4_behindLeak_18 : decode cX4_behindLeak 18 = .ok (.iconst 5, 1) := by decide +kernel
theorem dX4_behindLeak_19 : decode cX4_behindLeak 19 = .ok (.invokevirtual 38, 3) := by decide +kernel
theorem dX4_behindLeak_22 : decode cX4_behindLeak 22 = .ok (.ireturn, 1) := by decide +kernel
abbrev rmX4_behindLeak : Room := { frames := 3, cells := 0, slots := 0, locals := 65 }
def w_X4_behindLeak (n : Nat) (M : Mem) (t : Nat) (p1 : Int32) (K : Int32 → Mem → Prop) : Prop := ((t ≤ n ∧ kd t = (4, 0)) ∧ w_X4_signAt n M t p1 (fun x3 M2 => ((¬ x3 = (48 : Int32) → w_X4_behindDigits n M2 t p1 (5 : Int32) (fun x5 M4 => K x5 M4)) ∧ (x3 = (48 : Int32) → K (p1 + (1 : Int32)) M2))))
set_option maxHeartbeats 4000000 in
set_option maxRecDepth 20000 in
theorem c_X4_behindLeak (l : Launch) (E : Gl) (n : Nat) (M : Mem) (t : Nat) (p1 : Int32) (K : Int32 → Mem → Prop) (hw : w_X4_behindLeak n M t p1 K) : CT E l yX4_behindLeak cX4_behindLeak 2 (some .int) rmX4_behindLeak n M [rV t, iV p1] (PI E n K) := by
  refine g_met l (by decide) (Nat.le_of_ble_eq_true rfl) ?_
  intro p e s m args below meth c X hr hlk hnm hSz hOld
  change CX E p s m c _ _ RX4 at X
  unfold w_X4_behindLeak at hw
  refine g_aload_n X dX4_behindLeak_0 0 rfl ?_
  refine g_iload_n X dX4_behindLeak_1 1 rfl ?_
  obtain ⟨hk1, hw⟩ := hw
  refine g_calli (pc' := 5) (rest := []) rfl (fun H locs ls d qR qL => g_runV X cw_X4_24 iv_X4_signAt ⟨Nat.le_of_ble_eq_true rfl, Nat.le_of_ble_eq_true rfl⟩ dX4_behindLeak_2 (c_X4_signAt l E n M t p1 _ hw) hk1 rfl rfl (Nat.le_of_ble_eq_true rfl) ⟨Nat.le_of_ble_eq_true rfl, Nat.le_of_ble_eq_true rfl⟩ qR qL) (fun x3 M2 hw => ?_)
  refine g_bipush X (48 : Int32) dX4_behindLeak_5 (by decide) ?_
  refine g_icmp_ne X 16 dX4_behindLeak_7 (by decide) hw (fun hw => ?_) (fun hw => ?_)
  · refine g_aload_n X dX4_behindLeak_16 0 rfl ?_
    refine g_iload_n X dX4_behindLeak_17 1 rfl ?_
    refine g_iconst X (5 : Int32) dX4_behindLeak_18 (by decide) ?_
    refine g_calli (pc' := 22) (rest := []) rfl (fun H locs ls d qR qL => g_runV X cw_X4_38 iv_X4_behindDigits ⟨Nat.le_of_ble_eq_true rfl, Nat.le_of_ble_eq_true rfl⟩ dX4_behindLeak_19 (c_X4_behindDigits l E n M2 t p1 (5 : Int32) _ hw) hk1 rfl rfl (Nat.le_of_ble_eq_true rfl) ⟨Nat.le_of_ble_eq_true rfl, Nat.le_of_ble_eq_true rfl⟩ qR qL) (fun x5 M4 hw => ?_)
    exact g_iret X hr hlk hSz hOld (Nat.le_refl _) dX4_behindLeak_22 hw
  · refine g_iload_n X dX4_behindLeak_10 1 rfl ?_
    refine g_iconst X (1 : Int32) dX4_behindLeak_11 (by decide) ?_
    refine g_iadd X dX4_behindLeak_12 ?_
    refine g_goto X 22 dX4_behindLeak_13 (by decide) ?_
    exact g_iret X hr hlk hSz hOld (Nat.le_refl _) dX4_behindLeak_22 hw
theorem dX4_behindVolume_0 : decode cX4_behindVolume 0 = .ok (.aload_n 0, 1) := by decide +kernel
theorem dX4_behindVolume_1 : decode cX4_behindVolume 1 = .ok (.iload_n 1, 1) := by decide +kernel
theorem dX4_behindVolume_2 : decode cX4_behindVolume 2 = .ok (.invokevirtual 24, 3) := by decide +kernel
theorem dX4_behindVolume_5 : decode cX4_behindVolume 5 = .ok (.bipush 48, 2) := by decide +kernel
theorem dX4_behindVolume_7 : decode cX4_behindVolume 7 = .ok (.if_icmp .ne 7, 3) := by decide +kernel
theorem dX4_behindVolume_10 : decode cX4_behindVolume 10 = .ok (.iload_n 1, 1) := by decide +kernel
theorem dX4_behindVolume_11 : decode cX4_behindVolume 11 = .ok (.goto 9, 3) := by decide +kernel
theorem dX4_behindVolume_14 : decode cX4_behindVolume 14 = .ok (.aload_n 0, 1) := by decide +kernel
theorem dX4_behindVolume_15 : decode cX4_behindVolume 15 = .ok (.iload_n 1, 1) := by decide +kernel
theorem dX4_behindVolume_16 : decode cX4_behindVolume 16 = .ok (.iconst 3, 1) := by decide +kernel
theorem dX4_behindVolume_17 : decode cX4_behindVolume 17 = .ok (.invokevirtual 38, 3) := by decide +kernel
theorem dX4_behindVolume_20 : decode cX4_behindVolume 20 = .ok (.ireturn, 1) := by decide +kernel
abbrev rmX4_behindVolume : Room := { frames := 3, cells := 0, slots := 0, locals := 65 }
def w_X4_behindVolume (n : Nat) (M : Mem) (t : Nat) (p1 : Int32) (K : Int32 → Mem → Prop) : Prop := ((t ≤ n ∧ kd t = (4, 0)) ∧ w_X4_signAt n M t p1 (fun x3 M2 => ((¬ x3 = (48 : Int32) → w_X4_behindDigits n M2 t p1 (3 : Int32) (fun x5 M4 => K x5 M4)) ∧ (x3 = (48 : Int32) → K p1 M2))))
set_option maxHeartbeats 4000000 in
set_option maxRecDepth 20000 in
theorem c_X4_behindVolume (l : Launch) (E : Gl) (n : Nat) (M : Mem) (t : Nat) (p1 : Int32) (K : Int32 → Mem → Prop) (hw : w_X4_behindVolume n M t p1 K) : CT E l yX4_behindVolume cX4_behindVolume 2 (some .int) rmX4_behindVolume n M [rV t, iV p1] (PI E n K) := by
  refine g_met l (by decide) (Nat.le_of_ble_eq_true rfl) ?_
  intro p e s m args below meth c X hr hlk hnm hSz hOld
  change CX E p s m c _ _ RX4 at X
  unfold w_X4_behindVolume at hw
  refine g_aload_n X dX4_behindVolume_0 0 rfl ?_
  refine g_iload_n X dX4_behindVolume_1 1 rfl ?_
  obtain ⟨hk1, hw⟩ := hw
  refine g_calli (pc' := 5) (rest := []) rfl (fun H locs ls d qR qL => g_runV X cw_X4_24 iv_X4_signAt ⟨Nat.le_of_ble_eq_true rfl, Nat.le_of_ble_eq_true rfl⟩ dX4_behindVolume_2 (c_X4_signAt l E n M t p1 _ hw) hk1 rfl rfl (Nat.le_of_ble_eq_true rfl) ⟨Nat.le_of_ble_eq_true rfl, Nat.le_of_ble_eq_true rfl⟩ qR qL) (fun x3 M2 hw => ?_)
  refine g_bipush X (48 : Int32) dX4_behindVolume_5 (by decide) ?_
  refine g_icmp_ne X 14 dX4_behindVolume_7 (by decide) hw (fun hw => ?_) (fun hw => ?_)
  · refine g_aload_n X dX4_behindVolume_14 0 rfl ?_
    refine g_iload_n X dX4_behindVolume_15 1 rfl ?_
    refine g_iconst X (3 : Int32) dX4_behindVolume_16 (by decide) ?_
    refine g_calli (pc' := 20) (rest := []) rfl (fun H locs ls d qR qL => g_runV X cw_X4_38 iv_X4_behindDigits ⟨Nat.le_of_ble_eq_true rfl, Nat.le_of_ble_eq_true rfl⟩ dX4_behindVolume_17 (c_X4_behindDigits l E n M2 t p1 (3 : Int32) _ hw) hk1 rfl rfl (Nat.le_of_ble_eq_true rfl) ⟨Nat.le_of_ble_eq_true rfl, Nat.le_of_ble_eq_true rfl⟩ qR qL) (fun x5 M4 hw => ?_)
    exact g_iret X hr hlk hSz hOld (Nat.le_refl _) dX4_behindVolume_20 hw
  · refine g_iload_n X dX4_behindVolume_10 1 rfl ?_
    refine g_goto X 20 dX4_behindVolume_11 (by decide) ?_
    exact g_iret X hr hlk hSz hOld (Nat.le_refl _) dX4_behindVolume_20 hw
theorem dX4_firstFault_0 : decode cX4_firstFault 0 = .ok (.iconst 0, 1) := by decide +kernel
theorem dX4_firstFault_1 : decode cX4_firstFault 1 = .ok (.istore_n 1, 1) := by decide +kernel
theorem dX4_firstFault_2 : decode cX4_firstFault 2 = .ok (.iconst 0, 1) := by decide +kernel
theorem dX4_firstFault_3 : decode cX4_firstFault 3 = .ok (.istore_n 2, 1) := by decide +kernel
theorem dX4_firstFault_4 : decode cX4_firstFault 4 = .ok (.iload_n 2, 1) := by decide +kernel
theorem dX4_firstFault_5 : decode cX4_firstFault 5 = .ok (.bipush 60, 2) := by decide +kernel
theorem dX4_firstFault_7 : decode cX4_firstFault 7 = .ok (.if_icmp .ge 117, 3) := by decide +kernel
theorem dX4_firstFault_10 : decode cX4_firstFault 10 = .ok (.aload_n 0, 1) := by decide +kernel
theorem dX4_firstFault_11 : decode cX4_firstFault 11 = .ok (.iload_n 1, 1) := by decide +kernel
theorem dX4_firstFault_12 : decode cX4_firstFault 12 = .ok (.invokevirtual 24, 3) := by decide +kernel
theorem dX4_firstFault_15 : decode cX4_firstFault 15 = .ok (.bipush 118, 2) := by decide +kernel
theorem dX4_firstFault_17 : decode cX4_firstFault 17 = .ok (.if_icmp .eq 15, 3) := by decide +kernel
theorem dX4_firstFault_20 : decode cX4_firstFault 20 = .ok (.aload_n 0, 1) := by decide +kernel
theorem dX4_firstFault_21 : decode cX4_firstFault 21 = .ok (.iload_n 1, 1) := by decide +kernel
theorem dX4_firstFault_22 : decode cX4_firstFault 22 = .ok (.invokevirtual 24, 3) := by decide +kernel
theorem dX4_firstFault_25 : decode cX4_firstFault 25 = .ok (.bipush 112, 2) := by decide +kernel
theorem dX4_firstFault_27 : decode cX4_firstFault 27 = .ok (.if_icmp .eq 5, 3) := by decide +kernel
theorem dX4_firstFault_30 : decode cX4_firstFault 30 = .ok (.iload_n 1, 1) := by decide +kernel
theorem dX4_firstFault_31 : decode cX4_firstFault 31 = .ok (.ireturn, 1) := by decide +kernel
theorem dX4_firstFault_32 : decode cX4_firstFault 32 = .ok (.iload_n 1, 1) := by decide +kernel
theorem dX4_firstFault_33 : decode cX4_firstFault 33 = .ok (.iconst 1, 1) := by decide +kernel
theorem dX4_firstFault_34 : decode cX4_firstFault 34 = .ok (.iadd, 1) := by decide +kernel
theorem dX4_firstFault_35 : decode cX4_firstFault 35 = .ok (.istore_n 3, 1) := by decide +kernel
theorem dX4_firstFault_36 : decode cX4_firstFault 36 = .ok (.aload_n 0, 1) := by decide +kernel
theorem dX4_firstFault_37 : decode cX4_firstFault 37 = .ok (.iload_n 3, 1) := by decide +kernel
theorem dX4_firstFault_38 : decode cX4_firstFault 38 = .ok (.invokevirtual 32, 3) := by decide +kernel
theorem dX4_firstFault_41 : decode cX4_firstFault 41 = .ok (.istore 4, 2) := by decide +kernel
theorem dX4_firstFault_43 : decode cX4_firstFault 43 = .ok (.iload 4, 2) := by decide +kernel
theorem dX4_firstFault_45 : decode cX4_firstFault 45 = .ok (.iload_n 3, 1) := by decide +kernel
theorem dX4_firstFault_46 : decode cX4_firstFault 46 = .ok (.if_icmp .eq 14, 3) := by decide +kernel
theorem dX4_firstFault_49 : decode cX4_firstFault 49 = .ok (.aload_n 0, 1) := by decide +kernel
theorem dX4_firstFault_50 : decode cX4_firstFault 50 = .ok (.iload 4, 2) := by decide +kernel
theorem dX4_firstFault_52 : decode cX4_firstFault 52 = .ok (.invokevirtual 24, 3) := by decide +kernel
theorem dX4_firstFault_55 : decode cX4_firstFault 55 = .ok (.bipush 47, 2) := by decide +kernel
theorem dX4_firstFault_57 : decode cX4_firstFault 57 = .ok (.if_icmp .eq 6, 3) := by decide +kernel
theorem dX4_firstFault_60 : decode cX4_firstFault 60 = .ok (.iload 4, 2) := by decide +kernel
theorem dX4_firstFault_62 : decode cX4_firstFault 62 = .ok (.ireturn, 1) := by decide +kernel
theorem dX4_firstFault_63 : decode cX4_firstFault 63 = .ok (.iload 4, 2) := by decide +kernel
theorem dX4_firstFault_65 : decode cX4_firstFault 65 = .ok (.iconst 1, 1) := by decide +kernel
theorem dX4_firstFault_66 : decode cX4_firstFault 66 = .ok (.iadd, 1) := by decide +kernel
theorem dX4_firstFault_67 : decode cX4_firstFault 67 = .ok (.istore 5, 2) := by decide +kernel
theorem dX4_firstFault_69 : decode cX4_firstFault 69 = .ok (.aload_n 0, 1) := by decide +kernel
theorem dX4_firstFault_70 : decode cX4_firstFault 70 = .ok (.iload 5, 2) := by decide +kernel
theorem dX4_firstFault_72 : decode cX4_firstFault 72 = .ok (.invokevirtual 35, 3) := by decide +kernel
theorem dX4_firstFault_75 : decode cX4_firstFault 75 = .ok (.istore 6, 2) := by decide +kernel
theorem dX4_firstFault_77 : decode cX4_firstFault 77 = .ok (.iload 6, 2) := by decide +kernel
theorem dX4_firstFault_79 : decode cX4_firstFault 79 = .ok (.iload 5, 2) := by decide +kernel
theorem dX4_firstFault_81 : decode cX4_firstFault 81 = .ok (.if_icmp .ne 6, 3) := by decide +kernel
theorem dX4_firstFault_84 : decode cX4_firstFault 84 = .ok (.iload 6, 2) := by decide +kernel
theorem dX4_firstFault_86 : decode cX4_firstFault 86 = .ok (.ireturn, 1) := by decide +kernel
theorem dX4_firstFault_87 : decode cX4_firstFault 87 = .ok (.aload_n 0, 1) := by decide +kernel
theorem dX4_firstFault_88 : decode cX4_firstFault 88 = .ok (.iload 6, 2) := by decide +kernel
theorem dX4_firstFault_90 : decode cX4_firstFault 90 = .ok (.invokevirtual 24, 3) := by decide +kernel
theorem dX4_firstFault_93 : decode cX4_firstFault 93 = .ok (.iconst (-1), 1) := by decide +kernel
theorem dX4_firstFault_94 : decode cX4_firstFault 94 = .ok (.if_icmp .ne 5, 3) := by decide +kernel
theorem dX4_firstFault_97 : decode cX4_firstFault 97 = .ok (.iconst (-1), 1) := by decide +kernel
theorem dX4_firstFault_98 : decode cX4_firstFault 98 = .ok (.ireturn, 1) := by decide +kernel
theorem dX4_firstFault_99 : decode cX4_firstFault 99 = .ok (.aload_n 0, 1) := by decide +kernel
theorem dX4_firstFault_100 : decode cX4_firstFault 100 = .ok (.iload 6, 2) := by decide +kernel
theorem dX4_firstFault_102 : decode cX4_firstFault 102 = .ok (.invokevirtual 24, 3) := by decide +kernel
theorem dX4_firstFault_105 : decode cX4_firstFault 105 = .ok (.bipush 59, 2) := by decide +kernel
theorem dX4_firstFault_107 : decode cX4_firstFault 107 = .ok (.if_icmp .eq 6, 3) := by decide +kernel
theorem dX4_firstFault_110 : decode cX4_firstFault 110 = .ok (.iload 6, 2) := by decide +kernel
theorem dX4_firstFault_112 : decode cX4_firstFault 112 = .ok (.ireturn, 1) := by decide +kernel
theorem dX4_firstFault_113 : decode cX4_firstFault 113 = .ok (.iload 6, 2) := by decide +kernel
theorem dX4_firstFault_115 : decode cX4_firstFault 115 = .ok (.iconst 1, 1) := by decide +kernel
theorem dX4_firstFault_116 : decode cX4_firstFault 116 = .ok (.iadd, 1) := by decide +kernel
theorem dX4_firstFault_117 : decode cX4_firstFault 117 = .ok (.istore_n 1, 1) := by decide +kernel
theorem dX4_firstFault_118 : decode cX4_firstFault 118 = .ok (.iinc 2 1, 3) := by decide +kernel
theorem dX4_firstFault_121 : decode cX4_firstFault 121 = .ok (.goto (-117), 3) := by decide +kernel
theorem dX4_firstFault_124 : decode cX4_firstFault 124 = .ok (.iload_n 1, 1) := by decide +kernel
theorem dX4_firstFault_125 : decode cX4_firstFault 125 = .ok (.ireturn, 1) := by decide +kernel
abbrev rmX4_firstFault : Room := { frames := 4, cells := 0, slots := 0, locals := 86 }
def w_X4_firstFault_L4 (n : Nat) (K : Int32 → Mem → Prop) : Nat → Mem → Nat → Int32 → Int32 → Prop
  | 0, _, _, _, _ => False
  | fuel + 1, M, o0, a1, a2 => (((60 : Int32) ≤ a2 → K a1 M) ∧ (¬ (60 : Int32) ≤ a2 → ((o0 ≤ n ∧ kd o0 = (4, 0)) ∧ w_X4_signAt n M o0 a1 (fun x3 M2 => ((x3 = (118 : Int32) → (∀ x4, x4 = a1 + (1 : Int32) → w_X4_behindLeak n M2 o0 x4 (fun x6 M5 => ((x6 = x4 → K x6 M5) ∧ (¬ x6 = x4 → w_X4_signAt n M5 o0 x6 (fun x8 M7 => ((x8 = (47 : Int32) → (∀ x9, x9 = x6 + (1 : Int32) → w_X4_behindVolume n M7 o0 x9 (fun x11 M10 => ((¬ x11 = x9 → w_X4_signAt n M10 o0 x11 (fun x13 M12 => ((¬ x13 = (-1 : Int32) → w_X4_signAt n M12 o0 x11 (fun x15 M14 => ((x15 = (59 : Int32) → (∀ x16, x16 = x11 + (1 : Int32) → (∀ x17, x17 = a2 + (1 : Int32) → w_X4_firstFault_L4 n K fuel M14 o0 x16 x17))) ∧ (¬ x15 = (59 : Int32) → K x11 M14)))) ∧ (x13 = (-1 : Int32) → K (-1 : Int32) M12)))) ∧ (x11 = x9 → K x11 M10))))) ∧ (¬ x8 = (47 : Int32) → K x6 M7)))))))) ∧ (¬ x3 = (118 : Int32) → w_X4_signAt n M2 o0 a1 (fun x19 M18 => ((x19 = (112 : Int32) → (∀ x20, x20 = a1 + (1 : Int32) → w_X4_behindLeak n M18 o0 x20 (fun x22 M21 => ((x22 = x20 → K x22 M21) ∧ (¬ x22 = x20 → w_X4_signAt n M21 o0 x22 (fun x24 M23 => ((x24 = (47 : Int32) → (∀ x25, x25 = x22 + (1 : Int32) → w_X4_behindVolume n M23 o0 x25 (fun x27 M26 => ((¬ x27 = x25 → w_X4_signAt n M26 o0 x27 (fun x29 M28 => ((¬ x29 = (-1 : Int32) → w_X4_signAt n M28 o0 x27 (fun x31 M30 => ((x31 = (59 : Int32) → (∀ x32, x32 = x27 + (1 : Int32) → (∀ x33, x33 = a2 + (1 : Int32) → w_X4_firstFault_L4 n K fuel M30 o0 x32 x33))) ∧ (¬ x31 = (59 : Int32) → K x27 M30)))) ∧ (x29 = (-1 : Int32) → K (-1 : Int32) M28)))) ∧ (x27 = x25 → K x27 M26))))) ∧ (¬ x24 = (47 : Int32) → K x22 M23)))))))) ∧ (¬ x19 = (112 : Int32) → K a1 M18)))))))))
def w_X4_firstFault (n : Nat) (M : Mem) (t : Nat) (K : Int32 → Mem → Prop) : Prop := w_X4_firstFault_L4 n K 4000 M t (0 : Int32) (0 : Int32)
set_option maxHeartbeats 4000000 in
set_option maxRecDepth 20000 in
theorem c_X4_firstFault (l : Launch) (E : Gl) (n : Nat) (M : Mem) (t : Nat) (K : Int32 → Mem → Prop) (hw : w_X4_firstFault n M t K) : CT E l yX4_firstFault cX4_firstFault 7 (some .int) rmX4_firstFault n M [rV t] (PI E n K) := by
  refine g_met l (by decide) (Nat.le_of_ble_eq_true rfl) ?_
  intro p e s m args below meth c X hr hlk hnm hSz hOld
  change CX E p s m c _ _ RX4 at X
  have L4 : ∀ (fuel4 : Nat) (M : Mem) (o0 : Nat) (a1 : Int32) (a2 : Int32), w_X4_firstFault_L4 n K fuel4 M o0 a1 a2 → G E p l e rmX4_firstFault s m args below meth c 7 n M 0 0 (MQD lw_cs below (PI E n K) args s rmX4_firstFault.cells rmX4_firstFault.slots (Ab E)) 4 [(0, rV o0), (1, iV a1), (2, iV a2)] [] := by
    intro fuel4
    induction fuel4 with
    | zero => intro M o0 a1 a2 hw; exact False.elim hw
    | succ fuel4 ih4 =>
      intro M o0 a1 a2 hw
      unfold w_X4_firstFault_L4 at hw
      refine g_iload_n X dX4_firstFault_4 2 rfl ?_
      refine g_bipush X (60 : Int32) dX4_firstFault_5 (by decide) ?_
      refine g_icmp_ge X 124 dX4_firstFault_7 (by decide) hw (fun hw => ?_) (fun hw => ?_)
      · refine g_iload_n X dX4_firstFault_124 1 rfl ?_
        exact g_iret X hr hlk hSz hOld (Nat.le_refl _) dX4_firstFault_125 hw
      · refine g_aload_n X dX4_firstFault_10 0 rfl ?_
        refine g_iload_n X dX4_firstFault_11 1 rfl ?_
        obtain ⟨hk1, hw⟩ := hw
        refine g_calli (pc' := 15) (rest := []) rfl (fun H locs ls d qR qL => g_runV X cw_X4_24 iv_X4_signAt ⟨Nat.le_of_ble_eq_true rfl, Nat.le_of_ble_eq_true rfl⟩ dX4_firstFault_12 (c_X4_signAt l E n M o0 a1 _ hw) hk1 rfl rfl (Nat.le_of_ble_eq_true rfl) ⟨Nat.le_of_ble_eq_true rfl, Nat.le_of_ble_eq_true rfl⟩ qR qL) (fun x3 M2 hw => ?_)
        refine g_bipush X (118 : Int32) dX4_firstFault_15 (by decide) ?_
        refine g_icmp_eq X 32 dX4_firstFault_17 (by decide) hw (fun hw => ?_) (fun hw => ?_)
        · refine g_iload_n X dX4_firstFault_32 1 rfl ?_
          refine g_iconst X (1 : Int32) dX4_firstFault_33 (by decide) ?_
          refine g_iadd X dX4_firstFault_34 ?_
          refine g_topI (fun x4 hx4 => ?_)
          have hw := hw x4 hx4
          refine g_istore_n (lv' := [(3, iV x4), (0, rV o0), (1, iV a1), (2, iV a2)]) X dX4_firstFault_35 (by decide) rfl ?_
          refine g_aload_n X dX4_firstFault_36 1 rfl ?_
          refine g_iload_n X dX4_firstFault_37 0 rfl ?_
          refine g_calli (pc' := 41) (rest := []) rfl (fun H locs ls d qR qL => g_runV X cw_X4_32 iv_X4_behindLeak ⟨Nat.le_of_ble_eq_true rfl, Nat.le_of_ble_eq_true rfl⟩ dX4_firstFault_38 (c_X4_behindLeak l E n M2 o0 x4 _ hw) hk1 rfl rfl (Nat.le_of_ble_eq_true rfl) ⟨Nat.le_of_ble_eq_true rfl, Nat.le_of_ble_eq_true rfl⟩ qR qL) (fun x6 M5 hw => ?_)
          refine g_istore (lv' := [(4, iV x6), (3, iV x4), (0, rV o0), (1, iV a1), (2, iV a2)]) X dX4_firstFault_41 (by decide) rfl ?_
          refine g_iload X dX4_firstFault_43 0 rfl ?_
          refine g_iload_n X dX4_firstFault_45 1 rfl ?_
          refine g_icmp_eq X 60 dX4_firstFault_46 (by decide) hw (fun hw => ?_) (fun hw => ?_)
          · refine g_iload X dX4_firstFault_60 0 rfl ?_
            exact g_iret X hr hlk hSz hOld (Nat.le_refl _) dX4_firstFault_62 hw
          · refine g_aload_n X dX4_firstFault_49 2 rfl ?_
            refine g_iload X dX4_firstFault_50 0 rfl ?_
            refine g_calli (pc' := 55) (rest := []) rfl (fun H locs ls d qR qL => g_runV X cw_X4_24 iv_X4_signAt ⟨Nat.le_of_ble_eq_true rfl, Nat.le_of_ble_eq_true rfl⟩ dX4_firstFault_52 (c_X4_signAt l E n M5 o0 x6 _ hw) hk1 rfl rfl (Nat.le_of_ble_eq_true rfl) ⟨Nat.le_of_ble_eq_true rfl, Nat.le_of_ble_eq_true rfl⟩ qR qL) (fun x8 M7 hw => ?_)
            refine g_bipush X (47 : Int32) dX4_firstFault_55 (by decide) ?_
            refine g_icmp_eq X 63 dX4_firstFault_57 (by decide) hw (fun hw => ?_) (fun hw => ?_)
            · refine g_iload X dX4_firstFault_63 0 rfl ?_
              refine g_iconst X (1 : Int32) dX4_firstFault_65 (by decide) ?_
              refine g_iadd X dX4_firstFault_66 ?_
              refine g_topI (fun x9 hx9 => ?_)
              have hw := hw x9 hx9
              refine g_istore (lv' := [(5, iV x9), (4, iV x6), (3, iV x4), (0, rV o0), (1, iV a1), (2, iV a2)]) X dX4_firstFault_67 (by decide) rfl ?_
              refine g_aload_n X dX4_firstFault_69 3 rfl ?_
              refine g_iload X dX4_firstFault_70 0 rfl ?_
              refine g_calli (pc' := 75) (rest := []) rfl (fun H locs ls d qR qL => g_runV X cw_X4_35 iv_X4_behindVolume ⟨Nat.le_of_ble_eq_true rfl, Nat.le_of_ble_eq_true rfl⟩ dX4_firstFault_72 (c_X4_behindVolume l E n M7 o0 x9 _ hw) hk1 rfl rfl (Nat.le_of_ble_eq_true rfl) ⟨Nat.le_of_ble_eq_true rfl, Nat.le_of_ble_eq_true rfl⟩ qR qL) (fun x11 M10 hw => ?_)
              refine g_istore (lv' := [(6, iV x11), (5, iV x9), (4, iV x6), (3, iV x4), (0, rV o0), (1, iV a1), (2, iV a2)]) X dX4_firstFault_75 (by decide) rfl ?_
              refine g_iload X dX4_firstFault_77 0 rfl ?_
              refine g_iload X dX4_firstFault_79 1 rfl ?_
              refine g_icmp_ne X 87 dX4_firstFault_81 (by decide) hw (fun hw => ?_) (fun hw => ?_)
              · refine g_aload_n X dX4_firstFault_87 4 rfl ?_
                refine g_iload X dX4_firstFault_88 0 rfl ?_
                refine g_calli (pc' := 93) (rest := []) rfl (fun H locs ls d qR qL => g_runV X cw_X4_24 iv_X4_signAt ⟨Nat.le_of_ble_eq_true rfl, Nat.le_of_ble_eq_true rfl⟩ dX4_firstFault_90 (c_X4_signAt l E n M10 o0 x11 _ hw) hk1 rfl rfl (Nat.le_of_ble_eq_true rfl) ⟨Nat.le_of_ble_eq_true rfl, Nat.le_of_ble_eq_true rfl⟩ qR qL) (fun x13 M12 hw => ?_)
                refine g_iconst X (-1 : Int32) dX4_firstFault_93 (by decide) ?_
                refine g_icmp_ne X 99 dX4_firstFault_94 (by decide) hw (fun hw => ?_) (fun hw => ?_)
                · refine g_aload_n X dX4_firstFault_99 4 rfl ?_
                  refine g_iload X dX4_firstFault_100 0 rfl ?_
                  refine g_calli (pc' := 105) (rest := []) rfl (fun H locs ls d qR qL => g_runV X cw_X4_24 iv_X4_signAt ⟨Nat.le_of_ble_eq_true rfl, Nat.le_of_ble_eq_true rfl⟩ dX4_firstFault_102 (c_X4_signAt l E n M12 o0 x11 _ hw) hk1 rfl rfl (Nat.le_of_ble_eq_true rfl) ⟨Nat.le_of_ble_eq_true rfl, Nat.le_of_ble_eq_true rfl⟩ qR qL) (fun x15 M14 hw => ?_)
                  refine g_bipush X (59 : Int32) dX4_firstFault_105 (by decide) ?_
                  refine g_icmp_eq X 113 dX4_firstFault_107 (by decide) hw (fun hw => ?_) (fun hw => ?_)
                  · refine g_iload X dX4_firstFault_113 0 rfl ?_
                    refine g_iconst X (1 : Int32) dX4_firstFault_115 (by decide) ?_
                    refine g_iadd X dX4_firstFault_116 ?_
                    refine g_topI (fun x16 hx16 => ?_)
                    have hw := hw x16 hx16
                    refine g_istore_n (lv' := [(1, iV x16), (6, iV x11), (5, iV x9), (4, iV x6), (3, iV x4), (0, rV o0), (2, iV a2)]) X dX4_firstFault_117 (by decide) rfl ?_
                    obtain ⟨x17, hx17⟩ : ∃ y : Int32, y = a2 + (1 : Int32) := ⟨_, rfl⟩
                    have hw := hw x17 hx17
                    refine g_iinc (lv' := [(2, iV x17), (1, iV x16), (6, iV x11), (5, iV x9), (4, iV x6), (3, iV x4), (0, rV o0)]) X x17 dX4_firstFault_118 6 rfl (by rw [hx17]; rfl) (by decide) rfl ?_
                    refine g_goto X 4 dX4_firstFault_121 (by decide) ?_
                    refine g_lvsub (lv' := [(0, rV o0), (1, iV x16), (2, iV x17)]) [6, 1, 0] rfl ?_
                    exact ih4 _ _ _ _ hw
                  · refine g_iload X dX4_firstFault_110 0 rfl ?_
                    exact g_iret X hr hlk hSz hOld (Nat.le_refl _) dX4_firstFault_112 hw
                · refine g_iconst X (-1 : Int32) dX4_firstFault_97 (by decide) ?_
                  exact g_iret X hr hlk hSz hOld (Nat.le_refl _) dX4_firstFault_98 hw
              · refine g_iload X dX4_firstFault_84 0 rfl ?_
                exact g_iret X hr hlk hSz hOld (Nat.le_refl _) dX4_firstFault_86 hw
            · refine g_iload X dX4_firstFault_60 0 rfl ?_
              exact g_iret X hr hlk hSz hOld (Nat.le_refl _) dX4_firstFault_62 hw
        · refine g_aload_n X dX4_firstFault_20 0 rfl ?_
          refine g_iload_n X dX4_firstFault_21 1 rfl ?_
          refine g_calli (pc' := 25) (rest := []) rfl (fun H locs ls d qR qL => g_runV X cw_X4_24 iv_X4_signAt ⟨Nat.le_of_ble_eq_true rfl, Nat.le_of_ble_eq_true rfl⟩ dX4_firstFault_22 (c_X4_signAt l E n M2 o0 a1 _ hw) hk1 rfl rfl (Nat.le_of_ble_eq_true rfl) ⟨Nat.le_of_ble_eq_true rfl, Nat.le_of_ble_eq_true rfl⟩ qR qL) (fun x19 M18 hw => ?_)
          refine g_bipush X (112 : Int32) dX4_firstFault_25 (by decide) ?_
          refine g_icmp_eq X 32 dX4_firstFault_27 (by decide) hw (fun hw => ?_) (fun hw => ?_)
          · refine g_iload_n X dX4_firstFault_32 1 rfl ?_
            refine g_iconst X (1 : Int32) dX4_firstFault_33 (by decide) ?_
            refine g_iadd X dX4_firstFault_34 ?_
            refine g_topI (fun x20 hx20 => ?_)
            have hw := hw x20 hx20
            refine g_istore_n (lv' := [(3, iV x20), (0, rV o0), (1, iV a1), (2, iV a2)]) X dX4_firstFault_35 (by decide) rfl ?_
            refine g_aload_n X dX4_firstFault_36 1 rfl ?_
            refine g_iload_n X dX4_firstFault_37 0 rfl ?_
            refine g_calli (pc' := 41) (rest := []) rfl (fun H locs ls d qR qL => g_runV X cw_X4_32 iv_X4_behindLeak ⟨Nat.le_of_ble_eq_true rfl, Nat.le_of_ble_eq_true rfl⟩ dX4_firstFault_38 (c_X4_behindLeak l E n M18 o0 x20 _ hw) hk1 rfl rfl (Nat.le_of_ble_eq_true rfl) ⟨Nat.le_of_ble_eq_true rfl, Nat.le_of_ble_eq_true rfl⟩ qR qL) (fun x22 M21 hw => ?_)
            refine g_istore (lv' := [(4, iV x22), (3, iV x20), (0, rV o0), (1, iV a1), (2, iV a2)]) X dX4_firstFault_41 (by decide) rfl ?_
            refine g_iload X dX4_firstFault_43 0 rfl ?_
            refine g_iload_n X dX4_firstFault_45 1 rfl ?_
            refine g_icmp_eq X 60 dX4_firstFault_46 (by decide) hw (fun hw => ?_) (fun hw => ?_)
            · refine g_iload X dX4_firstFault_60 0 rfl ?_
              exact g_iret X hr hlk hSz hOld (Nat.le_refl _) dX4_firstFault_62 hw
            · refine g_aload_n X dX4_firstFault_49 2 rfl ?_
              refine g_iload X dX4_firstFault_50 0 rfl ?_
              refine g_calli (pc' := 55) (rest := []) rfl (fun H locs ls d qR qL => g_runV X cw_X4_24 iv_X4_signAt ⟨Nat.le_of_ble_eq_true rfl, Nat.le_of_ble_eq_true rfl⟩ dX4_firstFault_52 (c_X4_signAt l E n M21 o0 x22 _ hw) hk1 rfl rfl (Nat.le_of_ble_eq_true rfl) ⟨Nat.le_of_ble_eq_true rfl, Nat.le_of_ble_eq_true rfl⟩ qR qL) (fun x24 M23 hw => ?_)
              refine g_bipush X (47 : Int32) dX4_firstFault_55 (by decide) ?_
              refine g_icmp_eq X 63 dX4_firstFault_57 (by decide) hw (fun hw => ?_) (fun hw => ?_)
              · refine g_iload X dX4_firstFault_63 0 rfl ?_
                refine g_iconst X (1 : Int32) dX4_firstFault_65 (by decide) ?_
                refine g_iadd X dX4_firstFault_66 ?_
                refine g_topI (fun x25 hx25 => ?_)
                have hw := hw x25 hx25
                refine g_istore (lv' := [(5, iV x25), (4, iV x22), (3, iV x20), (0, rV o0), (1, iV a1), (2, iV a2)]) X dX4_firstFault_67 (by decide) rfl ?_
                refine g_aload_n X dX4_firstFault_69 3 rfl ?_
                refine g_iload X dX4_firstFault_70 0 rfl ?_
                refine g_calli (pc' := 75) (rest := []) rfl (fun H locs ls d qR qL => g_runV X cw_X4_35 iv_X4_behindVolume ⟨Nat.le_of_ble_eq_true rfl, Nat.le_of_ble_eq_true rfl⟩ dX4_firstFault_72 (c_X4_behindVolume l E n M23 o0 x25 _ hw) hk1 rfl rfl (Nat.le_of_ble_eq_true rfl) ⟨Nat.le_of_ble_eq_true rfl, Nat.le_of_ble_eq_true rfl⟩ qR qL) (fun x27 M26 hw => ?_)
                refine g_istore (lv' := [(6, iV x27), (5, iV x25), (4, iV x22), (3, iV x20), (0, rV o0), (1, iV a1), (2, iV a2)]) X dX4_firstFault_75 (by decide) rfl ?_
                refine g_iload X dX4_firstFault_77 0 rfl ?_
                refine g_iload X dX4_firstFault_79 1 rfl ?_
                refine g_icmp_ne X 87 dX4_firstFault_81 (by decide) hw (fun hw => ?_) (fun hw => ?_)
                · refine g_aload_n X dX4_firstFault_87 4 rfl ?_
                  refine g_iload X dX4_firstFault_88 0 rfl ?_
                  refine g_calli (pc' := 93) (rest := []) rfl (fun H locs ls d qR qL => g_runV X cw_X4_24 iv_X4_signAt ⟨Nat.le_of_ble_eq_true rfl, Nat.le_of_ble_eq_true rfl⟩ dX4_firstFault_90 (c_X4_signAt l E n M26 o0 x27 _ hw) hk1 rfl rfl (Nat.le_of_ble_eq_true rfl) ⟨Nat.le_of_ble_eq_true rfl, Nat.le_of_ble_eq_true rfl⟩ qR qL) (fun x29 M28 hw => ?_)
                  refine g_iconst X (-1 : Int32) dX4_firstFault_93 (by decide) ?_
                  refine g_icmp_ne X 99 dX4_firstFault_94 (by decide) hw (fun hw => ?_) (fun hw => ?_)
                  · refine g_aload_n X dX4_firstFault_99 4 rfl ?_
                    refine g_iload X dX4_firstFault_100 0 rfl ?_
                    refine g_calli (pc' := 105) (rest := []) rfl (fun H locs ls d qR qL => g_runV X cw_X4_24 iv_X4_signAt ⟨Nat.le_of_ble_eq_true rfl, Nat.le_of_ble_eq_true rfl⟩ dX4_firstFault_102 (c_X4_signAt l E n M28 o0 x27 _ hw) hk1 rfl rfl (Nat.le_of_ble_eq_true rfl) ⟨Nat.le_of_ble_eq_true rfl, Nat.le_of_ble_eq_true rfl⟩ qR qL) (fun x31 M30 hw => ?_)
                    refine g_bipush X (59 : Int32) dX4_firstFault_105 (by decide) ?_
                    refine g_icmp_eq X 113 dX4_firstFault_107 (by decide) hw (fun hw => ?_) (fun hw => ?_)
                    · refine g_iload X dX4_firstFault_113 0 rfl ?_
                      refine g_iconst X (1 : Int32) dX4_firstFault_115 (by decide) ?_
                      refine g_iadd X dX4_firstFault_116 ?_
                      refine g_topI (fun x32 hx32 => ?_)
                      have hw := hw x32 hx32
                      refine g_istore_n (lv' := [(1, iV x32), (6, iV x27), (5, iV x25), (4, iV x22), (3, iV x20), (0, rV o0), (2, iV a2)]) X dX4_firstFault_117 (by decide) rfl ?_
                      obtain ⟨x33, hx33⟩ : ∃ y : Int32, y = a2 + (1 : Int32) := ⟨_, rfl⟩
                      have hw := hw x33 hx33
                      refine g_iinc (lv' := [(2, iV x33), (1, iV x32), (6, iV x27), (5, iV x25), (4, iV x22), (3, iV x20), (0, rV o0)]) X x33 dX4_firstFault_118 6 rfl (by rw [hx33]; rfl) (by decide) rfl ?_
                      refine g_goto X 4 dX4_firstFault_121 (by decide) ?_
                      refine g_lvsub (lv' := [(0, rV o0), (1, iV x32), (2, iV x33)]) [6, 1, 0] rfl ?_
                      exact ih4 _ _ _ _ hw
                    · refine g_iload X dX4_firstFault_110 0 rfl ?_
                      exact g_iret X hr hlk hSz hOld (Nat.le_refl _) dX4_firstFault_112 hw
                  · refine g_iconst X (-1 : Int32) dX4_firstFault_97 (by decide) ?_
                    exact g_iret X hr hlk hSz hOld (Nat.le_refl _) dX4_firstFault_98 hw
                · refine g_iload X dX4_firstFault_84 0 rfl ?_
                  exact g_iret X hr hlk hSz hOld (Nat.le_refl _) dX4_firstFault_86 hw
              · refine g_iload X dX4_firstFault_60 0 rfl ?_
                exact g_iret X hr hlk hSz hOld (Nat.le_refl _) dX4_firstFault_62 hw
          · refine g_iload_n X dX4_firstFault_30 1 rfl ?_
            exact g_iret X hr hlk hSz hOld (Nat.le_refl _) dX4_firstFault_31 hw
  unfold w_X4_firstFault at hw
  refine g_iconst X (0 : Int32) dX4_firstFault_0 (by decide) ?_
  refine g_istore_n (lv' := [(1, iV (0 : Int32)), (0, rV t)]) X dX4_firstFault_1 (by decide) rfl ?_
  refine g_iconst X (0 : Int32) dX4_firstFault_2 (by decide) ?_
  refine g_istore_n (lv' := [(2, iV (0 : Int32)), (1, iV (0 : Int32)), (0, rV t)]) X dX4_firstFault_3 (by decide) rfl ?_
  refine g_lvsub (lv' := [(0, rV t), (1, iV (0 : Int32)), (2, iV (0 : Int32))]) [2, 1, 0] rfl ?_
  exact L4 _ _ _ _ _ hw
theorem dX4_partsTold_0 : decode cX4_partsTold 0 = .ok (.iconst 1, 1) := by decide +kernel
theorem dX4_partsTold_1 : decode cX4_partsTold 1 = .ok (.istore_n 1, 1) := by decide +kernel
theorem dX4_partsTold_2 : decode cX4_partsTold 2 = .ok (.iconst 0, 1) := by decide +kernel
theorem dX4_partsTold_3 : decode cX4_partsTold 3 = .ok (.istore_n 2, 1) := by decide +kernel
theorem dX4_partsTold_4 : decode cX4_partsTold 4 = .ok (.iload_n 2, 1) := by decide +kernel
theorem dX4_partsTold_5 : decode cX4_partsTold 5 = .ok (.aload_n 0, 1) := by decide +kernel
theorem dX4_partsTold_6 : decode cX4_partsTold 6 = .ok (.getfield 15, 3) := by decide +kernel
theorem dX4_partsTold_9 : decode cX4_partsTold 9 = .ok (.if_icmp .ge 22, 3) := by decide +kernel
theorem dX4_partsTold_12 : decode cX4_partsTold 12 = .ok (.aload_n 0, 1) := by decide +kernel
theorem dX4_partsTold_13 : decode cX4_partsTold 13 = .ok (.iload_n 2, 1) := by decide +kernel
theorem dX4_partsTold_14 : decode cX4_partsTold 14 = .ok (.invokevirtual 24, 3) := by decide +kernel
theorem dX4_partsTold_17 : decode cX4_partsTold 17 = .ok (.bipush 59, 2) := by decide +kernel
theorem dX4_partsTold_19 : decode cX4_partsTold 19 = .ok (.if_icmp .ne 6, 3) := by decide +kernel
theorem dX4_partsTold_22 : decode cX4_partsTold 22 = .ok (.iinc 1 1, 3) := by decide +kernel
theorem dX4_partsTold_25 : decode cX4_partsTold 25 = .ok (.iinc 2 1, 3) := by decide +kernel
theorem dX4_partsTold_28 : decode cX4_partsTold 28 = .ok (.goto (-24), 3) := by decide +kernel
theorem dX4_partsTold_31 : decode cX4_partsTold 31 = .ok (.iload_n 1, 1) := by decide +kernel
theorem dX4_partsTold_32 : decode cX4_partsTold 32 = .ok (.ireturn, 1) := by decide +kernel
abbrev rmX4_partsTold : Room := { frames := 1, cells := 0, slots := 0, locals := 21 }
def w_X4_partsTold_L4 (n : Nat) (K : Int32 → Mem → Prop) : Nat → Mem → Nat → Int32 → Int32 → Prop
  | 0, _, _, _, _ => False
  | fuel + 1, M, o0, a1, a2 => ((o0 ≤ n ∧ kd o0 = (4, 0)) ∧ (((gI M o0 1) ≤ a2 → K a1 M) ∧ (¬ (gI M o0 1) ≤ a2 → w_X4_signAt n M o0 a2 (fun x3 M2 => ((¬ x3 = (59 : Int32) → (∀ x4, x4 = a2 + (1 : Int32) → w_X4_partsTold_L4 n K fuel M2 o0 a1 x4)) ∧ (x3 = (59 : Int32) → (∀ x5, x5 = a1 + (1 : Int32) → (∀ x6, x6 = a2 + (1 : Int32) → w_X4_partsTold_L4 n K fuel M2 o0 x5 x6))))))))
def w_X4_partsTold (n : Nat) (M : Mem) (t : Nat) (K : Int32 → Mem → Prop) : Prop := w_X4_partsTold_L4 n K 4000 M t (1 : Int32) (0 : Int32)
set_option maxHeartbeats 4000000 in
set_option maxRecDepth 20000 in
theorem c_X4_partsTold (l : Launch) (E : Gl) (n : Nat) (M : Mem) (t : Nat) (K : Int32 → Mem → Prop) (hw : w_X4_partsTold n M t K) : CT E l yX4_partsTold cX4_partsTold 3 (some .int) rmX4_partsTold n M [rV t] (PI E n K) := by
  refine g_met l (by decide) (Nat.le_of_ble_eq_true rfl) ?_
  intro p e s m args below meth c X hr hlk hnm hSz hOld
  change CX E p s m c _ _ RX4 at X
  have L4 : ∀ (fuel4 : Nat) (M : Mem) (o0 : Nat) (a1 : Int32) (a2 : Int32), w_X4_partsTold_L4 n K fuel4 M o0 a1 a2 → G E p l e rmX4_partsTold s m args below meth c 3 n M 0 0 (MQD lw_cs below (PI E n K) args s rmX4_partsTold.cells rmX4_partsTold.slots (Ab E)) 4 [(0, rV o0), (1, iV a1), (2, iV a2)] [] := by
    intro fuel4
    induction fuel4 with
    | zero => intro M o0 a1 a2 hw; exact False.elim hw
    | succ fuel4 ih4 =>
      intro M o0 a1 a2 hw
      unfold w_X4_partsTold_L4 at hw
      refine g_iload_n X dX4_partsTold_4 2 rfl ?_
      refine g_aload_n X dX4_partsTold_5 0 rfl ?_
      obtain ⟨hk1, hw⟩ := hw
      refine g_get X (iV (gI M o0 1)) dX4_partsTold_6 fl_X4_15 (fun _ => rfl) ⟨hk1, hw⟩ (fun hw => ?_)
      refine g_icmp_ge X 31 dX4_partsTold_9 (by decide) hw (fun hw => ?_) (fun hw => ?_)
      · refine g_iload_n X dX4_partsTold_31 1 rfl ?_
        exact g_iret X hr hlk hSz hOld (Nat.le_refl _) dX4_partsTold_32 hw
      · refine g_aload_n X dX4_partsTold_12 0 rfl ?_
        refine g_iload_n X dX4_partsTold_13 2 rfl ?_
        refine g_calli (pc' := 17) (rest := []) rfl (fun H locs ls d qR qL => g_runV X cw_X4_24 iv_X4_signAt ⟨Nat.le_of_ble_eq_true rfl, Nat.le_of_ble_eq_true rfl⟩ dX4_partsTold_14 (c_X4_signAt l E n M o0 a2 _ hw) hk1 rfl rfl (Nat.le_of_ble_eq_true rfl) ⟨Nat.le_of_ble_eq_true rfl, Nat.le_of_ble_eq_true rfl⟩ qR qL) (fun x3 M2 hw => ?_)
        refine g_bipush X (59 : Int32) dX4_partsTold_17 (by decide) ?_
        refine g_icmp_ne X 25 dX4_partsTold_19 (by decide) hw (fun hw => ?_) (fun hw => ?_)
        · obtain ⟨x4, hx4⟩ : ∃ y : Int32, y = a2 + (1 : Int32) := ⟨_, rfl⟩
          have hw := hw x4 hx4
          refine g_iinc (lv' := [(2, iV x4), (0, rV o0), (1, iV a1)]) X x4 dX4_partsTold_25 2 rfl (by rw [hx4]; rfl) (by decide) rfl ?_
          refine g_goto X 4 dX4_partsTold_28 (by decide) ?_
          refine g_lvsub (lv' := [(0, rV o0), (1, iV a1), (2, iV x4)]) [1, 2, 0] rfl ?_
          exact ih4 _ _ _ _ hw
        · obtain ⟨x5, hx5⟩ : ∃ y : Int32, y = a1 + (1 : Int32) := ⟨_, rfl⟩
          have hw := hw x5 hx5
          refine g_iinc (lv' := [(1, iV x5), (0, rV o0), (2, iV a2)]) X x5 dX4_partsTold_22 1 rfl (by rw [hx5]; rfl) (by decide) rfl ?_
          obtain ⟨x6, hx6⟩ : ∃ y : Int32, y = a2 + (1 : Int32) := ⟨_, rfl⟩
          have hw := hw x6 hx6
          refine g_iinc (lv' := [(2, iV x6), (1, iV x5), (0, rV o0)]) X x6 dX4_partsTold_25 2 rfl (by rw [hx6]; rfl) (by decide) rfl ?_
          refine g_goto X 4 dX4_partsTold_28 (by decide) ?_
          refine g_lvsub (lv' := [(0, rV o0), (1, iV x5), (2, iV x6)]) [2, 1, 0] rfl ?_
          exact ih4 _ _ _ _ hw
  unfold w_X4_partsTold at hw
  refine g_iconst X (1 : Int32) dX4_partsTold_0 (by decide) ?_
  refine g_istore_n (lv' := [(1, iV (1 : Int32)), (0, rV t)]) X dX4_partsTold_1 (by decide) rfl ?_
  refine g_iconst X (0 : Int32) dX4_partsTold_2 (by decide) ?_
  refine g_istore_n (lv' := [(2, iV (0 : Int32)), (1, iV (1 : Int32)), (0, rV t)]) X dX4_partsTold_3 (by decide) rfl ?_
  refine g_lvsub (lv' := [(0, rV t), (1, iV (1 : Int32)), (2, iV (0 : Int32))]) [2, 1, 0] rfl ?_
  exact L4 _ _ _ _ _ hw
theorem dX4_wholeIn_0 : decode cX4_wholeIn 0 = .ok (.iconst 0, 1) := by decide +kernel
theorem dX4_wholeIn_1 : decode cX4_wholeIn 1 = .ok (.istore_n 3, 1) := by decide +kernel
theorem dX4_wholeIn_2 : decode cX4_wholeIn 2 = .ok (.iload_n 1, 1) := by decide +kernel
theorem dX4_wholeIn_3 : decode cX4_wholeIn 3 = .ok (.istore 4, 2) := by decide +kernel
theorem dX4_wholeIn_5 : decode cX4_wholeIn 5 = .ok (.iload 4, 2) := by decide +kernel
theorem dX4_wholeIn_7 : decode cX4_wholeIn 7 = .ok (.iload_n 2, 1) := by decide +kernel
theorem dX4_wholeIn_8 : decode cX4_wholeIn 8 = .ok (.if_icmp .ge 24, 3) := by decide +kernel
theorem dX4_wholeIn_11 : decode cX4_wholeIn 11 = .ok (.iload_n 3, 1) := by decide +kernel
theorem dX4_wholeIn_12 : decode cX4_wholeIn 12 = .ok (.bipush 10, 2) := by decide +kernel
theorem dX4_wholeIn_14 : decode cX4_wholeIn 14 = .ok (.imul, 1) := by decide +kernel
theorem dX4_wholeIn_15 : decode cX4_wholeIn 15 = .ok (.aload_n 0, 1) := by decide +kernel
theorem dX4_wholeIn_16 : decode cX4_wholeIn 16 = .ok (.iload 4, 2) := by decide +kernel
theorem dX4_wholeIn_18 : decode cX4_wholeIn 18 = .ok (.invokevirtual 24, 3) := by decide +kernel
theorem dX4_wholeIn_21 : decode cX4_wholeIn 21 = .ok (.bipush 48, 2) := by decide +kernel
theorem dX4_wholeIn_23 : decode cX4_wholeIn 23 = .ok (.isub, 1) := by decide +kernel
theorem dX4_wholeIn_24 : decode cX4_wholeIn 24 = .ok (.iadd, 1) := by decide +kernel
theorem dX4_wholeIn_25 : decode cX4_wholeIn 25 = .ok (.istore_n 3, 1) := by decide +kernel
theorem dX4_wholeIn_26 : decode cX4_wholeIn 26 = .ok (.iinc 4 1, 3) := by decide +kernel
theorem dX4_wholeIn_29 : decode cX4_wholeIn 29 = .ok (.goto (-24), 3) := by decide +kernel
theorem dX4_wholeIn_32 : decode cX4_wholeIn 32 = .ok (.iload_n 3, 1) := by decide +kernel
theorem dX4_wholeIn_33 : decode cX4_wholeIn 33 = .ok (.ireturn, 1) := by decide +kernel
abbrev rmX4_wholeIn : Room := { frames := 1, cells := 0, slots := 0, locals := 21 }
def w_X4_wholeIn_L5 (n : Nat) (K : Int32 → Mem → Prop) : Nat → Mem → Nat → Int32 → Int32 → Int32 → Prop
  | 0, _, _, _, _, _ => False
  | fuel + 1, M, o0, a2, a3, a4 => ((a2 ≤ a4 → K a3 M) ∧ (¬ a2 ≤ a4 → ((o0 ≤ n ∧ kd o0 = (4, 0)) ∧ w_X4_signAt n M o0 a4 (fun x3 M2 => (∀ x4, x4 = (a3 * (10 : Int32)) + (x3 - (48 : Int32)) → (∀ x5, x5 = a4 + (1 : Int32) → w_X4_wholeIn_L5 n K fuel M2 o0 a2 x4 x5))))))
def w_X4_wholeIn (n : Nat) (M : Mem) (t : Nat) (p1 : Int32) (p2 : Int32) (K : Int32 → Mem → Prop) : Prop := w_X4_wholeIn_L5 n K 4000 M t p2 (0 : Int32) p1
set_option maxHeartbeats 4000000 in
set_option maxRecDepth 20000 in
theorem c_X4_wholeIn (l : Launch) (E : Gl) (n : Nat) (M : Mem) (t : Nat) (p1 : Int32) (p2 : Int32) (K : Int32 → Mem → Prop) (hw : w_X4_wholeIn n M t p1 p2 K) : CT E l yX4_wholeIn cX4_wholeIn 5 (some .int) rmX4_wholeIn n M [rV t, iV p1, iV p2] (PI E n K) := by
  refine g_met l (by decide) (Nat.le_of_ble_eq_true rfl) ?_
  intro p e s m args below meth c X hr hlk hnm hSz hOld
  change CX E p s m c _ _ RX4 at X
  have L5 : ∀ (fuel5 : Nat) (M : Mem) (o0 : Nat) (a2 : Int32) (a3 : Int32) (a4 : Int32), w_X4_wholeIn_L5 n K fuel5 M o0 a2 a3 a4 → G E p l e rmX4_wholeIn s m args below meth c 5 n M 0 0 (MQD lw_cs below (PI E n K) args s rmX4_wholeIn.cells rmX4_wholeIn.slots (Ab E)) 5 [(0, rV o0), (2, iV a2), (3, iV a3), (4, iV a4)] [] := by
    intro fuel5
    induction fuel5 with
    | zero => intro M o0 a2 a3 a4 hw; exact False.elim hw
    | succ fuel5 ih5 =>
      intro M o0 a2 a3 a4 hw
      unfold w_X4_wholeIn_L5 at hw
      refine g_iload X dX4_wholeIn_5 3 rfl ?_
      refine g_iload_n X dX4_wholeIn_7 1 rfl ?_
      refine g_icmp_ge X 32 dX4_wholeIn_8 (by decide) hw (fun hw => ?_) (fun hw => ?_)
      · refine g_iload_n X dX4_wholeIn_32 2 rfl ?_
        exact g_iret X hr hlk hSz hOld (Nat.le_refl _) dX4_wholeIn_33 hw
      · refine g_iload_n X dX4_wholeIn_11 2 rfl ?_
        refine g_bipush X (10 : Int32) dX4_wholeIn_12 (by decide) ?_
        refine g_imul X dX4_wholeIn_14 ?_
        refine g_aload_n X dX4_wholeIn_15 0 rfl ?_
        refine g_iload X dX4_wholeIn_16 3 rfl ?_
        obtain ⟨hk1, hw⟩ := hw
        refine g_calli (pc' := 21) (rest := [iV (a3 * (10 : Int32))]) rfl (fun H locs ls d qR qL => g_runV X cw_X4_24 iv_X4_signAt ⟨Nat.le_of_ble_eq_true rfl, Nat.le_of_ble_eq_true rfl⟩ dX4_wholeIn_18 (c_X4_signAt l E n M o0 a4 _ hw) hk1 rfl rfl (Nat.le_of_ble_eq_true rfl) ⟨Nat.le_of_ble_eq_true rfl, Nat.le_of_ble_eq_true rfl⟩ qR qL) (fun x3 M2 hw => ?_)
        refine g_bipush X (48 : Int32) dX4_wholeIn_21 (by decide) ?_
        refine g_isub X dX4_wholeIn_23 ?_
        refine g_iadd X dX4_wholeIn_24 ?_
        refine g_topI (fun x4 hx4 => ?_)
        have hw := hw x4 hx4
        refine g_istore_n (lv' := [(3, iV x4), (0, rV o0), (2, iV a2), (4, iV a4)]) X dX4_wholeIn_25 (by decide) rfl ?_
        obtain ⟨x5, hx5⟩ : ∃ y : Int32, y = a4 + (1 : Int32) := ⟨_, rfl⟩
        have hw := hw x5 hx5
        refine g_iinc (lv' := [(4, iV x5), (3, iV x4), (0, rV o0), (2, iV a2)]) X x5 dX4_wholeIn_26 3 rfl (by rw [hx5]; rfl) (by decide) rfl ?_
        refine g_goto X 5 dX4_wholeIn_29 (by decide) ?_
        refine g_lvsub (lv' := [(0, rV o0), (2, iV a2), (3, iV x4), (4, iV x5)]) [2, 3, 1, 0] rfl ?_
        exact ih5 _ _ _ _ _ hw
  unfold w_X4_wholeIn at hw
  refine g_iconst X (0 : Int32) dX4_wholeIn_0 (by decide) ?_
  refine g_istore_n (lv' := [(3, iV (0 : Int32)), (0, rV t), (1, iV p1), (2, iV p2)]) X dX4_wholeIn_1 (by decide) rfl ?_
  refine g_iload_n X dX4_wholeIn_2 2 rfl ?_
  refine g_istore (lv' := [(4, iV p1), (3, iV (0 : Int32)), (0, rV t), (1, iV p1), (2, iV p2)]) X dX4_wholeIn_3 (by decide) rfl ?_
  refine g_lvsub (lv' := [(0, rV t), (2, iV p2), (3, iV (0 : Int32)), (4, iV p1)]) [2, 4, 1, 0] rfl ?_
  exact L5 _ _ _ _ _ _ hw
theorem dX5_notANumber_0 : decode cX5_notANumber 0 = .ok (.ldc2_w 258, 3) := by decide +kernel
theorem dX5_notANumber_3 : decode cX5_notANumber 3 = .ok (.dreturn, 1) := by decide +kernel
abbrev rmX5_notANumber : Room := { frames := 0, cells := 0, slots := 0, locals := 0 }
def w_X5_notANumber (n : Nat) (M : Mem)  (K : UInt64 → Mem → Prop) : Prop := K (9221120237041090560 : UInt64) M
set_option maxHeartbeats 4000000 in
set_option maxRecDepth 20000 in
theorem c_X5_notANumber (l : Launch) (E : Gl) (n : Nat) (M : Mem)  (K : UInt64 → Mem → Prop) (hw : w_X5_notANumber n M  K) : CT E l yX5_notANumber cX5_notANumber 0 (some .double) rmX5_notANumber n M [] (PD E n K) := by
  refine g_met l (by decide) (Nat.le_of_ble_eq_true rfl) ?_
  intro p e s m args below meth c X hr hlk hnm hSz hOld
  change CX E p s m c _ _ RX5 at X
  unfold w_X5_notANumber at hw
  refine g_ldcD X (9221120237041090560 : UInt64) dX5_notANumber_0 wk_X5_258 ?_
  exact g_dret X hr hlk hSz hOld (Nat.le_refl _) dX5_notANumber_3 hw
theorem dX5_bitsOf_0 : decode cX5_bitsOf 0 = .ok (.fload_n 0, 1) := by decide +kernel
theorem dX5_bitsOf_1 : decode cX5_bitsOf 1 = .ok (.f2d, 1) := by decide +kernel
theorem dX5_bitsOf_2 : decode cX5_bitsOf 2 = .ok (.dstore_n 1, 1) := by decide +kernel
theorem dX5_bitsOf_3 : decode cX5_bitsOf 3 = .ok (.sipush 150, 3) := by decide +kernel
theorem dX5_bitsOf_6 : decode cX5_bitsOf 6 = .ok (.istore_n 3, 1) := by decide +kernel
theorem dX5_bitsOf_7 : decode cX5_bitsOf 7 = .ok (.iload_n 3, 1) := by decide +kernel
theorem dX5_bitsOf_8 : decode cX5_bitsOf 8 = .ok (.iconst 1, 1) := by decide +kernel
theorem dX5_bitsOf_9 : decode cX5_bitsOf 9 = .ok (.if_icmp .le 23, 3) := by decide +kernel
theorem dX5_bitsOf_12 : decode cX5_bitsOf 12 = .ok (.dload_n 1, 1) := by decide +kernel
theorem dX5_bitsOf_13 : decode cX5_bitsOf 13 = .ok (.ldc2_w 270, 3) := by decide +kernel
theorem dX5_bitsOf_16 : decode cX5_bitsOf 16 = .ok (.dcmp .g, 1) := by decide +kernel
theorem dX5_bitsOf_17 : decode cX5_bitsOf 17 = .ok (.ifCond .ge 15, 3) := by decide +kernel
theorem dX5_bitsOf_20 : decode cX5_bitsOf 20 = .ok (.dload_n 1, 1) := by decide +kernel
theorem dX5_bitsOf_21 : decode cX5_bitsOf 21 = .ok (.ldc2_w 268, 3) := by decide +kernel
theorem dX5_bitsOf_24 : decode cX5_bitsOf 24 = .ok (.dmul, 1) := by decide +kernel
theorem dX5_bitsOf_25 : decode cX5_bitsOf 25 = .ok (.dstore_n 1, 1) := by decide +kernel
theorem dX5_bitsOf_26 : decode cX5_bitsOf 26 = .ok (.iinc 3 (-1), 3) := by decide +kernel
theorem dX5_bitsOf_29 : decode cX5_bitsOf 29 = .ok (.goto (-22), 3) := by decide +kernel
theorem dX5_bitsOf_32 : decode cX5_bitsOf 32 = .ok (.dload_n 1, 1) := by decide +kernel
theorem dX5_bitsOf_33 : decode cX5_bitsOf 33 = .ok (.d2i, 1) := by decide +kernel
theorem dX5_bitsOf_34 : decode cX5_bitsOf 34 = .ok (.istore 4, 2) := by decide +kernel
theorem dX5_bitsOf_36 : decode cX5_bitsOf 36 = .ok (.iload 4, 2) := by decide +kernel
theorem dX5_bitsOf_38 : decode cX5_bitsOf 38 = .ok (.ldc_w 272, 3) := by decide +kernel
theorem dX5_bitsOf_41 : decode cX5_bitsOf 41 = .ok (.if_icmp .ge 8, 3) := by decide +kernel
theorem dX5_bitsOf_44 : decode cX5_bitsOf 44 = .ok (.iload 4, 2) := by decide +kernel
theorem dX5_bitsOf_46 : decode cX5_bitsOf 46 = .ok (.goto 14, 3) := by decide +kernel
theorem dX5_bitsOf_49 : decode cX5_bitsOf 49 = .ok (.iload_n 3, 1) := by decide +kernel
theorem dX5_bitsOf_50 : decode cX5_bitsOf 50 = .ok (.bipush 23, 2) := by decide +kernel
theorem dX5_bitsOf_52 : decode cX5_bitsOf 52 = .ok (.ishl, 1) := by decide +kernel
theorem dX5_bitsOf_53 : decode cX5_bitsOf 53 = .ok (.iload 4, 2) := by decide +kernel
theorem dX5_bitsOf_55 : decode cX5_bitsOf 55 = .ok (.ldc_w 272, 3) := by decide +kernel
theorem dX5_bitsOf_58 : decode cX5_bitsOf 58 = .ok (.isub, 1) := by decide +kernel
theorem dX5_bitsOf_59 : decode cX5_bitsOf 59 = .ok (.iadd, 1) := by decide +kernel
theorem dX5_bitsOf_60 : decode cX5_bitsOf 60 = .ok (.ireturn, 1) := by decide +kernel
abbrev rmX5_bitsOf : Room := { frames := 0, cells := 0, slots := 0, locals := 0 }
def w_X5_bitsOf_L7 (n : Nat) (K : Int32 → Mem → Prop) : Nat → Mem → UInt64 → Int32 → Prop
  | 0, _, _, _ => False
  | fuel + 1, M, g1, a3 => ((a3 ≤ (1 : Int32) → (∀ x2, x2 = FP.d2i g1 → (((8388608 : Int32) ≤ x2 → K ((a3 <<< ((23 : Int32) &&& 31)) + (x2 - (8388608 : Int32))) M) ∧ (¬ (8388608 : Int32) ≤ x2 → K x2 M)))) ∧ (¬ a3 ≤ (1 : Int32) → ((0 ≤ (Op.cmpValue (FP.dcmp g1 (4710765210229538816 : UInt64)) CmpOp.g) → (∀ x3, x3 = FP.d2i g1 → (((8388608 : Int32) ≤ x3 → K ((a3 <<< ((23 : Int32) &&& 31)) + (x3 - (8388608 : Int32))) M) ∧ (¬ (8388608 : Int32) ≤ x3 → K x3 M)))) ∧ (¬ 0 ≤ (Op.cmpValue (FP.dcmp g1 (4710765210229538816 : UInt64)) CmpOp.g) → (vf_n64 (FP.dmul g1 (4611686018427387904 : UInt64)) ∧ (∀ z4, z4 = FP.dmul g1 (4611686018427387904 : UInt64) → (∀ x5, x5 = a3 + (-1 : Int32) → w_X5_bitsOf_L7 n K fuel M z4 x5)))))))
def w_X5_bitsOf (n : Nat) (M : Mem) (p1 : UInt32) (K : Int32 → Mem → Prop) : Prop := (vf_n64 (FP.f2d p1) ∧ (∀ z1, z1 = FP.f2d p1 → w_X5_bitsOf_L7 n K 4000 M z1 (150 : Int32)))
set_option maxHeartbeats 4000000 in
set_option maxRecDepth 20000 in
theorem c_X5_bitsOf (l : Launch) (E : Gl) (n : Nat) (M : Mem) (p1 : UInt32) (K : Int32 → Mem → Prop) (hw : w_X5_bitsOf n M p1 K) : CT E l yX5_bitsOf cX5_bitsOf 5 (some .int) rmX5_bitsOf n M [fV p1] (PI E n K) := by
  refine g_met l (by decide) (Nat.le_of_ble_eq_true rfl) ?_
  intro p e s m args below meth c X hr hlk hnm hSz hOld
  change CX E p s m c _ _ RX5 at X
  have L7 : ∀ (fuel7 : Nat) (M : Mem) (g1 : UInt64) (a3 : Int32), w_X5_bitsOf_L7 n K fuel7 M g1 a3 → G E p l e rmX5_bitsOf s m args below meth c 5 n M 0 0 (MQD lw_cs below (PI E n K) args s rmX5_bitsOf.cells rmX5_bitsOf.slots (Ab E)) 7 [(1, dV g1), (3, iV a3)] [] := by
    intro fuel7
    induction fuel7 with
    | zero => intro M g1 a3 hw; exact False.elim hw
    | succ fuel7 ih7 =>
      intro M g1 a3 hw
      unfold w_X5_bitsOf_L7 at hw
      refine g_iload_n X dX5_bitsOf_7 1 rfl ?_
      refine g_iconst X (1 : Int32) dX5_bitsOf_8 (by decide) ?_
      refine g_icmp_le X 32 dX5_bitsOf_9 (by decide) hw (fun hw => ?_) (fun hw => ?_)
      · refine g_dload_n X dX5_bitsOf_32 0 rfl ?_
        refine g_d2i X dX5_bitsOf_33 ?_
        refine g_topI (fun x2 hx2 => ?_)
        have hw := hw x2 hx2
        refine g_istore (lv' := [(4, iV x2), (1, dV g1), (3, iV a3)]) X dX5_bitsOf_34 (by decide) rfl ?_
        refine g_iload X dX5_bitsOf_36 0 rfl ?_
        refine g_ldcw X (8388608 : Int32) dX5_bitsOf_38 wk_X5_272 ?_
        refine g_icmp_ge X 49 dX5_bitsOf_41 (by decide) hw (fun hw => ?_) (fun hw => ?_)
        · refine g_iload_n X dX5_bitsOf_49 2 rfl ?_
          refine g_bipush X (23 : Int32) dX5_bitsOf_50 (by decide) ?_
          refine g_ishl X dX5_bitsOf_52 ?_
          refine g_iload X dX5_bitsOf_53 0 rfl ?_
          refine g_ldcw X (8388608 : Int32) dX5_bitsOf_55 wk_X5_272 ?_
          refine g_isub X dX5_bitsOf_58 ?_
          refine g_iadd X dX5_bitsOf_59 ?_
          exact g_iret X hr hlk hSz hOld (Nat.le_refl _) dX5_bitsOf_60 hw
        · refine g_iload X dX5_bitsOf_44 0 rfl ?_
          refine g_goto X 60 dX5_bitsOf_46 (by decide) ?_
          exact g_iret X hr hlk hSz hOld (Nat.le_refl _) dX5_bitsOf_60 hw
      · refine g_dload_n X dX5_bitsOf_12 0 rfl ?_
        refine g_ldcD X (4710765210229538816 : UInt64) dX5_bitsOf_13 wk_X5_270 ?_
        refine g_dcmp X dX5_bitsOf_16 ?_
        refine g_if_ge X 32 dX5_bitsOf_17 (by decide) hw (fun hw => ?_) (fun hw => ?_)
        · refine g_dload_n X dX5_bitsOf_32 0 rfl ?_
          refine g_d2i X dX5_bitsOf_33 ?_
          refine g_topI (fun x3 hx3 => ?_)
          have hw := hw x3 hx3
          refine g_istore (lv' := [(4, iV x3), (1, dV g1), (3, iV a3)]) X dX5_bitsOf_34 (by decide) rfl ?_
          refine g_iload X dX5_bitsOf_36 0 rfl ?_
          refine g_ldcw X (8388608 : Int32) dX5_bitsOf_38 wk_X5_272 ?_
          refine g_icmp_ge X 49 dX5_bitsOf_41 (by decide) hw (fun hw => ?_) (fun hw => ?_)
          · refine g_iload_n X dX5_bitsOf_49 2 rfl ?_
            refine g_bipush X (23 : Int32) dX5_bitsOf_50 (by decide) ?_
            refine g_ishl X dX5_bitsOf_52 ?_
            refine g_iload X dX5_bitsOf_53 0 rfl ?_
            refine g_ldcw X (8388608 : Int32) dX5_bitsOf_55 wk_X5_272 ?_
            refine g_isub X dX5_bitsOf_58 ?_
            refine g_iadd X dX5_bitsOf_59 ?_
            exact g_iret X hr hlk hSz hOld (Nat.le_refl _) dX5_bitsOf_60 hw
          · refine g_iload X dX5_bitsOf_44 0 rfl ?_
            refine g_goto X 60 dX5_bitsOf_46 (by decide) ?_
            exact g_iret X hr hlk hSz hOld (Nat.le_refl _) dX5_bitsOf_60 hw
        · refine g_dload_n X dX5_bitsOf_20 0 rfl ?_
          refine g_ldcD X (4611686018427387904 : UInt64) dX5_bitsOf_21 wk_X5_268 ?_
          refine g_dmul X dX5_bitsOf_24 hw (fun hw => ?_)
          refine g_topD (fun z4 hz4 => ?_)
          have hw := hw z4 hz4
          refine g_dstore_n (lv' := [(1, dV z4), (3, iV a3)]) X dX5_bitsOf_25 (by decide) rfl ?_
          obtain ⟨x5, hx5⟩ : ∃ y : Int32, y = a3 + (-1 : Int32) := ⟨_, rfl⟩
          have hw := hw x5 hx5
          refine g_iinc (lv' := [(3, iV x5), (1, dV z4)]) X x5 dX5_bitsOf_26 1 rfl (by rw [hx5]; rfl) (by decide) rfl ?_
          refine g_goto X 7 dX5_bitsOf_29 (by decide) ?_
          refine g_lvsub (lv' := [(1, dV z4), (3, iV x5)]) [1, 0] rfl ?_
          exact ih7 _ _ _ hw
  unfold w_X5_bitsOf at hw
  refine g_fload_n X dX5_bitsOf_0 0 rfl ?_
  refine g_f2d X dX5_bitsOf_1 hw (fun hw => ?_)
  refine g_topD (fun z1 hz1 => ?_)
  have hw := hw z1 hz1
  refine g_dstore_n (lv' := [(1, dV z1), (0, fV p1)]) X dX5_bitsOf_2 (by decide) rfl ?_
  refine g_sipush X (150 : Int32) dX5_bitsOf_3 (by decide) ?_
  refine g_istore_n (lv' := [(3, iV (150 : Int32)), (1, dV z1), (0, fV p1)]) X dX5_bitsOf_6 (by decide) rfl ?_
  refine g_lvsub (lv' := [(1, dV z1), (3, iV (150 : Int32))]) [1, 0] rfl ?_
  exact L7 _ _ _ _ hw
