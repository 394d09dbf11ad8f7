/-! written by wip/whole/gen2.py out of the bytecode -/
theorem wfl_X6_7 : Cond.fieldLink RX6 7 RX6 "now" "[I" ∈ lwG := lwG_of (tb3 _ (List.mem_of_getElem? (i := 182) (by decide +kernel))) (by decide +kernel)
theorem fl_X6_7 : FL RX6 7 6 0 := ⟨by decide, by decide, rfl, wfl_X6_7⟩
theorem wfl_X6_19 : Cond.fieldLink RX6 19 RX6 "real" "[D" ∈ lwG := lwG_of (tb3 _ (List.mem_of_getElem? (i := 185) (by decide +kernel))) (by decide +kernel)
theorem fl_X6_19 : FL RX6 19 6 3 := ⟨by decide, by decide, rfl, wfl_X6_19⟩
theorem wm_X6_1 : Cond.methodLink RX6 1 objectInit ∈ lwG := lwG_of (tb3 _ (List.mem_of_getElem? (i := 174) (by decide +kernel))) (by decide +kernel)
theorem wa_int : Cond.arrayClass .int ∈ lwG := lwG_of (tb3 _ (List.mem_of_getElem? (i := 222) (by decide +kernel))) (by decide +kernel)
theorem wfl_X6_13 : Cond.fieldLink RX6 13 RX6 "history" "[I" ∈ lwG := lwG_of (tb3 _ (List.mem_of_getElem? (i := 183) (by decide +kernel))) (by decide +kernel)
theorem fl_X6_13 : FL RX6 13 6 1 := ⟨by decide, by decide, rfl, wfl_X6_13⟩
theorem wfl_X6_16 : Cond.fieldLink RX6 16 RX6 "slot" "[I" ∈ lwG := lwG_of (tb3 _ (List.mem_of_getElem? (i := 184) (by decide +kernel))) (by decide +kernel)
theorem fl_X6_16 : FL RX6 16 6 2 := ⟨by decide, by decide, rfl, wfl_X6_16⟩
theorem wa_double : Cond.arrayClass .double ∈ lwG := lwG_of (tb3 _ (List.mem_of_getElem? (i := 223) (by decide +kernel))) (by decide +kernel)
theorem wfl_X6_23 : Cond.fieldLink RX6 23 RX6 "realHistory" "[D" ∈ lwG := lwG_of (tb3 _ (List.mem_of_getElem? (i := 186) (by decide +kernel))) (by decide +kernel)
theorem fl_X6_23 : FL RX6 23 6 4 := ⟨by decide, by decide, rfl, wfl_X6_23⟩
theorem wfl_X6_26 : Cond.fieldLink RX6 26 RX6 "realSlot" "[D" ∈ lwG := lwG_of (tb3 _ (List.mem_of_getElem? (i := 187) (by decide +kernel))) (by decide +kernel)
theorem fl_X6_26 : FL RX6 26 6 5 := ⟨by decide, by decide, rfl, wfl_X6_26⟩
theorem wfl_X6_29 : Cond.fieldLink RX6 29 RX6 "text" "[C" ∈ lwG := lwG_of (tb3 _ (List.mem_of_getElem? (i := 191) (by decide +kernel))) (by decide +kernel)
theorem fl_X6_29 : FL RX6 29 6 9 := ⟨by decide, by decide, rfl, wfl_X6_29⟩
theorem wfl_X6_33 : Cond.fieldLink RX6 33 RX6 "readPart" "[I" ∈ lwG := lwG_of (tb3 _ (List.mem_of_getElem? (i := 194) (by decide +kernel))) (by decide +kernel)
theorem fl_X6_33 : FL RX6 33 6 12 := ⟨by decide, by decide, rfl, wfl_X6_33⟩
theorem wk_X6_36 : Cond.constantDouble RX6 36 (4647503709213818880) ∈ lwG := lwG_of (tb3 _ (List.mem_of_getElem? (i := 175) (by decide +kernel))) (by decide +kernel)
theorem wk_X6_38 : Cond.constantDouble RX6 38 (4626322717216342016) ∈ lwG := lwG_of (tb3 _ (List.mem_of_getElem? (i := 176) (by decide +kernel))) (by decide +kernel)
theorem wk_X6_40 : Cond.constantDouble RX6 40 (4629137466983448576) ∈ lwG := lwG_of (tb3 _ (List.mem_of_getElem? (i := 177) (by decide +kernel))) (by decide +kernel)
theorem wc_X6_begin : Cond.code yX6_begin cX6_begin 3 none ∈ lwG := lwG_of (tb3 _ (List.mem_of_getElem? (i := 181) (by decide +kernel))) (by decide +kernel)
theorem wi_X6 : Cond.initialized RX6 ∈ lwG := lwG_of (tb1 _ (List.mem_of_getElem? (i := 7) (by decide +kernel))) (by decide +kernel)
theorem wm_X6_42 : Cond.methodLink RX6 42 yX6_begin ∈ lwG := lwG_of (tb3 _ (List.mem_of_getElem? (i := 178) (by decide +kernel))) (by decide +kernel)
theorem cw_X6_42 : CW RX6 42 yX6_begin cX6_begin 3 none 1 := ⟨by decide +kernel, by decide +kernel, wc_X6_begin, wi_X6, wm_X6_42⟩
theorem wn_X6_begin : Cond.instanceMethod yX6_begin ∈ lwG := lwG_of (tb3 _ (List.mem_of_getElem? (i := 180) (by decide +kernel))) (by decide +kernel)
theorem ws_X6_begin : Cond.selects RX6 yX6_begin yX6_begin ∈ lwG := lwG_of (tb0 _ (List.mem_of_getElem? (i := 19) (by decide +kernel))) (by decide +kernel)
theorem iv_X6_begin : Cond.instanceMethod yX6_begin ∈ lwG ∧ Cond.selects (fC 6) yX6_begin yX6_begin ∈ lwG ∧ 6 < 7 := ⟨wn_X6_begin, ws_X6_begin, by decide⟩
theorem wfl_X6_46 : Cond.fieldLink RX6 46 RX6 "kept" "I" ∈ lwG := lwG_of (tb3 _ (List.mem_of_getElem? (i := 188) (by decide +kernel))) (by decide +kernel)
theorem fl_X6_46 : FL RX6 46 6 6 := ⟨by decide, by decide, rfl, wfl_X6_46⟩
theorem wc_X6_in : Cond.code yX6_in cX6_in 3 (some .boolean) ∈ lwG := lwG_of (tb3 _ (List.mem_of_getElem? (i := 230) (by decide +kernel))) (by decide +kernel)
theorem wm_X6_50 : Cond.methodLink RX6 50 yX6_in ∈ lwG := lwG_of (tb3 _ (List.mem_of_getElem? (i := 228) (by decide +kernel))) (by decide +kernel)
theorem cw_X6_50 : CW RX6 50 yX6_in cX6_in 3 (some .boolean) 3 := ⟨by decide +kernel, by decide +kernel, wc_X6_in, wi_X6, wm_X6_50⟩
theorem wt_X6_in : Cond.static yX6_in ∈ lwG := lwG_of (tb3 _ (List.mem_of_getElem? (i := 229) (by decide +kernel))) (by decide +kernel)
theorem wc_X6_ofHead : Cond.code yX6_ofHead cX6_ofHead 3 (some .int) ∈ lwG := lwG_of (tb4 _ (List.mem_of_getElem? (i := 20) (by decide +kernel))) (by decide +kernel)
theorem wm_X6_54 : Cond.methodLink RX6 54 yX6_ofHead ∈ lwG := lwG_of (tb4 _ (List.mem_of_getElem? (i := 17) (by decide +kernel))) (by decide +kernel)
theorem cw_X6_54 : CW RX6 54 yX6_ofHead cX6_ofHead 3 (some .int) 2 := ⟨by decide +kernel, by decide +kernel, wc_X6_ofHead, wi_X6, wm_X6_54⟩
theorem wn_X6_ofHead : Cond.instanceMethod yX6_ofHead ∈ lwG := lwG_of (tb4 _ (List.mem_of_getElem? (i := 19) (by decide +kernel))) (by decide +kernel)
theorem ws_X6_ofHead : Cond.selects RX6 yX6_ofHead yX6_ofHead ∈ lwG := lwG_of (tb0 _ (List.mem_of_getElem? (i := 22) (by decide +kernel))) (by decide +kernel)
theorem iv_X6_ofHead : Cond.instanceMethod yX6_ofHead ∈ lwG ∧ Cond.selects (fC 6) yX6_ofHead yX6_ofHead ∈ lwG ∧ 6 < 7 := ⟨wn_X6_ofHead, ws_X6_ofHead, by decide⟩
theorem wc_X6_traced : Cond.code yX6_traced cX6_traced 3 (some .double) ∈ lwG := lwG_of (tb4 _ (List.mem_of_getElem? (i := 75) (by decide +kernel))) (by decide +kernel)
theorem wm_X6_58 : Cond.methodLink RX6 58 yX6_traced ∈ lwG := lwG_of (tb4 _ (List.mem_of_getElem? (i := 72) (by decide +kernel))) (by decide +kernel)
theorem cw_X6_58 : CW RX6 58 yX6_traced cX6_traced 3 (some .double) 2 := ⟨by decide +kernel, by decide +kernel, wc_X6_traced, wi_X6, wm_X6_58⟩
theorem wn_X6_traced : Cond.instanceMethod yX6_traced ∈ lwG := lwG_of (tb4 _ (List.mem_of_getElem? (i := 74) (by decide +kernel))) (by decide +kernel)
theorem ws_X6_traced : Cond.selects RX6 yX6_traced yX6_traced ∈ lwG := lwG_of (tb0 _ (List.mem_of_getElem? (i := 32) (by decide +kernel))) (by decide +kernel)
theorem iv_X6_traced : Cond.instanceMethod yX6_traced ∈ lwG ∧ Cond.selects (fC 6) yX6_traced yX6_traced ∈ lwG ∧ 6 < 7 := ⟨wn_X6_traced, ws_X6_traced, by decide⟩
theorem wc_X6_record : Cond.code yX6_record cX6_record 2 none ∈ lwG := lwG_of (tb3 _ (List.mem_of_getElem? (i := 234) (by decide +kernel))) (by decide +kernel)
theorem wm_X6_62 : Cond.methodLink RX6 62 yX6_record ∈ lwG := lwG_of (tb3 _ (List.mem_of_getElem? (i := 231) (by decide +kernel))) (by decide +kernel)
theorem cw_X6_62 : CW RX6 62 yX6_record cX6_record 2 none 0 := ⟨by decide +kernel, by decide +kernel, wc_X6_record, wi_X6, wm_X6_62⟩
theorem wn_X6_record : Cond.instanceMethod yX6_record ∈ lwG := lwG_of (tb3 _ (List.mem_of_getElem? (i := 233) (by decide +kernel))) (by decide +kernel)
theorem ws_X6_record : Cond.selects RX6 yX6_record yX6_record ∈ lwG := lwG_of (tb0 _ (List.mem_of_getElem? (i := 20) (by decide +kernel))) (by decide +kernel)
theorem iv_X6_record : Cond.instanceMethod yX6_record ∈ lwG ∧ Cond.selects (fC 6) yX6_record yX6_record ∈ lwG ∧ 6 < 7 := ⟨wn_X6_record, ws_X6_record, by decide⟩
theorem wk_X6_65 : Cond.constantLong RX6 65 (9218868437227405312) ∈ lwG := lwG_of (tb3 _ (List.mem_of_getElem? (i := 239) (by decide +kernel))) (by decide +kernel)
theorem wm_X6_67 : Cond.methodLink RX6 67 ⟨"java/lang/Double", "longBitsToDouble", "(J)D"⟩ ∈ lwG := lwG_of (tb4 _ (List.mem_of_getElem? (i := 0) (by decide +kernel))) (by decide +kernel)
theorem wv_longBitsToDouble : Cond.native ⟨"java/lang/Double", "longBitsToDouble", "(J)D"⟩ ∈ lwG := lwG_of (tb4 _ (List.mem_of_getElem? (i := 2) (by decide +kernel))) (by decide +kernel)
theorem wt_longBitsToDouble : Cond.static ⟨"java/lang/Double", "longBitsToDouble", "(J)D"⟩ ∈ lwG := lwG_of (tb4 _ (List.mem_of_getElem? (i := 1) (by decide +kernel))) (by decide +kernel)
theorem wiq_Jxe99ae : Cond.initialized "java/lang/Double" ∈ lwG := lwG_of (tb1 _ (List.mem_of_getElem? (i := 8) (by decide +kernel))) (by decide +kernel)
theorem wk_X6_75 : Cond.constantDouble RX6 75 (4696837146684686336) ∈ lwG := lwG_of (tb4 _ (List.mem_of_getElem? (i := 4) (by decide +kernel))) (by decide +kernel)
theorem wk_X6_73 : Cond.constantDouble RX6 73 (4652007308841189376) ∈ lwG := lwG_of (tb4 _ (List.mem_of_getElem? (i := 3) (by decide +kernel))) (by decide +kernel)
theorem wc_X6_noHead : Cond.code yX6_noHead cX6_noHead 2 (some .boolean) ∈ lwG := lwG_of (tb4 _ (List.mem_of_getElem? (i := 16) (by decide +kernel))) (by decide +kernel)
theorem wm_X6_77 : Cond.methodLink RX6 77 yX6_noHead ∈ lwG := lwG_of (tb4 _ (List.mem_of_getElem? (i := 13) (by decide +kernel))) (by decide +kernel)
theorem cw_X6_77 : CW RX6 77 yX6_noHead cX6_noHead 2 (some .boolean) 1 := ⟨by decide +kernel, by decide +kernel, wc_X6_noHead, wi_X6, wm_X6_77⟩
theorem wn_X6_noHead : Cond.instanceMethod yX6_noHead ∈ lwG := lwG_of (tb4 _ (List.mem_of_getElem? (i := 15) (by decide +kernel))) (by decide +kernel)
theorem ws_X6_noHead : Cond.selects RX6 yX6_noHead yX6_noHead ∈ lwG := lwG_of (tb0 _ (List.mem_of_getElem? (i := 21) (by decide +kernel))) (by decide +kernel)
theorem iv_X6_noHead : Cond.instanceMethod yX6_noHead ∈ lwG ∧ Cond.selects (fC 6) yX6_noHead yX6_noHead ∈ lwG ∧ 6 < 7 := ⟨wn_X6_noHead, ws_X6_noHead, by decide⟩
theorem wk_X6_81 : Cond.constant RX6 81 (99999) ∈ lwG := lwG_of (tb4 _ (List.mem_of_getElem? (i := 25) (by decide +kernel))) (by decide +kernel)
theorem wc_X6_partOn : Cond.code yX6_partOn cX6_partOn 2 (some .int) ∈ lwG := lwG_of (tb4 _ (List.mem_of_getElem? (i := 29) (by decide +kernel))) (by decide +kernel)
theorem wm_X6_82 : Cond.methodLink RX6 82 yX6_partOn ∈ lwG := lwG_of (tb4 _ (List.mem_of_getElem? (i := 26) (by decide +kernel))) (by decide +kernel)
theorem cw_X6_82 : CW RX6 82 yX6_partOn cX6_partOn 2 (some .int) 1 := ⟨by decide +kernel, by decide +kernel, wc_X6_partOn, wi_X6, wm_X6_82⟩
theorem wn_X6_partOn : Cond.instanceMethod yX6_partOn ∈ lwG := lwG_of (tb4 _ (List.mem_of_getElem? (i := 28) (by decide +kernel))) (by decide +kernel)
theorem ws_X6_partOn : Cond.selects RX6 yX6_partOn yX6_partOn ∈ lwG := lwG_of (tb0 _ (List.mem_of_getElem? (i := 23) (by decide +kernel))) (by decide +kernel)
theorem iv_X6_partOn : Cond.instanceMethod yX6_partOn ∈ lwG ∧ Cond.selects (fC 6) yX6_partOn yX6_partOn ∈ lwG ∧ 6 < 7 := ⟨wn_X6_partOn, ws_X6_partOn, by decide⟩
theorem wk_X6_86 : Cond.constantDouble RX6 86 (4681608360884174848) ∈ lwG := lwG_of (tb4 _ (List.mem_of_getElem? (i := 30) (by decide +kernel))) (by decide +kernel)
theorem wc_X6_decayed : Cond.code yX6_decayed cX6_decayed 10 (some .double) ∈ lwG := lwG_of (tb4 _ (List.mem_of_getElem? (i := 34) (by decide +kernel))) (by decide +kernel)
theorem wm_X6_88 : Cond.methodLink RX6 88 yX6_decayed ∈ lwG := lwG_of (tb4 _ (List.mem_of_getElem? (i := 31) (by decide +kernel))) (by decide +kernel)
theorem cw_X6_88 : CW RX6 88 yX6_decayed cX6_decayed 10 (some .double) 4 := ⟨by decide +kernel, by decide +kernel, wc_X6_decayed, wi_X6, wm_X6_88⟩
theorem wn_X6_decayed : Cond.instanceMethod yX6_decayed ∈ lwG := lwG_of (tb4 _ (List.mem_of_getElem? (i := 33) (by decide +kernel))) (by decide +kernel)
theorem ws_X6_decayed : Cond.selects RX6 yX6_decayed yX6_decayed ∈ lwG := lwG_of (tb0 _ (List.mem_of_getElem? (i := 24) (by decide +kernel))) (by decide +kernel)
theorem iv_X6_decayed : Cond.instanceMethod yX6_decayed ∈ lwG ∧ Cond.selects (fC 6) yX6_decayed yX6_decayed ∈ lwG ∧ 6 < 7 := ⟨wn_X6_decayed, ws_X6_decayed, by decide⟩
theorem wk_X6_92 : Cond.constantDouble RX6 92 (4636737291354636288) ∈ lwG := lwG_of (tb4 _ (List.mem_of_getElem? (i := 35) (by decide +kernel))) (by decide +kernel)
theorem wc_X6_gain : Cond.code yX6_gain cX6_gain 2 (some .double) ∈ lwG := lwG_of (tb4 _ (List.mem_of_getElem? (i := 39) (by decide +kernel))) (by decide +kernel)
theorem wm_X6_94 : Cond.methodLink RX6 94 yX6_gain ∈ lwG := lwG_of (tb4 _ (List.mem_of_getElem? (i := 36) (by decide +kernel))) (by decide +kernel)
theorem cw_X6_94 : CW RX6 94 yX6_gain cX6_gain 2 (some .double) 1 := ⟨by decide +kernel, by decide +kernel, wc_X6_gain, wi_X6, wm_X6_94⟩
theorem wn_X6_gain : Cond.instanceMethod yX6_gain ∈ lwG := lwG_of (tb4 _ (List.mem_of_getElem? (i := 38) (by decide +kernel))) (by decide +kernel)
theorem ws_X6_gain : Cond.selects RX6 yX6_gain yX6_gain ∈ lwG := lwG_of (tb0 _ (List.mem_of_getElem? (i := 25) (by decide +kernel))) (by decide +kernel)
theorem iv_X6_gain : Cond.instanceMethod yX6_gain ∈ lwG ∧ Cond.selects (fC 6) yX6_gain yX6_gain ∈ lwG ∧ 6 < 7 := ⟨wn_X6_gain, ws_X6_gain, by decide⟩
theorem wc_X6_put : Cond.code yX6_put cX6_put 4 none ∈ lwG := lwG_of (tb4 _ (List.mem_of_getElem? (i := 51) (by decide +kernel))) (by decide +kernel)
theorem wm_X6_98 : Cond.methodLink RX6 98 yX6_put ∈ lwG := lwG_of (tb4 _ (List.mem_of_getElem? (i := 48) (by decide +kernel))) (by decide +kernel)
theorem cw_X6_98 : CW RX6 98 yX6_put cX6_put 4 none 3 := ⟨by decide +kernel, by decide +kernel, wc_X6_put, wi_X6, wm_X6_98⟩
theorem wn_X6_put : Cond.instanceMethod yX6_put ∈ lwG := lwG_of (tb4 _ (List.mem_of_getElem? (i := 50) (by decide +kernel))) (by decide +kernel)
theorem ws_X6_put : Cond.selects RX6 yX6_put yX6_put ∈ lwG := lwG_of (tb0 _ (List.mem_of_getElem? (i := 27) (by decide +kernel))) (by decide +kernel)
theorem iv_X6_put : Cond.instanceMethod yX6_put ∈ lwG ∧ Cond.selects (fC 6) yX6_put yX6_put ∈ lwG ∧ 6 < 7 := ⟨wn_X6_put, ws_X6_put, by decide⟩
theorem wc_X6_toBack : Cond.code yX6_toBack cX6_toBack 2 none ∈ lwG := lwG_of (tb4 _ (List.mem_of_getElem? (i := 55) (by decide +kernel))) (by decide +kernel)
theorem wm_X6_102 : Cond.methodLink RX6 102 yX6_toBack ∈ lwG := lwG_of (tb4 _ (List.mem_of_getElem? (i := 52) (by decide +kernel))) (by decide +kernel)
theorem cw_X6_102 : CW RX6 102 yX6_toBack cX6_toBack 2 none 1 := ⟨by decide +kernel, by decide +kernel, wc_X6_toBack, wi_X6, wm_X6_102⟩
theorem wn_X6_toBack : Cond.instanceMethod yX6_toBack ∈ lwG := lwG_of (tb4 _ (List.mem_of_getElem? (i := 54) (by decide +kernel))) (by decide +kernel)
theorem ws_X6_toBack : Cond.selects RX6 yX6_toBack yX6_toBack ∈ lwG := lwG_of (tb0 _ (List.mem_of_getElem? (i := 28) (by decide +kernel))) (by decide +kernel)
theorem iv_X6_toBack : Cond.instanceMethod yX6_toBack ∈ lwG ∧ Cond.selects (fC 6) yX6_toBack yX6_toBack ∈ lwG ∧ 6 < 7 := ⟨wn_X6_toBack, ws_X6_toBack, by decide⟩
theorem wc_X6_adds : Cond.code yX6_adds cX6_adds 6 none ∈ lwG := lwG_of (tb4 _ (List.mem_of_getElem? (i := 47) (by decide +kernel))) (by decide +kernel)
theorem wm_X6_105 : Cond.methodLink RX6 105 yX6_adds ∈ lwG := lwG_of (tb4 _ (List.mem_of_getElem? (i := 44) (by decide +kernel))) (by decide +kernel)
theorem cw_X6_105 : CW RX6 105 yX6_adds cX6_adds 6 none 3 := ⟨by decide +kernel, by decide +kernel, wc_X6_adds, wi_X6, wm_X6_105⟩
theorem wn_X6_adds : Cond.instanceMethod yX6_adds ∈ lwG := lwG_of (tb4 _ (List.mem_of_getElem? (i := 46) (by decide +kernel))) (by decide +kernel)
theorem ws_X6_adds : Cond.selects RX6 yX6_adds yX6_adds ∈ lwG := lwG_of (tb0 _ (List.mem_of_getElem? (i := 26) (by decide +kernel))) (by decide +kernel)
theorem iv_X6_adds : Cond.instanceMethod yX6_adds ∈ lwG ∧ Cond.selects (fC 6) yX6_adds yX6_adds ∈ lwG ∧ 6 < 7 := ⟨wn_X6_adds, ws_X6_adds, by decide⟩
theorem wc_X6_ofPart : Cond.code yX6_ofPart cX6_ofPart 3 (some .int) ∈ lwG := lwG_of (tb4 _ (List.mem_of_getElem? (i := 83) (by decide +kernel))) (by decide +kernel)
theorem wm_X6_108 : Cond.methodLink RX6 108 yX6_ofPart ∈ lwG := lwG_of (tb4 _ (List.mem_of_getElem? (i := 80) (by decide +kernel))) (by decide +kernel)
theorem cw_X6_108 : CW RX6 108 yX6_ofPart cX6_ofPart 3 (some .int) 2 := ⟨by decide +kernel, by decide +kernel, wc_X6_ofPart, wi_X6, wm_X6_108⟩
theorem wn_X6_ofPart : Cond.instanceMethod yX6_ofPart ∈ lwG := lwG_of (tb4 _ (List.mem_of_getElem? (i := 82) (by decide +kernel))) (by decide +kernel)
theorem ws_X6_ofPart : Cond.selects RX6 yX6_ofPart yX6_ofPart ∈ lwG := lwG_of (tb0 _ (List.mem_of_getElem? (i := 34) (by decide +kernel))) (by decide +kernel)
theorem iv_X6_ofPart : Cond.instanceMethod yX6_ofPart ∈ lwG ∧ Cond.selects (fC 6) yX6_ofPart yX6_ofPart ∈ lwG ∧ 6 < 7 := ⟨wn_X6_ofPart, ws_X6_ofPart, by decide⟩
theorem wc_X6_present : Cond.code yX6_present cX6_present 2 (some .double) ∈ lwG := lwG_of (tb4 _ (List.mem_of_getElem? (i := 79) (by decide +kernel))) (by decide +kernel)
theorem wm_X6_111 : Cond.methodLink RX6 111 yX6_present ∈ lwG := lwG_of (tb4 _ (List.mem_of_getElem? (i := 76) (by decide +kernel))) (by decide +kernel)
theorem cw_X6_111 : CW RX6 111 yX6_present cX6_present 2 (some .double) 1 := ⟨by decide +kernel, by decide +kernel, wc_X6_present, wi_X6, wm_X6_111⟩
theorem wn_X6_present : Cond.instanceMethod yX6_present ∈ lwG := lwG_of (tb4 _ (List.mem_of_getElem? (i := 78) (by decide +kernel))) (by decide +kernel)
theorem ws_X6_present : Cond.selects RX6 yX6_present yX6_present ∈ lwG := lwG_of (tb0 _ (List.mem_of_getElem? (i := 33) (by decide +kernel))) (by decide +kernel)
theorem iv_X6_present : Cond.instanceMethod yX6_present ∈ lwG ∧ Cond.selects (fC 6) yX6_present yX6_present ∈ lwG ∧ 6 < 7 := ⟨wn_X6_present, ws_X6_present, by decide⟩
theorem wk_X6_114 : Cond.constantDouble RX6 114 (4611686018427387904) ∈ lwG := lwG_of (tb4 _ (List.mem_of_getElem? (i := 96) (by decide +kernel))) (by decide +kernel)
theorem wc_X6_factor : Cond.code yX6_factor cX6_factor 2 (some .double) ∈ lwG := lwG_of (tb4 _ (List.mem_of_getElem? (i := 87) (by decide +kernel))) (by decide +kernel)
theorem wm_X6_116 : Cond.methodLink RX6 116 yX6_factor ∈ lwG := lwG_of (tb4 _ (List.mem_of_getElem? (i := 84) (by decide +kernel))) (by decide +kernel)
theorem cw_X6_116 : CW RX6 116 yX6_factor cX6_factor 2 (some .double) 1 := ⟨by decide +kernel, by decide +kernel, wc_X6_factor, wi_X6, wm_X6_116⟩
theorem wn_X6_factor : Cond.instanceMethod yX6_factor ∈ lwG := lwG_of (tb4 _ (List.mem_of_getElem? (i := 86) (by decide +kernel))) (by decide +kernel)
theorem ws_X6_factor : Cond.selects RX6 yX6_factor yX6_factor ∈ lwG := lwG_of (tb0 _ (List.mem_of_getElem? (i := 35) (by decide +kernel))) (by decide +kernel)
theorem iv_X6_factor : Cond.instanceMethod yX6_factor ∈ lwG ∧ Cond.selects (fC 6) yX6_factor yX6_factor ∈ lwG ∧ 6 < 7 := ⟨wn_X6_factor, ws_X6_factor, by decide⟩
theorem wc_X6_more : Cond.code yX6_more cX6_more 3 none ∈ lwG := lwG_of (tb4 _ (List.mem_of_getElem? (i := 91) (by decide +kernel))) (by decide +kernel)
theorem wm_X6_119 : Cond.methodLink RX6 119 yX6_more ∈ lwG := lwG_of (tb4 _ (List.mem_of_getElem? (i := 88) (by decide +kernel))) (by decide +kernel)
theorem cw_X6_119 : CW RX6 119 yX6_more cX6_more 3 none 2 := ⟨by decide +kernel, by decide +kernel, wc_X6_more, wi_X6, wm_X6_119⟩
theorem wn_X6_more : Cond.instanceMethod yX6_more ∈ lwG := lwG_of (tb4 _ (List.mem_of_getElem? (i := 90) (by decide +kernel))) (by decide +kernel)
theorem ws_X6_more : Cond.selects RX6 yX6_more yX6_more ∈ lwG := lwG_of (tb0 _ (List.mem_of_getElem? (i := 36) (by decide +kernel))) (by decide +kernel)
theorem iv_X6_more : Cond.instanceMethod yX6_more ∈ lwG ∧ Cond.selects (fC 6) yX6_more yX6_more ∈ lwG ∧ 6 < 7 := ⟨wn_X6_more, ws_X6_more, by decide⟩
theorem wc_X6_judged : Cond.code yX6_judged cX6_judged 4 (some .int) ∈ lwG := lwG_of (tb4 _ (List.mem_of_getElem? (i := 95) (by decide +kernel))) (by decide +kernel)
theorem wm_X6_123 : Cond.methodLink RX6 123 yX6_judged ∈ lwG := lwG_of (tb4 _ (List.mem_of_getElem? (i := 92) (by decide +kernel))) (by decide +kernel)
theorem cw_X6_123 : CW RX6 123 yX6_judged cX6_judged 4 (some .int) 2 := ⟨by decide +kernel, by decide +kernel, wc_X6_judged, wi_X6, wm_X6_123⟩
theorem wn_X6_judged : Cond.instanceMethod yX6_judged ∈ lwG := lwG_of (tb4 _ (List.mem_of_getElem? (i := 94) (by decide +kernel))) (by decide +kernel)
theorem ws_X6_judged : Cond.selects RX6 yX6_judged yX6_judged ∈ lwG := lwG_of (tb0 _ (List.mem_of_getElem? (i := 37) (by decide +kernel))) (by decide +kernel)
theorem iv_X6_judged : Cond.instanceMethod yX6_judged ∈ lwG ∧ Cond.selects (fC 6) yX6_judged yX6_judged ∈ lwG ∧ 6 < 7 := ⟨wn_X6_judged, ws_X6_judged, by decide⟩
theorem wc_X6_rejects : Cond.code yX6_rejects cX6_rejects 3 none ∈ lwG := lwG_of (tb4 _ (List.mem_of_getElem? (i := 100) (by decide +kernel))) (by decide +kernel)
theorem wm_X6_127 : Cond.methodLink RX6 127 yX6_rejects ∈ lwG := lwG_of (tb4 _ (List.mem_of_getElem? (i := 97) (by decide +kernel))) (by decide +kernel)
theorem cw_X6_127 : CW RX6 127 yX6_rejects cX6_rejects 3 none 2 := ⟨by decide +kernel, by decide +kernel, wc_X6_rejects, wi_X6, wm_X6_127⟩
theorem wn_X6_rejects : Cond.instanceMethod yX6_rejects ∈ lwG := lwG_of (tb4 _ (List.mem_of_getElem? (i := 99) (by decide +kernel))) (by decide +kernel)
theorem ws_X6_rejects : Cond.selects RX6 yX6_rejects yX6_rejects ∈ lwG := lwG_of (tb0 _ (List.mem_of_getElem? (i := 38) (by decide +kernel))) (by decide +kernel)
theorem iv_X6_rejects : Cond.instanceMethod yX6_rejects ∈ lwG ∧ Cond.selects (fC 6) yX6_rejects yX6_rejects ∈ lwG ∧ 6 < 7 := ⟨wn_X6_rejects, ws_X6_rejects, by decide⟩
theorem wc_X6_toFront : Cond.code yX6_toFront cX6_toFront 3 none ∈ lwG := lwG_of (tb4 _ (List.mem_of_getElem? (i := 104) (by decide +kernel))) (by decide +kernel)
theorem wm_X6_130 : Cond.methodLink RX6 130 yX6_toFront ∈ lwG := lwG_of (tb4 _ (List.mem_of_getElem? (i := 101) (by decide +kernel))) (by decide +kernel)
theorem cw_X6_130 : CW RX6 130 yX6_toFront cX6_toFront 3 none 1 := ⟨by decide +kernel, by decide +kernel, wc_X6_toFront, wi_X6, wm_X6_130⟩
theorem wn_X6_toFront : Cond.instanceMethod yX6_toFront ∈ lwG := lwG_of (tb4 _ (List.mem_of_getElem? (i := 103) (by decide +kernel))) (by decide +kernel)
theorem ws_X6_toFront : Cond.selects RX6 yX6_toFront yX6_toFront ∈ lwG := lwG_of (tb0 _ (List.mem_of_getElem? (i := 39) (by decide +kernel))) (by decide +kernel)
theorem iv_X6_toFront : Cond.instanceMethod yX6_toFront ∈ lwG ∧ Cond.selects (fC 6) yX6_toFront yX6_toFront ∈ lwG ∧ 6 < 7 := ⟨wn_X6_toFront, ws_X6_toFront, by decide⟩
theorem wc_X6_takes : Cond.code yX6_takes cX6_takes 4 (some .boolean) ∈ lwG := lwG_of (tb4 _ (List.mem_of_getElem? (i := 112) (by decide +kernel))) (by decide +kernel)
theorem wm_X6_133 : Cond.methodLink RX6 133 yX6_takes ∈ lwG := lwG_of (tb4 _ (List.mem_of_getElem? (i := 109) (by decide +kernel))) (by decide +kernel)
theorem cw_X6_133 : CW RX6 133 yX6_takes cX6_takes 4 (some .boolean) 2 := ⟨by decide +kernel, by decide +kernel, wc_X6_takes, wi_X6, wm_X6_133⟩
theorem wn_X6_takes : Cond.instanceMethod yX6_takes ∈ lwG := lwG_of (tb4 _ (List.mem_of_getElem? (i := 111) (by decide +kernel))) (by decide +kernel)
theorem ws_X6_takes : Cond.selects RX6 yX6_takes yX6_takes ∈ lwG := lwG_of (tb0 _ (List.mem_of_getElem? (i := 41) (by decide +kernel))) (by decide +kernel)
theorem iv_X6_takes : Cond.instanceMethod yX6_takes ∈ lwG ∧ Cond.selects (fC 6) yX6_takes yX6_takes ∈ lwG ∧ 6 < 7 := ⟨wn_X6_takes, ws_X6_takes, by decide⟩
theorem wc_X6_fills : Cond.code yX6_fills cX6_fills 5 none ∈ lwG := lwG_of (tb4 _ (List.mem_of_getElem? (i := 108) (by decide +kernel))) (by decide +kernel)
theorem wm_X6_140 : Cond.methodLink RX6 140 yX6_fills ∈ lwG := lwG_of (tb4 _ (List.mem_of_getElem? (i := 105) (by decide +kernel))) (by decide +kernel)
theorem cw_X6_140 : CW RX6 140 yX6_fills cX6_fills 5 none 1 := ⟨by decide +kernel, by decide +kernel, wc_X6_fills, wi_X6, wm_X6_140⟩
theorem wn_X6_fills : Cond.instanceMethod yX6_fills ∈ lwG := lwG_of (tb4 _ (List.mem_of_getElem? (i := 107) (by decide +kernel))) (by decide +kernel)
theorem ws_X6_fills : Cond.selects RX6 yX6_fills yX6_fills ∈ lwG := lwG_of (tb0 _ (List.mem_of_getElem? (i := 40) (by decide +kernel))) (by decide +kernel)
theorem iv_X6_fills : Cond.instanceMethod yX6_fills ∈ lwG ∧ Cond.selects (fC 6) yX6_fills yX6_fills ∈ lwG ∧ 6 < 7 := ⟨wn_X6_fills, ws_X6_fills, by decide⟩
theorem wc_X6_ends : Cond.code yX6_ends cX6_ends 10 none ∈ lwG := lwG_of (tb4 _ (List.mem_of_getElem? (i := 71) (by decide +kernel))) (by decide +kernel)
theorem wm_X6_137 : Cond.methodLink RX6 137 yX6_ends ∈ lwG := lwG_of (tb4 _ (List.mem_of_getElem? (i := 68) (by decide +kernel))) (by decide +kernel)
theorem cw_X6_137 : CW RX6 137 yX6_ends cX6_ends 10 none 1 := ⟨by decide +kernel, by decide +kernel, wc_X6_ends, wi_X6, wm_X6_137⟩
theorem wn_X6_ends : Cond.instanceMethod yX6_ends ∈ lwG := lwG_of (tb4 _ (List.mem_of_getElem? (i := 70) (by decide +kernel))) (by decide +kernel)
theorem ws_X6_ends : Cond.selects RX6 yX6_ends yX6_ends ∈ lwG := lwG_of (tb0 _ (List.mem_of_getElem? (i := 31) (by decide +kernel))) (by decide +kernel)
theorem iv_X6_ends : Cond.instanceMethod yX6_ends ∈ lwG ∧ Cond.selects (fC 6) yX6_ends yX6_ends ∈ lwG ∧ 6 < 7 := ⟨wn_X6_ends, ws_X6_ends, by decide⟩
theorem wc_X6_step : Cond.code yX6_step cX6_step 6 (some .int) ∈ lwG := lwG_of (tb4 _ (List.mem_of_getElem? (i := 67) (by decide +kernel))) (by decide +kernel)
theorem wm_X6_143 : Cond.methodLink RX6 143 yX6_step ∈ lwG := lwG_of (tb4 _ (List.mem_of_getElem? (i := 64) (by decide +kernel))) (by decide +kernel)
theorem cw_X6_143 : CW RX6 143 yX6_step cX6_step 6 (some .int) 0 := ⟨by decide +kernel, by decide +kernel, wc_X6_step, wi_X6, wm_X6_143⟩
theorem wn_X6_step : Cond.instanceMethod yX6_step ∈ lwG := lwG_of (tb4 _ (List.mem_of_getElem? (i := 66) (by decide +kernel))) (by decide +kernel)
theorem ws_X6_step : Cond.selects RX6 yX6_step yX6_step ∈ lwG := lwG_of (tb0 _ (List.mem_of_getElem? (i := 30) (by decide +kernel))) (by decide +kernel)
theorem iv_X6_step : Cond.instanceMethod yX6_step ∈ lwG ∧ Cond.selects (fC 6) yX6_step yX6_step ∈ lwG ∧ 6 < 7 := ⟨wn_X6_step, ws_X6_step, by decide⟩
theorem dX6_begin_0 : decode cX6_begin 0 = .ok (.iconst 0, 1) := by decide +kernel
theorem dX6_begin_1 : decode cX6_begin 1 = .ok (.istore_n 2, 1) := by decide +kernel
theorem dX6_begin_2 : decode cX6_begin 2 = .ok (.iload_n 2, 1) := by decide +kernel
theorem dX6_begin_3 : decode cX6_begin 3 = .ok (.sipush 632, 3) := by decide +kernel
theorem dX6_begin_6 : decode cX6_begin 6 = .ok (.if_icmp .ge 30, 3) := by decide +kernel
theorem dX6_begin_9 : decode cX6_begin 9 = .ok (.aload_n 0, 1) := by decide +kernel
theorem dX6_begin_10 : decode cX6_begin 10 = .ok (.getfield 7, 3) := by decide +kernel
theorem dX6_begin_13 : decode cX6_begin 13 = .ok (.iload_n 2, 1) := by decide +kernel
theorem dX6_begin_14 : decode cX6_begin 14 = .ok (.iload_n 2, 1) := by decide +kernel
theorem dX6_begin_15 : decode cX6_begin 15 = .ok (.iconst 3, 1) := by decide +kernel
theorem dX6_begin_16 : decode cX6_begin 16 = .ok (.if_icmp .ne 12, 3) := by decide +kernel
theorem dX6_begin_19 : decode cX6_begin 19 = .ok (.aload_n 0, 1) := by decide +kernel
theorem dX6_begin_20 : decode cX6_begin 20 = .ok (.getfield 7, 3) := by decide +kernel
theorem dX6_begin_23 : decode cX6_begin 23 = .ok (.iload_n 2, 1) := by decide +kernel
theorem dX6_begin_24 : decode cX6_begin 24 = .ok (.iaload, 1) := by decide +kernel
theorem dX6_begin_25 : decode cX6_begin 25 = .ok (.goto 4, 3) := by decide +kernel
theorem dX6_begin_28 : decode cX6_begin 28 = .ok (.iconst 0, 1) := by decide +kernel
theorem dX6_begin_29 : decode cX6_begin 29 = .ok (.iastore, 1) := by decide +kernel
theorem dX6_begin_30 : decode cX6_begin 30 = .ok (.iinc 2 1, 3) := by decide +kernel
theorem dX6_begin_33 : decode cX6_begin 33 = .ok (.goto (-31), 3) := by decide +kernel
theorem dX6_begin_36 : decode cX6_begin 36 = .ok (.iconst 3, 1) := by decide +kernel
theorem dX6_begin_37 : decode cX6_begin 37 = .ok (.istore_n 2, 1) := by decide +kernel
theorem dX6_begin_38 : decode cX6_begin 38 = .ok (.iload_n 2, 1) := by decide +kernel
theorem dX6_begin_39 : decode cX6_begin 39 = .ok (.sipush 159, 3) := by decide +kernel
theorem dX6_begin_42 : decode cX6_begin 42 = .ok (.if_icmp .ge 16, 3) := by decide +kernel
theorem dX6_begin_45 : decode cX6_begin 45 = .ok (.aload_n 0, 1) := by decide +kernel
theorem dX6_begin_46 : decode cX6_begin 46 = .ok (.getfield 19, 3) := by decide +kernel
theorem dX6_begin_49 : decode cX6_begin 49 = .ok (.iload_n 2, 1) := by decide +kernel
theorem dX6_begin_50 : decode cX6_begin 50 = .ok (.dconst 0, 1) := by decide +kernel
theorem dX6_begin_51 : decode cX6_begin 51 = .ok (.dastore, 1) := by decide +kernel
theorem dX6_begin_52 : decode cX6_begin 52 = .ok (.iinc 2 1, 3) := by decide +kernel
theorem dX6_begin_55 : decode cX6_begin 55 = .ok (.goto (-17), 3) := by decide +kernel
theorem dX6_begin_58 : decode cX6_begin 58 = .ok (.aload_n 0, 1) := by decide +kernel
theorem dX6_begin_59 : decode cX6_begin 59 = .ok (.getfield 7, 3) := by decide +kernel
theorem dX6_begin_62 : decode cX6_begin 62 = .ok (.iconst 0, 1) := by decide +kernel
theorem dX6_begin_63 : decode cX6_begin 63 = .ok (.iload_n 1, 1) := by decide +kernel
theorem dX6_begin_64 : decode cX6_begin 64 = .ok (.iastore, 1) := by decide +kernel
theorem dX6_begin_65 : decode cX6_begin 65 = .ok (.iconst 0, 1) := by decide +kernel
theorem dX6_begin_66 : decode cX6_begin 66 = .ok (.istore_n 2, 1) := by decide +kernel
theorem dX6_begin_67 : decode cX6_begin 67 = .ok (.iload_n 2, 1) := by decide +kernel
theorem dX6_begin_68 : decode cX6_begin 68 = .ok (.iload_n 1, 1) := by decide +kernel
theorem dX6_begin_69 : decode cX6_begin 69 = .ok (.if_icmp .ge 37, 3) := by decide +kernel
theorem dX6_begin_72 : decode cX6_begin 72 = .ok (.aload_n 0, 1) := by decide +kernel
theorem dX6_begin_73 : decode cX6_begin 73 = .ok (.getfield 19, 3) := by decide +kernel
theorem dX6_begin_76 : decode cX6_begin 76 = .ok (.iconst 3, 1) := by decide +kernel
theorem dX6_begin_77 : decode cX6_begin 77 = .ok (.bipush 12, 2) := by decide +kernel
theorem dX6_begin_79 : decode cX6_begin 79 = .ok (.iload_n 2, 1) := by decide +kernel
theorem dX6_begin_80 : decode cX6_begin 80 = .ok (.imul, 1) := by decide +kernel
theorem dX6_begin_81 : decode cX6_begin 81 = .ok (.iadd, 1) := by decide +kernel
theorem dX6_begin_82 : decode cX6_begin 82 = .ok (.iconst 0, 1) := by decide +kernel
theorem dX6_begin_83 : decode cX6_begin 83 = .ok (.iadd, 1) := by decide +kernel
theorem dX6_begin_84 : decode cX6_begin 84 = .ok (.dconst 1, 1) := by decide +kernel
theorem dX6_begin_85 : decode cX6_begin 85 = .ok (.dastore, 1) := by decide +kernel
theorem dX6_begin_86 : decode cX6_begin 86 = .ok (.aload_n 0, 1) := by decide +kernel
theorem dX6_begin_87 : decode cX6_begin 87 = .ok (.getfield 19, 3) := by decide +kernel
theorem dX6_begin_90 : decode cX6_begin 90 = .ok (.iconst 3, 1) := by decide +kernel
theorem dX6_begin_91 : decode cX6_begin 91 = .ok (.bipush 12, 2) := by decide +kernel
theorem dX6_begin_93 : decode cX6_begin 93 = .ok (.iload_n 2, 1) := by decide +kernel
theorem dX6_begin_94 : decode cX6_begin 94 = .ok (.imul, 1) := by decide +kernel
theorem dX6_begin_95 : decode cX6_begin 95 = .ok (.iadd, 1) := by decide +kernel
theorem dX6_begin_96 : decode cX6_begin 96 = .ok (.iconst 1, 1) := by decide +kernel
theorem dX6_begin_97 : decode cX6_begin 97 = .ok (.iadd, 1) := by decide +kernel
theorem dX6_begin_98 : decode cX6_begin 98 = .ok (.dconst 1, 1) := by decide +kernel
theorem dX6_begin_99 : decode cX6_begin 99 = .ok (.dastore, 1) := by decide +kernel
theorem dX6_begin_100 : decode cX6_begin 100 = .ok (.iinc 2 1, 3) := by decide +kernel
theorem dX6_begin_103 : decode cX6_begin 103 = .ok (.goto (-36), 3) := by decide +kernel
theorem dX6_begin_106 : decode cX6_begin 106 = .ok (.return_, 1) := by decide +kernel
abbrev rmX6_begin : Room := { frames := 0, cells := 0, slots := 0, locals := 0 }
def w_X6_begin_L67 (n : Nat) (K : Mem → Prop) : Nat → Mem → Nat → Int32 → Int32 → Prop
  | 0, _, _, _, _ => False
  | fuel + 1, M, o0, a1, a2 => ((a1 ≤ a2 → K M) ∧ (¬ a1 ≤ a2 → ((o0 ≤ n ∧ kd o0 = (6, 0)) ∧ (∀ r5, r5 = gR M o0 3 → ((r5 ≤ n ∧ (kd r5).1 = 8 ∧ vp_in (((3 : Int32) + ((12 : Int32) * a2)) + (0 : Int32)) (kd r5).2) ∧ (∀ M6, M6 = sD M r5 (Int32.toNatClampNeg (((3 : Int32) + ((12 : Int32) * a2)) + (0 : Int32))) FP.dconst1 → (∀ r7, r7 = gR M6 o0 3 → ((r7 ≤ n ∧ (kd r7).1 = 8 ∧ vp_in (((3 : Int32) + ((12 : Int32) * a2)) + (1 : Int32)) (kd r7).2) ∧ (∀ M8, M8 = sD M6 r7 (Int32.toNatClampNeg (((3 : Int32) + ((12 : Int32) * a2)) + (1 : Int32))) FP.dconst1 → (∀ x9, x9 = a2 + (1 : Int32) → w_X6_begin_L67 n K fuel M8 o0 a1 x9))))))))))
def w_X6_begin_L38 (n : Nat) (K : Mem → Prop) : Nat → Mem → Nat → Int32 → Int32 → Prop
  | 0, _, _, _, _ => False
  | fuel + 1, M, o0, a1, a2 => (((159 : Int32) ≤ a2 → ((o0 ≤ n ∧ kd o0 = (6, 0)) ∧ (∀ r2, r2 = gR M o0 0 → ((r2 ≤ n ∧ (kd r2).1 = 7 ∧ vp_in (0 : Int32) (kd r2).2) ∧ (∀ M3, M3 = sI M r2 (Int32.toNatClampNeg (0 : Int32)) a1 → w_X6_begin_L67 n K 4000 M3 o0 a1 (0 : Int32)))))) ∧ (¬ (159 : Int32) ≤ a2 → ((o0 ≤ n ∧ kd o0 = (6, 0)) ∧ (∀ r11, r11 = gR M o0 3 → ((r11 ≤ n ∧ (kd r11).1 = 8 ∧ vp_in a2 (kd r11).2) ∧ (∀ M12, M12 = sD M r11 (Int32.toNatClampNeg a2) FP.dconst0 → (∀ x13, x13 = a2 + (1 : Int32) → w_X6_begin_L38 n K fuel M12 o0 a1 x13)))))))
def w_X6_begin_L2 (n : Nat) (K : Mem → Prop) : Nat → Mem → Nat → Int32 → Int32 → Prop
  | 0, _, _, _, _ => False
  | fuel + 1, M, o0, a1, a2 => (((632 : Int32) ≤ a2 → w_X6_begin_L38 n K 4000 M o0 a1 (3 : Int32)) ∧ (¬ (632 : Int32) ≤ a2 → ((o0 ≤ n ∧ kd o0 = (6, 0)) ∧ (∀ r15, r15 = gR M o0 0 → ((¬ a2 = (3 : Int32) → ((r15 ≤ n ∧ (kd r15).1 = 7 ∧ vp_in a2 (kd r15).2) ∧ (∀ M16, M16 = sI M r15 (Int32.toNatClampNeg a2) (0 : Int32) → (∀ x17, x17 = a2 + (1 : Int32) → w_X6_begin_L2 n K fuel M16 o0 a1 x17)))) ∧ (a2 = (3 : Int32) → (∀ r18, r18 = gR M o0 0 → ((r18 ≤ n ∧ (kd r18).1 = 7 ∧ vp_in a2 (kd r18).2) ∧ (∀ x19, x19 = gI M r18 (Int32.toNatClampNeg a2) → ((r15 ≤ n ∧ (kd r15).1 = 7 ∧ vp_in a2 (kd r15).2) ∧ (∀ M20, M20 = sI M r15 (Int32.toNatClampNeg a2) x19 → (∀ x21, x21 = a2 + (1 : Int32) → w_X6_begin_L2 n K fuel M20 o0 a1 x21))))))))))))
def w_X6_begin (n : Nat) (M : Mem) (t : Nat) (p1 : Int32) (K : Mem → Prop) : Prop := w_X6_begin_L2 n K 4000 M t p1 (0 : Int32)
set_option maxHeartbeats 4000000 in
set_option maxRecDepth 20000 in
theorem c_X6_begin (l : Launch) (E : Gl) (n : Nat) (M : Mem) (t : Nat) (p1 : Int32) (K : Mem → Prop) (hw : w_X6_begin n M t p1 K) : CT E l yX6_begin cX6_begin 3 none rmX6_begin n M [rV t, iV p1] (PV E n K) := by
  refine g_met l (by decide) (Nat.le_of_ble_eq_true rfl) ?_
  intro p e s m args below meth c X hr hlk hnm hSz hOld
  change CX E p s m c _ _ RX6 at X
  have L67 : ∀ (fuel : Nat) (M : Mem) (o0 : Nat) (a1 : Int32) (a2 : Int32), w_X6_begin_L67 n K fuel M o0 a1 a2 → G E p l e rmX6_begin s m args below meth c 3 n M 0 0 (MQD lw_cs below (PV E n K) args s rmX6_begin.cells rmX6_begin.slots (Ab E)) 67 [(0, rV o0), (1, iV a1), (2, iV a2)] [] := by
    intro fuel
    induction fuel with
    | zero => intro M o0 a1 a2 hw; exact False.elim hw
    | succ fuel ih =>
      intro M o0 a1 a2 hw
      unfold w_X6_begin_L67 at hw
      refine g_iload_n X dX6_begin_67 2 rfl ?_
      refine g_iload_n X dX6_begin_68 1 rfl ?_
      refine g_icmp_ge X 106 dX6_begin_69 (by decide) hw (fun hw => ?_) (fun hw => ?_)
      · exact g_vret X hr hlk hSz hOld (Nat.le_refl _) dX6_begin_106 hw
      · refine g_aload_n X dX6_begin_72 0 rfl ?_
        obtain ⟨hk4, hw⟩ := hw
        refine g_get X (rV (gR M o0 3)) dX6_begin_73 fl_X6_19 (fun _ => rfl) ⟨hk4, hw⟩ (fun hw => ?_)
        refine g_topR (fun r5 hr5 => ?_)
        have hw := hw r5 hr5
        refine g_iconst X (3 : Int32) dX6_begin_76 (by decide) ?_
        refine g_bipush X (12 : Int32) dX6_begin_77 (by decide) ?_
        refine g_iload_n X dX6_begin_79 2 rfl ?_
        refine g_imul X dX6_begin_80 ?_
        refine g_iadd X dX6_begin_81 ?_
        refine g_iconst X (0 : Int32) dX6_begin_82 (by decide) ?_
        refine g_iadd X dX6_begin_83 ?_
        refine g_dconst1 X dX6_begin_84 ?_
        refine g_dast X dX6_begin_85 hw (fun hw => ?_)
        refine g_topM (fun M6 hM6 => ?_)
        have hw := hw M6 hM6
        refine g_aload_n X dX6_begin_86 0 rfl ?_
        refine g_get X (rV (gR M6 o0 3)) dX6_begin_87 fl_X6_19 (fun _ => rfl) ⟨hk4, hw⟩ (fun hw => ?_)
        refine g_topR (fun r7 hr7 => ?_)
        have hw := hw r7 hr7
        refine g_iconst X (3 : Int32) dX6_begin_90 (by decide) ?_
        refine g_bipush X (12 : Int32) dX6_begin_91 (by decide) ?_
        refine g_iload_n X dX6_begin_93 2 rfl ?_
        refine g_imul X dX6_begin_94 ?_
        refine g_iadd X dX6_begin_95 ?_
        refine g_iconst X (1 : Int32) dX6_begin_96 (by decide) ?_
        refine g_iadd X dX6_begin_97 ?_
        refine g_dconst1 X dX6_begin_98 ?_
        refine g_dast X dX6_begin_99 hw (fun hw => ?_)
        refine g_topM (fun M8 hM8 => ?_)
        have hw := hw M8 hM8
        obtain ⟨x9, hx9⟩ : ∃ y : Int32, y = a2 + (1 : Int32) := ⟨_, rfl⟩
        have hw := hw x9 hx9
        refine g_iinc (lv' := [(2, iV x9), (0, rV o0), (1, iV a1)]) X x9 dX6_begin_100 2 rfl (by rw [hx9]; rfl) (by decide) rfl ?_
        refine g_goto X 67 dX6_begin_103 (by decide) ?_
        refine g_lvsub (lv' := [(0, rV o0), (1, iV a1), (2, iV x9)]) [1, 2, 0] rfl ?_
        exact ih _ _ _ _ hw
  have L38 : ∀ (fuel : Nat) (M : Mem) (o0 : Nat) (a1 : Int32) (a2 : Int32), w_X6_begin_L38 n K fuel M o0 a1 a2 → G E p l e rmX6_begin s m args below meth c 3 n M 0 0 (MQD lw_cs below (PV E n K) args s rmX6_begin.cells rmX6_begin.slots (Ab E)) 38 [(0, rV o0), (1, iV a1), (2, iV a2)] [] := by
    intro fuel
    induction fuel with
    | zero => intro M o0 a1 a2 hw; exact False.elim hw
    | succ fuel ih =>
      intro M o0 a1 a2 hw
      unfold w_X6_begin_L38 at hw
      refine g_iload_n X dX6_begin_38 2 rfl ?_
      refine g_sipush X (159 : Int32) dX6_begin_39 (by decide) ?_
      refine g_icmp_ge X 58 dX6_begin_42 (by decide) hw (fun hw => ?_) (fun hw => ?_)
      · refine g_aload_n X dX6_begin_58 0 rfl ?_
        obtain ⟨hk1, hw⟩ := hw
        refine g_get X (rV (gR M o0 0)) dX6_begin_59 fl_X6_7 (fun _ => rfl) ⟨hk1, hw⟩ (fun hw => ?_)
        refine g_topR (fun r2 hr2 => ?_)
        have hw := hw r2 hr2
        refine g_iconst X (0 : Int32) dX6_begin_62 (by decide) ?_
        refine g_iload_n X dX6_begin_63 1 rfl ?_
        refine g_iast X dX6_begin_64 hw (fun hw => ?_)
        refine g_topM (fun M3 hM3 => ?_)
        have hw := hw M3 hM3
        refine g_iconst X (0 : Int32) dX6_begin_65 (by decide) ?_
        refine g_istore_n (lv' := [(2, iV (0 : Int32)), (0, rV o0), (1, iV a1)]) X dX6_begin_66 (by decide) rfl ?_
        refine g_lvsub (lv' := [(0, rV o0), (1, iV a1), (2, iV (0 : Int32))]) [1, 2, 0] rfl ?_
        exact L67 _ _ _ _ _ hw
      · refine g_aload_n X dX6_begin_45 0 rfl ?_
        obtain ⟨hk10, hw⟩ := hw
        refine g_get X (rV (gR M o0 3)) dX6_begin_46 fl_X6_19 (fun _ => rfl) ⟨hk10, hw⟩ (fun hw => ?_)
        refine g_topR (fun r11 hr11 => ?_)
        have hw := hw r11 hr11
        refine g_iload_n X dX6_begin_49 2 rfl ?_
        refine g_dconst0 X dX6_begin_50 ?_
        refine g_dast X dX6_begin_51 hw (fun hw => ?_)
        refine g_topM (fun M12 hM12 => ?_)
        have hw := hw M12 hM12
        obtain ⟨x13, hx13⟩ : ∃ y : Int32, y = a2 + (1 : Int32) := ⟨_, rfl⟩
        have hw := hw x13 hx13
        refine g_iinc (lv' := [(2, iV x13), (0, rV o0), (1, iV a1)]) X x13 dX6_begin_52 2 rfl (by rw [hx13]; rfl) (by decide) rfl ?_
        refine g_goto X 38 dX6_begin_55 (by decide) ?_
        refine g_lvsub (lv' := [(0, rV o0), (1, iV a1), (2, iV x13)]) [1, 2, 0] rfl ?_
        exact ih _ _ _ _ hw
  have L2 : ∀ (fuel : Nat) (M : Mem) (o0 : Nat) (a1 : Int32) (a2 : Int32), w_X6_begin_L2 n K fuel M o0 a1 a2 → G E p l e rmX6_begin s m args below meth c 3 n M 0 0 (MQD lw_cs below (PV E n K) args s rmX6_begin.cells rmX6_begin.slots (Ab E)) 2 [(0, rV o0), (1, iV a1), (2, iV a2)] [] := by
    intro fuel
    induction fuel with
    | zero => intro M o0 a1 a2 hw; exact False.elim hw
    | succ fuel ih =>
      intro M o0 a1 a2 hw
      unfold w_X6_begin_L2 at hw
      refine g_iload_n X dX6_begin_2 2 rfl ?_
      refine g_sipush X (632 : Int32) dX6_begin_3 (by decide) ?_
      refine g_icmp_ge X 36 dX6_begin_6 (by decide) hw (fun hw => ?_) (fun hw => ?_)
      · refine g_iconst X (3 : Int32) dX6_begin_36 (by decide) ?_
        refine g_istore_n (lv' := [(2, iV (3 : Int32)), (0, rV o0), (1, iV a1)]) X dX6_begin_37 (by decide) rfl ?_
        refine g_lvsub (lv' := [(0, rV o0), (1, iV a1), (2, iV (3 : Int32))]) [1, 2, 0] rfl ?_
        exact L38 _ _ _ _ _ hw
      · refine g_aload_n X dX6_begin_9 0 rfl ?_
        obtain ⟨hk14, hw⟩ := hw
        refine g_get X (rV (gR M o0 0)) dX6_begin_10 fl_X6_7 (fun _ => rfl) ⟨hk14, hw⟩ (fun hw => ?_)
        refine g_topR (fun r15 hr15 => ?_)
        have hw := hw r15 hr15
        refine g_iload_n X dX6_begin_13 2 rfl ?_
        refine g_iload_n X dX6_begin_14 2 rfl ?_
        refine g_iconst X (3 : Int32) dX6_begin_15 (by decide) ?_
        refine g_icmp_ne X 28 dX6_begin_16 (by decide) hw (fun hw => ?_) (fun hw => ?_)
        · refine g_iconst X (0 : Int32) dX6_begin_28 (by decide) ?_
          refine g_iast X dX6_begin_29 hw (fun hw => ?_)
          refine g_topM (fun M16 hM16 => ?_)
          have hw := hw M16 hM16
          obtain ⟨x17, hx17⟩ : ∃ y : Int32, y = a2 + (1 : Int32) := ⟨_, rfl⟩
          have hw := hw x17 hx17
          refine g_iinc (lv' := [(2, iV x17), (0, rV o0), (1, iV a1)]) X x17 dX6_begin_30 2 rfl (by rw [hx17]; rfl) (by decide) rfl ?_
          refine g_goto X 2 dX6_begin_33 (by decide) ?_
          refine g_lvsub (lv' := [(0, rV o0), (1, iV a1), (2, iV x17)]) [1, 2, 0] rfl ?_
          exact ih _ _ _ _ hw
        · refine g_aload_n X dX6_begin_19 0 rfl ?_
          refine g_get X (rV (gR M o0 0)) dX6_begin_20 fl_X6_7 (fun _ => rfl) ⟨hk14, hw⟩ (fun hw => ?_)
          refine g_topR (fun r18 hr18 => ?_)
          have hw := hw r18 hr18
          refine g_iload_n X dX6_begin_23 2 rfl ?_
          refine g_iald X dX6_begin_24 hw (fun hw => ?_)
          refine g_topI (fun x19 hx19 => ?_)
          have hw := hw x19 hx19
          refine g_goto X 29 dX6_begin_25 (by decide) ?_
          refine g_iast X dX6_begin_29 hw (fun hw => ?_)
          refine g_topM (fun M20 hM20 => ?_)
          have hw := hw M20 hM20
          obtain ⟨x21, hx21⟩ : ∃ y : Int32, y = a2 + (1 : Int32) := ⟨_, rfl⟩
          have hw := hw x21 hx21
          refine g_iinc (lv' := [(2, iV x21), (0, rV o0), (1, iV a1)]) X x21 dX6_begin_30 2 rfl (by rw [hx21]; rfl) (by decide) rfl ?_
          refine g_goto X 2 dX6_begin_33 (by decide) ?_
          refine g_lvsub (lv' := [(0, rV o0), (1, iV a1), (2, iV x21)]) [1, 2, 0] rfl ?_
          exact ih _ _ _ _ hw
  unfold w_X6_begin at hw
  refine g_iconst X (0 : Int32) dX6_begin_0 (by decide) ?_
  refine g_istore_n (lv' := [(2, iV (0 : Int32)), (0, rV t), (1, iV p1)]) X dX6_begin_1 (by decide) rfl ?_
  refine g_lvsub (lv' := [(0, rV t), (1, iV p1), (2, iV (0 : Int32))]) [1, 2, 0] rfl ?_
  exact L2 _ _ _ _ _ hw
theorem dX6_init_0 : decode cX6_init 0 = .ok (.aload_n 0, 1) := by decide +kernel
theorem dX6_init_1 : decode cX6_init 1 = .ok (.invokespecial 1, 3) := by decide +kernel
theorem dX6_init_4 : decode cX6_init 4 = .ok (.aload_n 0, 1) := by decide +kernel
theorem dX6_init_5 : decode cX6_init 5 = .ok (.sipush 632, 3) := by decide +kernel
theorem dX6_init_8 : decode cX6_init 8 = .ok (.newarray .int, 2) := by decide +kernel
theorem dX6_init_10 : decode cX6_init 10 = .ok (.putfield 7, 3) := by decide +kernel
theorem dX6_init_13 : decode cX6_init 13 = .ok (.aload_n 0, 1) := by decide +kernel
theorem dX6_init_14 : decode cX6_init 14 = .ok (.sipush 2528, 3) := by decide +kernel
theorem dX6_init_17 : decode cX6_init 17 = .ok (.newarray .int, 2) := by decide +kernel
theorem dX6_init_19 : decode cX6_init 19 = .ok (.putfield 13, 3) := by decide +kernel
theorem dX6_init_22 : decode cX6_init 22 = .ok (.aload_n 0, 1) := by decide +kernel
theorem dX6_init_23 : decode cX6_init 23 = .ok (.sipush 632, 3) := by decide +kernel
theorem dX6_init_26 : decode cX6_init 26 = .ok (.newarray .int, 2) := by decide +kernel
theorem dX6_init_28 : decode cX6_init 28 = .ok (.putfield 16, 3) := by decide +kernel
theorem dX6_init_31 : decode cX6_init 31 = .ok (.aload_n 0, 1) := by decide +kernel
theorem dX6_init_32 : decode cX6_init 32 = .ok (.sipush 159, 3) := by decide +kernel
theorem dX6_init_35 : decode cX6_init 35 = .ok (.newarray .double, 2) := by decide +kernel
theorem dX6_init_37 : decode cX6_init 37 = .ok (.putfield 19, 3) := by decide +kernel
theorem dX6_init_40 : decode cX6_init 40 = .ok (.aload_n 0, 1) := by decide +kernel
theorem dX6_init_41 : decode cX6_init 41 = .ok (.sipush 636, 3) := by decide +kernel
theorem dX6_init_44 : decode cX6_init 44 = .ok (.newarray .double, 2) := by decide +kernel
theorem dX6_init_46 : decode cX6_init 46 = .ok (.putfield 23, 3) := by decide +kernel
theorem dX6_init_49 : decode cX6_init 49 = .ok (.aload_n 0, 1) := by decide +kernel
theorem dX6_init_50 : decode cX6_init 50 = .ok (.sipush 159, 3) := by decide +kernel
theorem dX6_init_53 : decode cX6_init 53 = .ok (.newarray .double, 2) := by decide +kernel
theorem dX6_init_55 : decode cX6_init 55 = .ok (.putfield 26, 3) := by decide +kernel
theorem dX6_init_58 : decode cX6_init 58 = .ok (.aload_n 0, 1) := by decide +kernel
theorem dX6_init_59 : decode cX6_init 59 = .ok (.bipush 60, 2) := by decide +kernel
theorem dX6_init_61 : decode cX6_init 61 = .ok (.newarray .char, 2) := by decide +kernel
theorem dX6_init_63 : decode cX6_init 63 = .ok (.putfield 29, 3) := by decide +kernel
theorem dX6_init_66 : decode cX6_init 66 = .ok (.aload_n 0, 1) := by decide +kernel
theorem dX6_init_67 : decode cX6_init 67 = .ok (.bipush 42, 2) := by decide +kernel
theorem dX6_init_69 : decode cX6_init 69 = .ok (.newarray .int, 2) := by decide +kernel
theorem dX6_init_71 : decode cX6_init 71 = .ok (.putfield 33, 3) := by decide +kernel
theorem dX6_init_74 : decode cX6_init 74 = .ok (.aload_n 0, 1) := by decide +kernel
theorem dX6_init_75 : decode cX6_init 75 = .ok (.getfield 7, 3) := by decide +kernel
theorem dX6_init_78 : decode cX6_init 78 = .ok (.iconst 3, 1) := by decide +kernel
theorem dX6_init_79 : decode cX6_init 79 = .ok (.bipush 20, 2) := by decide +kernel
theorem dX6_init_81 : decode cX6_init 81 = .ok (.iastore, 1) := by decide +kernel
theorem dX6_init_82 : decode cX6_init 82 = .ok (.aload_n 0, 1) := by decide +kernel
theorem dX6_init_83 : decode cX6_init 83 = .ok (.getfield 19, 3) := by decide +kernel
theorem dX6_init_86 : decode cX6_init 86 = .ok (.iconst 0, 1) := by decide +kernel
theorem dX6_init_87 : decode cX6_init 87 = .ok (.ldc2_w 36, 3) := by decide +kernel
theorem dX6_init_90 : decode cX6_init 90 = .ok (.dastore, 1) := by decide +kernel
theorem dX6_init_91 : decode cX6_init 91 = .ok (.aload_n 0, 1) := by decide +kernel
theorem dX6_init_92 : decode cX6_init 92 = .ok (.getfield 19, 3) := by decide +kernel
theorem dX6_init_95 : decode cX6_init 95 = .ok (.iconst 1, 1) := by decide +kernel
theorem dX6_init_96 : decode cX6_init 96 = .ok (.ldc2_w 38, 3) := by decide +kernel
theorem dX6_init_99 : decode cX6_init 99 = .ok (.dastore, 1) := by decide +kernel
theorem dX6_init_100 : decode cX6_init 100 = .ok (.aload_n 0, 1) := by decide +kernel
theorem dX6_init_101 : decode cX6_init 101 = .ok (.getfield 19, 3) := by decide +kernel
theorem dX6_init_104 : decode cX6_init 104 = .ok (.iconst 2, 1) := by decide +kernel
theorem dX6_init_105 : decode cX6_init 105 = .ok (.ldc2_w 40, 3) := by decide +kernel
theorem dX6_init_108 : decode cX6_init 108 = .ok (.dastore, 1) := by decide +kernel
theorem dX6_init_109 : decode cX6_init 109 = .ok (.aload_n 0, 1) := by decide +kernel
theorem dX6_init_110 : decode cX6_init 110 = .ok (.iconst 4, 1) := by decide +kernel
theorem dX6_init_111 : decode cX6_init 111 = .ok (.invokevirtual 42, 3) := by decide +kernel
theorem dX6_init_114 : decode cX6_init 114 = .ok (.return_, 1) := by decide +kernel
abbrev rmX6_init : Room := { frames := 1, cells := 8, slots := 4848, locals := 22 }
def w_X6_init (n : Nat) (M : Mem) (t : Nat) (K : Mem → Prop) : Prop := (¬ t = 0 ∧ ((kd (n + 1) = (7, 632) ∧ Al rmX6_init n n) ∧ (∀ M1, M1 = zr M (n + 1) → ((t ≤ (n + 1) ∧ kd t = (6, 0)) ∧ (∀ M3, M3 = sR M1 t 0 (n + 1) → ((kd (n + 1 + 1) = (7, 2528) ∧ Al rmX6_init n (n + 1)) ∧ (∀ M4, M4 = zr M3 (n + 1 + 1) → ((t ≤ (n + 1 + 1) ∧ kd t = (6, 0)) ∧ (∀ M6, M6 = sR M4 t 1 (n + 1 + 1) → ((kd (n + 1 + 1 + 1) = (7, 632) ∧ Al rmX6_init n (n + 1 + 1)) ∧ (∀ M7, M7 = zr M6 (n + 1 + 1 + 1) → ((t ≤ (n + 1 + 1 + 1) ∧ kd t = (6, 0)) ∧ (∀ M9, M9 = sR M7 t 2 (n + 1 + 1 + 1) → ((kd (n + 1 + 1 + 1 + 1) = (8, 159) ∧ Al rmX6_init n (n + 1 + 1 + 1)) ∧ (∀ M10, M10 = zr M9 (n + 1 + 1 + 1 + 1) → ((t ≤ (n + 1 + 1 + 1 + 1) ∧ kd t = (6, 0)) ∧ (∀ M12, M12 = sR M10 t 3 (n + 1 + 1 + 1 + 1) → ((kd (n + 1 + 1 + 1 + 1 + 1) = (8, 636) ∧ Al rmX6_init n (n + 1 + 1 + 1 + 1)) ∧ (∀ M13, M13 = zr M12 (n + 1 + 1 + 1 + 1 + 1) → ((t ≤ (n + 1 + 1 + 1 + 1 + 1) ∧ kd t = (6, 0)) ∧ (∀ M15, M15 = sR M13 t 4 (n + 1 + 1 + 1 + 1 + 1) → ((kd (n + 1 + 1 + 1 + 1 + 1 + 1) = (8, 159) ∧ Al rmX6_init n (n + 1 + 1 + 1 + 1 + 1)) ∧ (∀ M16, M16 = zr M15 (n + 1 + 1 + 1 + 1 + 1 + 1) → ((t ≤ (n + 1 + 1 + 1 + 1 + 1 + 1) ∧ kd t = (6, 0)) ∧ (∀ M18, M18 = sR M16 t 5 (n + 1 + 1 + 1 + 1 + 1 + 1) → ((kd (n + 1 + 1 + 1 + 1 + 1 + 1 + 1) = (9, 60) ∧ Al rmX6_init n (n + 1 + 1 + 1 + 1 + 1 + 1)) ∧ (∀ M19, M19 = zr M18 (n + 1 + 1 + 1 + 1 + 1 + 1 + 1) → ((t ≤ (n + 1 + 1 + 1 + 1 + 1 + 1 + 1) ∧ kd t = (6, 0)) ∧ (∀ M21, M21 = sR M19 t 9 (n + 1 + 1 + 1 + 1 + 1 + 1 + 1) → ((kd (n + 1 + 1 + 1 + 1 + 1 + 1 + 1 + 1) = (7, 42) ∧ Al rmX6_init n (n + 1 + 1 + 1 + 1 + 1 + 1 + 1)) ∧ (∀ M22, M22 = zr M21 (n + 1 + 1 + 1 + 1 + 1 + 1 + 1 + 1) → ((t ≤ (n + 1 + 1 + 1 + 1 + 1 + 1 + 1 + 1) ∧ kd t = (6, 0)) ∧ (∀ M24, M24 = sR M22 t 12 (n + 1 + 1 + 1 + 1 + 1 + 1 + 1 + 1) → (∀ r25, r25 = gR M24 t 0 → ((r25 ≤ (n + 1 + 1 + 1 + 1 + 1 + 1 + 1 + 1) ∧ (kd r25).1 = 7 ∧ vp_in (3 : Int32) (kd r25).2) ∧ (∀ M26, M26 = sI M24 r25 (Int32.toNatClampNeg (3 : Int32)) (20 : Int32) → (∀ r27, r27 = gR M26 t 3 → ((r27 ≤ (n + 1 + 1 + 1 + 1 + 1 + 1 + 1 + 1) ∧ (kd r27).1 = 8 ∧ vp_in (0 : Int32) (kd r27).2) ∧ (∀ M28, M28 = sD M26 r27 (Int32.toNatClampNeg (0 : Int32)) (4647503709213818880 : UInt64) → (∀ r29, r29 = gR M28 t 3 → ((r29 ≤ (n + 1 + 1 + 1 + 1 + 1 + 1 + 1 + 1) ∧ (kd r29).1 = 8 ∧ vp_in (1 : Int32) (kd r29).2) ∧ (∀ M30, M30 = sD M28 r29 (Int32.toNatClampNeg (1 : Int32)) (4626322717216342016 : UInt64) → (∀ r31, r31 = gR M30 t 3 → ((r31 ≤ (n + 1 + 1 + 1 + 1 + 1 + 1 + 1 + 1) ∧ (kd r31).1 = 8 ∧ vp_in (2 : Int32) (kd r31).2) ∧ (∀ M32, M32 = sD M30 r31 (Int32.toNatClampNeg (2 : Int32)) (4629137466983448576 : UInt64) → (((n + 1 + 1 + 1 + 1 + 1 + 1 + 1 + 1) - n + rmX6_begin.cells ≤ rmX6_init.cells ∧ SL (n + 1 + 1 + 1 + 1 + 1 + 1 + 1 + 1) - SL n + rmX6_begin.slots ≤ rmX6_init.slots) ∧ w_X6_begin (n + 1 + 1 + 1 + 1 + 1 + 1 + 1 + 1) M32 t (4 : Int32) (fun M34 => (n + 1 + 1 + 1 + 1 + 1 + 1 + 1 + 1 = n + 8 ∧ SL (n + 8) ≤ SL n + 4848 ∧ K M34))))))))))))))))))))))))))))))))))))))))))))))))
set_option maxHeartbeats 4000000 in
set_option maxRecDepth 20000 in
theorem c_X6_init (l : Launch) (E : Gl) (n : Nat) (M : Mem) (t : Nat) (K : Mem → Prop) (hw : w_X6_init n M t K) : CT E l yX6_init cX6_init 1 none rmX6_init n M [rV t] (PV E (n + 8) K) := by
  refine g_met l (by decide) (Nat.le_of_ble_eq_true rfl) ?_
  intro p e s m args below meth c X hr hlk hnm hSz hOld
  change CX E p s m c _ _ RX6 at X
  refine g_widen (k := n - n) (z := SL n - SL n) (Nat.zero_le _) (Nat.zero_le _) ?_
  unfold w_X6_init at hw
  refine g_aload_n X dX6_init_0 0 rfl ?_
  refine g_objInit X wm_X6_1 ⟨wn_obj, wc_obj⟩ dX6_init_1 (by decide) (by decide) hw (fun hw => ?_)
  refine g_aload_n X dX6_init_4 0 rfl ?_
  refine g_sipush X (632 : Int32) dX6_init_5 (by decide) ?_
  refine g_newa X 7 632 dX6_init_8 (by decide) wa_int ⟨by decide, by decide⟩ hw (fun hw => ?_)
  refine g_topM (fun M1 hM1 => ?_)
  have hw := hw M1 hM1
  obtain ⟨hk2, hw⟩ := hw
  refine g_putR X dX6_init_10 fl_X6_7 (Or.inr ⟨_, rfl⟩) (Or.inr ⟨rfl, hnm, rfl⟩) ⟨hk2, hw⟩ (fun hw => ?_)
  refine g_topM (fun M3 hM3 => ?_)
  have hw := hw M3 hM3
  refine g_aload_n X dX6_init_13 0 rfl ?_
  refine g_sipush X (2528 : Int32) dX6_init_14 (by decide) ?_
  refine g_newa X 7 2528 dX6_init_17 (by decide) wa_int ⟨by decide, by decide⟩ hw (fun hw => ?_)
  refine g_topM (fun M4 hM4 => ?_)
  have hw := hw M4 hM4
  obtain ⟨hk5, hw⟩ := hw
  refine g_putR X dX6_init_19 fl_X6_13 (Or.inr ⟨_, rfl⟩) (Or.inr ⟨rfl, hnm, rfl⟩) ⟨hk5, hw⟩ (fun hw => ?_)
  refine g_topM (fun M6 hM6 => ?_)
  have hw := hw M6 hM6
  refine g_aload_n X dX6_init_22 0 rfl ?_
  refine g_sipush X (632 : Int32) dX6_init_23 (by decide) ?_
  refine g_newa X 7 632 dX6_init_26 (by decide) wa_int ⟨by decide, by decide⟩ hw (fun hw => ?_)
  refine g_topM (fun M7 hM7 => ?_)
  have hw := hw M7 hM7
  obtain ⟨hk8, hw⟩ := hw
  refine g_putR X dX6_init_28 fl_X6_16 (Or.inr ⟨_, rfl⟩) (Or.inr ⟨rfl, hnm, rfl⟩) ⟨hk8, hw⟩ (fun hw => ?_)
  refine g_topM (fun M9 hM9 => ?_)
  have hw := hw M9 hM9
  refine g_aload_n X dX6_init_31 0 rfl ?_
  refine g_sipush X (159 : Int32) dX6_init_32 (by decide) ?_
  refine g_newa X 8 159 dX6_init_35 (by decide) wa_double ⟨by decide, by decide⟩ hw (fun hw => ?_)
  refine g_topM (fun M10 hM10 => ?_)
  have hw := hw M10 hM10
  obtain ⟨hk11, hw⟩ := hw
  refine g_putR X dX6_init_37 fl_X6_19 (Or.inr ⟨_, rfl⟩) (Or.inr ⟨rfl, hnm, rfl⟩) ⟨hk11, hw⟩ (fun hw => ?_)
  refine g_topM (fun M12 hM12 => ?_)
  have hw := hw M12 hM12
  refine g_aload_n X dX6_init_40 0 rfl ?_
  refine g_sipush X (636 : Int32) dX6_init_41 (by decide) ?_
  refine g_newa X 8 636 dX6_init_44 (by decide) wa_double ⟨by decide, by decide⟩ hw (fun hw => ?_)
  refine g_topM (fun M13 hM13 => ?_)
  have hw := hw M13 hM13
  obtain ⟨hk14, hw⟩ := hw
  refine g_putR X dX6_init_46 fl_X6_23 (Or.inr ⟨_, rfl⟩) (Or.inr ⟨rfl, hnm, rfl⟩) ⟨hk14, hw⟩ (fun hw => ?_)
  refine g_topM (fun M15 hM15 => ?_)
  have hw := hw M15 hM15
  refine g_aload_n X dX6_init_49 0 rfl ?_
  refine g_sipush X (159 : Int32) dX6_init_50 (by decide) ?_
  refine g_newa X 8 159 dX6_init_53 (by decide) wa_double ⟨by decide, by decide⟩ hw (fun hw => ?_)
  refine g_topM (fun M16 hM16 => ?_)
  have hw := hw M16 hM16
  obtain ⟨hk17, hw⟩ := hw
  refine g_putR X dX6_init_55 fl_X6_26 (Or.inr ⟨_, rfl⟩) (Or.inr ⟨rfl, hnm, rfl⟩) ⟨hk17, hw⟩ (fun hw => ?_)
  refine g_topM (fun M18 hM18 => ?_)
  have hw := hw M18 hM18
  refine g_aload_n X dX6_init_58 0 rfl ?_
  refine g_bipush X (60 : Int32) dX6_init_59 (by decide) ?_
  refine g_newa X 9 60 dX6_init_61 (by decide) wa_char ⟨by decide, by decide⟩ hw (fun hw => ?_)
  refine g_topM (fun M19 hM19 => ?_)
  have hw := hw M19 hM19
  obtain ⟨hk20, hw⟩ := hw
  refine g_putR X dX6_init_63 fl_X6_29 (Or.inr ⟨_, rfl⟩) (Or.inr ⟨rfl, hnm, rfl⟩) ⟨hk20, hw⟩ (fun hw => ?_)
  refine g_topM (fun M21 hM21 => ?_)
  have hw := hw M21 hM21
  refine g_aload_n X dX6_init_66 0 rfl ?_
  refine g_bipush X (42 : Int32) dX6_init_67 (by decide) ?_
  refine g_newa X 7 42 dX6_init_69 (by decide) wa_int ⟨by decide, by decide⟩ hw (fun hw => ?_)
  refine g_topM (fun M22 hM22 => ?_)
  have hw := hw M22 hM22
  obtain ⟨hk23, hw⟩ := hw
  refine g_putR X dX6_init_71 fl_X6_33 (Or.inr ⟨_, rfl⟩) (Or.inr ⟨rfl, hnm, rfl⟩) ⟨hk23, hw⟩ (fun hw => ?_)
  refine g_topM (fun M24 hM24 => ?_)
  have hw := hw M24 hM24
  refine g_aload_n X dX6_init_74 0 rfl ?_
  refine g_get X (rV (gR M24 t 0)) dX6_init_75 fl_X6_7 (fun _ => rfl) ⟨hk23, hw⟩ (fun hw => ?_)
  refine g_topR (fun r25 hr25 => ?_)
  have hw := hw r25 hr25
  refine g_iconst X (3 : Int32) dX6_init_78 (by decide) ?_
  refine g_bipush X (20 : Int32) dX6_init_79 (by decide) ?_
  refine g_iast X dX6_init_81 hw (fun hw => ?_)
  refine g_topM (fun M26 hM26 => ?_)
  have hw := hw M26 hM26
  refine g_aload_n X dX6_init_82 0 rfl ?_
  refine g_get X (rV (gR M26 t 3)) dX6_init_83 fl_X6_19 (fun _ => rfl) ⟨hk23, hw⟩ (fun hw => ?_)
  refine g_topR (fun r27 hr27 => ?_)
  have hw := hw r27 hr27
  refine g_iconst X (0 : Int32) dX6_init_86 (by decide) ?_
  refine g_ldcD X (4647503709213818880 : UInt64) dX6_init_87 wk_X6_36 ?_
  refine g_dast X dX6_init_90 hw (fun hw => ?_)
  refine g_topM (fun M28 hM28 => ?_)
  have hw := hw M28 hM28
  refine g_aload_n X dX6_init_91 0 rfl ?_
  refine g_get X (rV (gR M28 t 3)) dX6_init_92 fl_X6_19 (fun _ => rfl) ⟨hk23, hw⟩ (fun hw => ?_)
  refine g_topR (fun r29 hr29 => ?_)
  have hw := hw r29 hr29
  refine g_iconst X (1 : Int32) dX6_init_95 (by decide) ?_
  refine g_ldcD X (4626322717216342016 : UInt64) dX6_init_96 wk_X6_38 ?_
  refine g_dast X dX6_init_99 hw (fun hw => ?_)
  refine g_topM (fun M30 hM30 => ?_)
  have hw := hw M30 hM30
  refine g_aload_n X dX6_init_100 0 rfl ?_
  refine g_get X (rV (gR M30 t 3)) dX6_init_101 fl_X6_19 (fun _ => rfl) ⟨hk23, hw⟩ (fun hw => ?_)
  refine g_topR (fun r31 hr31 => ?_)
  have hw := hw r31 hr31
  refine g_iconst X (2 : Int32) dX6_init_104 (by decide) ?_
  refine g_ldcD X (4629137466983448576 : UInt64) dX6_init_105 wk_X6_40 ?_
  refine g_dast X dX6_init_108 hw (fun hw => ?_)
  refine g_topM (fun M32 hM32 => ?_)
  have hw := hw M32 hM32
  refine g_aload_n X dX6_init_109 0 rfl ?_
  refine g_iconst X (4 : Int32) dX6_init_110 (by decide) ?_
  obtain ⟨hA33, hw⟩ := hw
  refine g_callv (pc' := 114) (rest := []) rfl (fun H locs ls d qR qL => g_runV X cw_X6_42 iv_X6_begin ⟨Nat.le_of_ble_eq_true rfl, Nat.le_of_ble_eq_true rfl⟩ dX6_init_111 (c_X6_begin l E (n + 1 + 1 + 1 + 1 + 1 + 1 + 1 + 1) M32 t (4 : Int32) _ hw) hk23 rfl rfl (Nat.le_of_ble_eq_true rfl) hA33 qR qL) (fun M34 hw => ?_)
  refine g_widen (k := (n + 1 + 1 + 1 + 1 + 1 + 1 + 1 + 1) - n) (z := SL (n + 1 + 1 + 1 + 1 + 1 + 1 + 1 + 1) - SL n) (Nat.le_of_eq (Nat.add_zero _)) (Nat.le_of_eq (Nat.add_zero _)) ?_
  obtain ⟨he, hs, hw⟩ := hw
  rw [he]
  refine g_widen (k := rmX6_init.cells) (z := rmX6_init.slots) (by show n + 8 - n ≤ 8; omega) (by show SL (n + 8) - SL n ≤ 4848; omega) ?_
  exact g_vret (n := n) X hr hlk hSz hOld (Nat.le_add_right _ _) dX6_init_114 hw
theorem dX6_in_0 : decode cX6_in 0 = .ok (.iload_n 0, 1) := by decide +kernel
theorem dX6_in_1 : decode cX6_in 1 = .ok (.iload_n 1, 1) := by decide +kernel
theorem dX6_in_2 : decode cX6_in 2 = .ok (.if_icmp .lt 12, 3) := by decide +kernel
theorem dX6_in_5 : decode cX6_in 5 = .ok (.iload_n 0, 1) := by decide +kernel
theorem dX6_in_6 : decode cX6_in 6 = .ok (.iload_n 2, 1) := by decide +kernel
theorem dX6_in_7 : decode cX6_in 7 = .ok (.if_icmp .gt 7, 3) := by decide +kernel
theorem dX6_in_10 : decode cX6_in 10 = .ok (.iconst 1, 1) := by decide +kernel
theorem dX6_in_11 : decode cX6_in 11 = .ok (.goto 4, 3) := by decide +kernel
theorem dX6_in_14 : decode cX6_in 14 = .ok (.iconst 0, 1) := by decide +kernel
theorem dX6_in_15 : decode cX6_in 15 = .ok (.ireturn, 1) := by decide +kernel
abbrev rmX6_in : Room := { frames := 0, cells := 0, slots := 0, locals := 0 }
def w_X6_in (n : Nat) (M : Mem) (p1 : Int32) (p2 : Int32) (p3 : Int32) (K : Int32 → Mem → Prop) : Prop := ((p1 < p2 → K (0 : Int32) M) ∧ (¬ p1 < p2 → ((p3 < p1 → K (0 : Int32) M) ∧ (¬ p3 < p1 → K (1 : Int32) M))))
set_option maxHeartbeats 4000000 in
set_option maxRecDepth 20000 in
theorem c_X6_in (l : Launch) (E : Gl) (n : Nat) (M : Mem) (p1 : Int32) (p2 : Int32) (p3 : Int32) (K : Int32 → Mem → Prop) (hw : w_X6_in n M p1 p2 p3 K) : CT E l yX6_in cX6_in 3 (some .boolean) rmX6_in n M [iV p1, iV p2, iV p3] (PI E n K) := by
  refine g_met l (by decide) (Nat.le_of_ble_eq_true rfl) ?_
  intro p e s m args below meth c X hr hlk hnm hSz hOld
  change CX E p s m c _ _ RX6 at X
  unfold w_X6_in at hw
  refine g_iload_n X dX6_in_0 0 rfl ?_
  refine g_iload_n X dX6_in_1 1 rfl ?_
  refine g_icmp_lt X 14 dX6_in_2 (by decide) hw (fun hw => ?_) (fun hw => ?_)
  · refine g_iconst X (0 : Int32) dX6_in_14 (by decide) ?_
    exact g_zret X hr hlk hSz hOld (Nat.le_refl _) dX6_in_15 ⟨rfl, hw⟩
  · refine g_iload_n X dX6_in_5 0 rfl ?_
    refine g_iload_n X dX6_in_6 2 rfl ?_
    refine g_icmp_gt X 14 dX6_in_7 (by decide) hw (fun hw => ?_) (fun hw => ?_)
    · refine g_iconst X (0 : Int32) dX6_in_14 (by decide) ?_
      exact g_zret X hr hlk hSz hOld (Nat.le_refl _) dX6_in_15 ⟨rfl, hw⟩
    · refine g_iconst X (1 : Int32) dX6_in_10 (by decide) ?_
      refine g_goto X 15 dX6_in_11 (by decide) ?_
      exact g_zret X hr hlk hSz hOld (Nat.le_refl _) dX6_in_15 ⟨rfl, hw⟩
theorem dX6_record_0 : decode cX6_record 0 = .ok (.aload_n 0, 1) := by decide +kernel
theorem dX6_record_1 : decode cX6_record 1 = .ok (.getfield 46, 3) := by decide +kernel
theorem dX6_record_4 : decode cX6_record 4 = .ok (.iconst 4, 1) := by decide +kernel
theorem dX6_record_5 : decode cX6_record 5 = .ok (.if_icmp .ne 75, 3) := by decide +kernel
theorem dX6_record_8 : decode cX6_record 8 = .ok (.iconst 0, 1) := by decide +kernel
theorem dX6_record_9 : decode cX6_record 9 = .ok (.istore_n 1, 1) := by decide +kernel
theorem dX6_record_10 : decode cX6_record 10 = .ok (.iload_n 1, 1) := by decide +kernel
theorem dX6_record_11 : decode cX6_record 11 = .ok (.sipush 1896, 3) := by decide +kernel
theorem dX6_record_14 : decode cX6_record 14 = .ok (.if_icmp .ge 25, 3) := by decide +kernel
theorem dX6_record_17 : decode cX6_record 17 = .ok (.aload_n 0, 1) := by decide +kernel
theorem dX6_record_18 : decode cX6_record 18 = .ok (.getfield 13, 3) := by decide +kernel
theorem dX6_record_21 : decode cX6_record 21 = .ok (.iload_n 1, 1) := by decide +kernel
theorem dX6_record_22 : decode cX6_record 22 = .ok (.aload_n 0, 1) := by decide +kernel
theorem dX6_record_23 : decode cX6_record 23 = .ok (.getfield 13, 3) := by decide +kernel
theorem dX6_record_26 : decode cX6_record 26 = .ok (.iload_n 1, 1) := by decide +kernel
theorem dX6_record_27 : decode cX6_record 27 = .ok (.sipush 632, 3) := by decide +kernel
theorem dX6_record_30 : decode cX6_record 30 = .ok (.iadd, 1) := by decide +kernel
theorem dX6_record_31 : decode cX6_record 31 = .ok (.iaload, 1) := by decide +kernel
theorem dX6_record_32 : decode cX6_record 32 = .ok (.iastore, 1) := by decide +kernel
theorem dX6_record_33 : decode cX6_record 33 = .ok (.iinc 1 1, 3) := by decide +kernel
theorem dX6_record_36 : decode cX6_record 36 = .ok (.goto (-26), 3) := by decide +kernel
theorem dX6_record_39 : decode cX6_record 39 = .ok (.iconst 0, 1) := by decide +kernel
theorem dX6_record_40 : decode cX6_record 40 = .ok (.istore_n 1, 1) := by decide +kernel
theorem dX6_record_41 : decode cX6_record 41 = .ok (.iload_n 1, 1) := by decide +kernel
theorem dX6_record_42 : decode cX6_record 42 = .ok (.sipush 477, 3) := by decide +kernel
theorem dX6_record_45 : decode cX6_record 45 = .ok (.if_icmp .ge 25, 3) := by decide +kernel
theorem dX6_record_48 : decode cX6_record 48 = .ok (.aload_n 0, 1) := by decide +kernel
theorem dX6_record_49 : decode cX6_record 49 = .ok (.getfield 23, 3) := by decide +kernel
theorem dX6_record_52 : decode cX6_record 52 = .ok (.iload_n 1, 1) := by decide +kernel
theorem dX6_record_53 : decode cX6_record 53 = .ok (.aload_n 0, 1) := by decide +kernel
theorem dX6_record_54 : decode cX6_record 54 = .ok (.getfield 23, 3) := by decide +kernel
theorem dX6_record_57 : decode cX6_record 57 = .ok (.iload_n 1, 1) := by decide +kernel
theorem dX6_record_58 : decode cX6_record 58 = .ok (.sipush 159, 3) := by decide +kernel
theorem dX6_record_61 : decode cX6_record 61 = .ok (.iadd, 1) := by decide +kernel
theorem dX6_record_62 : decode cX6_record 62 = .ok (.daload, 1) := by decide +kernel
theorem dX6_record_63 : decode cX6_record 63 = .ok (.dastore, 1) := by decide +kernel
theorem dX6_record_64 : decode cX6_record 64 = .ok (.iinc 1 1, 3) := by decide +kernel
theorem dX6_record_67 : decode cX6_record 67 = .ok (.goto (-26), 3) := by decide +kernel
theorem dX6_record_70 : decode cX6_record 70 = .ok (.aload_n 0, 1) := by decide +kernel
theorem dX6_record_71 : decode cX6_record 71 = .ok (.dup, 1) := by decide +kernel
theorem dX6_record_72 : decode cX6_record 72 = .ok (.getfield 46, 3) := by decide +kernel
theorem dX6_record_75 : decode cX6_record 75 = .ok (.iconst 1, 1) := by decide +kernel
theorem dX6_record_76 : decode cX6_record 76 = .ok (.isub, 1) := by decide +kernel
theorem dX6_record_77 : decode cX6_record 77 = .ok (.putfield 46, 3) := by decide +kernel
theorem dX6_record_80 : decode cX6_record 80 = .ok (.iconst 0, 1) := by decide +kernel
theorem dX6_record_81 : decode cX6_record 81 = .ok (.istore_n 1, 1) := by decide +kernel
theorem dX6_record_82 : decode cX6_record 82 = .ok (.iload_n 1, 1) := by decide +kernel
theorem dX6_record_83 : decode cX6_record 83 = .ok (.sipush 632, 3) := by decide +kernel
theorem dX6_record_86 : decode cX6_record 86 = .ok (.if_icmp .ge 30, 3) := by decide +kernel
theorem dX6_record_89 : decode cX6_record 89 = .ok (.aload_n 0, 1) := by decide +kernel
theorem dX6_record_90 : decode cX6_record 90 = .ok (.getfield 13, 3) := by decide +kernel
theorem dX6_record_93 : decode cX6_record 93 = .ok (.sipush 632, 3) := by decide +kernel
theorem dX6_record_96 : decode cX6_record 96 = .ok (.aload_n 0, 1) := by decide +kernel
theorem dX6_record_97 : decode cX6_record 97 = .ok (.getfield 46, 3) := by decide +kernel
theorem dX6_record_100 : decode cX6_record 100 = .ok (.imul, 1) := by decide +kernel
theorem dX6_record_101 : decode cX6_record 101 = .ok (.iload_n 1, 1) := by decide +kernel
theorem dX6_record_102 : decode cX6_record 102 = .ok (.iadd, 1) := by decide +kernel
theorem dX6_record_103 : decode cX6_record 103 = .ok (.aload_n 0, 1) := by decide +kernel
theorem dX6_record_104 : decode cX6_record 104 = .ok (.getfield 7, 3) := by decide +kernel
theorem dX6_record_107 : decode cX6_record 107 = .ok (.iload_n 1, 1) := by decide +kernel
theorem dX6_record_108 : decode cX6_record 108 = .ok (.iaload, 1) := by decide +kernel
theorem dX6_record_109 : decode cX6_record 109 = .ok (.iastore, 1) := by decide +kernel
theorem dX6_record_110 : decode cX6_record 110 = .ok (.iinc 1 1, 3) := by decide +kernel
theorem dX6_record_113 : decode cX6_record 113 = .ok (.goto (-31), 3) := by decide +kernel
theorem dX6_record_116 : decode cX6_record 116 = .ok (.iconst 0, 1) := by decide +kernel
theorem dX6_record_117 : decode cX6_record 117 = .ok (.istore_n 1, 1) := by decide +kernel
theorem dX6_record_118 : decode cX6_record 118 = .ok (.iload_n 1, 1) := by decide +kernel
theorem dX6_record_119 : decode cX6_record 119 = .ok (.sipush 159, 3) := by decide +kernel
theorem dX6_record_122 : decode cX6_record 122 = .ok (.if_icmp .ge 30, 3) := by decide +kernel
theorem dX6_record_125 : decode cX6_record 125 = .ok (.aload_n 0, 1) := by decide +kernel
theorem dX6_record_126 : decode cX6_record 126 = .ok (.getfield 23, 3) := by decide +kernel
theorem dX6_record_129 : decode cX6_record 129 = .ok (.sipush 159, 3) := by decide +kernel
theorem dX6_record_132 : decode cX6_record 132 = .ok (.aload_n 0, 1) := by decide +kernel
theorem dX6_record_133 : decode cX6_record 133 = .ok (.getfield 46, 3) := by decide +kernel
theorem dX6_record_136 : decode cX6_record 136 = .ok (.imul, 1) := by decide +kernel
theorem dX6_record_137 : decode cX6_record 137 = .ok (.iload_n 1, 1) := by decide +kernel
theorem dX6_record_138 : decode cX6_record 138 = .ok (.iadd, 1) := by decide +kernel
theorem dX6_record_139 : decode cX6_record 139 = .ok (.aload_n 0, 1) := by decide +kernel
theorem dX6_record_140 : decode cX6_record 140 = .ok (.getfield 19, 3) := by decide +kernel
theorem dX6_record_143 : decode cX6_record 143 = .ok (.iload_n 1, 1) := by decide +kernel
theorem dX6_record_144 : decode cX6_record 144 = .ok (.daload, 1) := by decide +kernel
theorem dX6_record_145 : decode cX6_record 145 = .ok (.dastore, 1) := by decide +kernel
theorem dX6_record_146 : decode cX6_record 146 = .ok (.iinc 1 1, 3) := by decide +kernel
theorem dX6_record_149 : decode cX6_record 149 = .ok (.goto (-31), 3) := by decide +kernel
theorem dX6_record_152 : decode cX6_record 152 = .ok (.aload_n 0, 1) := by decide +kernel
theorem dX6_record_153 : decode cX6_record 153 = .ok (.dup, 1) := by decide +kernel
theorem dX6_record_154 : decode cX6_record 154 = .ok (.getfield 46, 3) := by decide +kernel
theorem dX6_record_157 : decode cX6_record 157 = .ok (.iconst 1, 1) := by decide +kernel
theorem dX6_record_158 : decode cX6_record 158 = .ok (.iadd, 1) := by decide +kernel
theorem dX6_record_159 : decode cX6_record 159 = .ok (.putfield 46, 3) := by decide +kernel
theorem dX6_record_162 : decode cX6_record 162 = .ok (.return_, 1) := by decide +kernel
abbrev rmX6_record : Room := { frames := 0, cells := 0, slots := 0, locals := 0 }
def w_X6_record_L118 (n : Nat) (K : Mem → Prop) : Nat → Mem → Nat → Int32 → Prop
  | 0, _, _, _ => False
  | fuel + 1, M, o0, a1 => (((159 : Int32) ≤ a1 → ((o0 ≤ n ∧ kd o0 = (6, 0)) ∧ (∀ M3, M3 = sI M o0 6 ((gI M o0 6) + (1 : Int32)) → K M3))) ∧ (¬ (159 : Int32) ≤ a1 → ((o0 ≤ n ∧ kd o0 = (6, 0)) ∧ (∀ r5, r5 = gR M o0 4 → (∀ r6, r6 = gR M o0 3 → ((r6 ≤ n ∧ (kd r6).1 = 8 ∧ vp_in a1 (kd r6).2) ∧ (∀ z7, z7 = gD M r6 (Int32.toNatClampNeg a1) → ((r5 ≤ n ∧ (kd r5).1 = 8 ∧ vp_in (((159 : Int32) * (gI M o0 6)) + a1) (kd r5).2) ∧ (∀ M8, M8 = sD M r5 (Int32.toNatClampNeg (((159 : Int32) * (gI M o0 6)) + a1)) z7 → (∀ x9, x9 = a1 + (1 : Int32) → w_X6_record_L118 n K fuel M8 o0 x9))))))))))
def w_X6_record_L82 (n : Nat) (K : Mem → Prop) : Nat → Mem → Nat → Int32 → Prop
  | 0, _, _, _ => False
  | fuel + 1, M, o0, a1 => (((632 : Int32) ≤ a1 → w_X6_record_L118 n K 4000 M o0 (0 : Int32)) ∧ (¬ (632 : Int32) ≤ a1 → ((o0 ≤ n ∧ kd o0 = (6, 0)) ∧ (∀ r11, r11 = gR M o0 1 → (∀ r12, r12 = gR M o0 0 → ((r12 ≤ n ∧ (kd r12).1 = 7 ∧ vp_in a1 (kd r12).2) ∧ (∀ x13, x13 = gI M r12 (Int32.toNatClampNeg a1) → ((r11 ≤ n ∧ (kd r11).1 = 7 ∧ vp_in (((632 : Int32) * (gI M o0 6)) + a1) (kd r11).2) ∧ (∀ M14, M14 = sI M r11 (Int32.toNatClampNeg (((632 : Int32) * (gI M o0 6)) + a1)) x13 → (∀ x15, x15 = a1 + (1 : Int32) → w_X6_record_L82 n K fuel M14 o0 x15))))))))))
def w_X6_record_L41 (n : Nat) (K : Mem → Prop) : Nat → Mem → Nat → Int32 → Prop
  | 0, _, _, _ => False
  | fuel + 1, M, o0, a1 => (((477 : Int32) ≤ a1 → ((o0 ≤ n ∧ kd o0 = (6, 0)) ∧ (∀ M17, M17 = sI M o0 6 ((gI M o0 6) - (1 : Int32)) → w_X6_record_L82 n K 4000 M17 o0 (0 : Int32)))) ∧ (¬ (477 : Int32) ≤ a1 → ((o0 ≤ n ∧ kd o0 = (6, 0)) ∧ (∀ r19, r19 = gR M o0 4 → (∀ r20, r20 = gR M o0 4 → ((r20 ≤ n ∧ (kd r20).1 = 8 ∧ vp_in (a1 + (159 : Int32)) (kd r20).2) ∧ (∀ z21, z21 = gD M r20 (Int32.toNatClampNeg (a1 + (159 : Int32))) → ((r19 ≤ n ∧ (kd r19).1 = 8 ∧ vp_in a1 (kd r19).2) ∧ (∀ M22, M22 = sD M r19 (Int32.toNatClampNeg a1) z21 → (∀ x23, x23 = a1 + (1 : Int32) → w_X6_record_L41 n K fuel M22 o0 x23))))))))))
def w_X6_record_L10 (n : Nat) (K : Mem → Prop) : Nat → Mem → Nat → Int32 → Prop
  | 0, _, _, _ => False
  | fuel + 1, M, o0, a1 => (((1896 : Int32) ≤ a1 → w_X6_record_L41 n K 4000 M o0 (0 : Int32)) ∧ (¬ (1896 : Int32) ≤ a1 → ((o0 ≤ n ∧ kd o0 = (6, 0)) ∧ (∀ r25, r25 = gR M o0 1 → (∀ r26, r26 = gR M o0 1 → ((r26 ≤ n ∧ (kd r26).1 = 7 ∧ vp_in (a1 + (632 : Int32)) (kd r26).2) ∧ (∀ x27, x27 = gI M r26 (Int32.toNatClampNeg (a1 + (632 : Int32))) → ((r25 ≤ n ∧ (kd r25).1 = 7 ∧ vp_in a1 (kd r25).2) ∧ (∀ M28, M28 = sI M r25 (Int32.toNatClampNeg a1) x27 → (∀ x29, x29 = a1 + (1 : Int32) → w_X6_record_L10 n K fuel M28 o0 x29))))))))))
def w_X6_record (n : Nat) (M : Mem) (t : Nat) (K : Mem → Prop) : Prop := ((t ≤ n ∧ kd t = (6, 0)) ∧ ((¬ (gI M t 6) = (4 : Int32) → w_X6_record_L82 n K 4000 M t (0 : Int32)) ∧ ((gI M t 6) = (4 : Int32) → w_X6_record_L10 n K 4000 M t (0 : Int32))))
set_option maxHeartbeats 4000000 in
set_option maxRecDepth 20000 in
theorem c_X6_record (l : Launch) (E : Gl) (n : Nat) (M : Mem) (t : Nat) (K : Mem → Prop) (hw : w_X6_record n M t K) : CT E l yX6_record cX6_record 2 none rmX6_record n M [rV t] (PV E n K) := by
  refine g_met l (by decide) (Nat.le_of_ble_eq_true rfl) ?_
  intro p e s m args below meth c X hr hlk hnm hSz hOld
  change CX E p s m c _ _ RX6 at X
  have L118 : ∀ (fuel : Nat) (M : Mem) (o0 : Nat) (a1 : Int32), w_X6_record_L118 n K fuel M o0 a1 → G E p l e rmX6_record s m args below meth c 2 n M 0 0 (MQD lw_cs below (PV E n K) args s rmX6_record.cells rmX6_record.slots (Ab E)) 118 [(0, rV o0), (1, iV a1)] [] := by
    intro fuel
    induction fuel with
    | zero => intro M o0 a1 hw; exact False.elim hw
    | succ fuel ih =>
      intro M o0 a1 hw
      unfold w_X6_record_L118 at hw
      refine g_iload_n X dX6_record_118 1 rfl ?_
      refine g_sipush X (159 : Int32) dX6_record_119 (by decide) ?_
      refine g_icmp_ge X 152 dX6_record_122 (by decide) hw (fun hw => ?_) (fun hw => ?_)
      · refine g_aload_n X dX6_record_152 0 rfl ?_
        refine g_dup X dX6_record_153 rfl ?_
        obtain ⟨hk2, hw⟩ := hw
        refine g_get X (iV (gI M o0 6)) dX6_record_154 fl_X6_46 (fun _ => rfl) ⟨hk2, hw⟩ (fun hw => ?_)
        refine g_iconst X (1 : Int32) dX6_record_157 (by decide) ?_
        refine g_iadd X dX6_record_158 ?_
        refine g_putI X dX6_record_159 fl_X6_46 rfl (Or.inl rfl) ⟨hk2, hw⟩ (fun hw => ?_)
        refine g_topM (fun M3 hM3 => ?_)
        have hw := hw M3 hM3
        exact g_vret X hr hlk hSz hOld (Nat.le_refl _) dX6_record_162 hw
      · refine g_aload_n X dX6_record_125 0 rfl ?_
        obtain ⟨hk4, hw⟩ := hw
        refine g_get X (rV (gR M o0 4)) dX6_record_126 fl_X6_23 (fun _ => rfl) ⟨hk4, hw⟩ (fun hw => ?_)
        refine g_topR (fun r5 hr5 => ?_)
        have hw := hw r5 hr5
        refine g_sipush X (159 : Int32) dX6_record_129 (by decide) ?_
        refine g_aload_n X dX6_record_132 0 rfl ?_
        refine g_get X (iV (gI M o0 6)) dX6_record_133 fl_X6_46 (fun _ => rfl) ⟨hk4, hw⟩ (fun hw => ?_)
        refine g_imul X dX6_record_136 ?_
        refine g_iload_n X dX6_record_137 1 rfl ?_
        refine g_iadd X dX6_record_138 ?_
        refine g_aload_n X dX6_record_139 0 rfl ?_
        refine g_get X (rV (gR M o0 3)) dX6_record_140 fl_X6_19 (fun _ => rfl) ⟨hk4, hw⟩ (fun hw => ?_)
        refine g_topR (fun r6 hr6 => ?_)
        have hw := hw r6 hr6
        refine g_iload_n X dX6_record_143 1 rfl ?_
        refine g_dald X dX6_record_144 hw (fun hw => ?_)
        refine g_topD (fun z7 hz7 => ?_)
        have hw := hw z7 hz7
        refine g_dast X dX6_record_145 hw (fun hw => ?_)
        refine g_topM (fun M8 hM8 => ?_)
        have hw := hw M8 hM8
        obtain ⟨x9, hx9⟩ : ∃ y : Int32, y = a1 + (1 : Int32) := ⟨_, rfl⟩
        have hw := hw x9 hx9
        refine g_iinc (lv' := [(1, iV x9), (0, rV o0)]) X x9 dX6_record_146 1 rfl (by rw [hx9]; rfl) (by decide) rfl ?_
        refine g_goto X 118 dX6_record_149 (by decide) ?_
        refine g_lvsub (lv' := [(0, rV o0), (1, iV x9)]) [1, 0] rfl ?_
        exact ih _ _ _ hw
  have L82 : ∀ (fuel : Nat) (M : Mem) (o0 : Nat) (a1 : Int32), w_X6_record_L82 n K fuel M o0 a1 → G E p l e rmX6_record s m args below meth c 2 n M 0 0 (MQD lw_cs below (PV E n K) args s rmX6_record.cells rmX6_record.slots (Ab E)) 82 [(0, rV o0), (1, iV a1)] [] := by
    intro fuel
    induction fuel with
    | zero => intro M o0 a1 hw; exact False.elim hw
    | succ fuel ih =>
      intro M o0 a1 hw
      unfold w_X6_record_L82 at hw
      refine g_iload_n X dX6_record_82 1 rfl ?_
      refine g_sipush X (632 : Int32) dX6_record_83 (by decide) ?_
      refine g_icmp_ge X 116 dX6_record_86 (by decide) hw (fun hw => ?_) (fun hw => ?_)
      · refine g_iconst X (0 : Int32) dX6_record_116 (by decide) ?_
        refine g_istore_n (lv' := [(1, iV (0 : Int32)), (0, rV o0)]) X dX6_record_117 (by decide) rfl ?_
        refine g_lvsub (lv' := [(0, rV o0), (1, iV (0 : Int32))]) [1, 0] rfl ?_
        exact L118 _ _ _ _ hw
      · refine g_aload_n X dX6_record_89 0 rfl ?_
        obtain ⟨hk10, hw⟩ := hw
        refine g_get X (rV (gR M o0 1)) dX6_record_90 fl_X6_13 (fun _ => rfl) ⟨hk10, hw⟩ (fun hw => ?_)
        refine g_topR (fun r11 hr11 => ?_)
        have hw := hw r11 hr11
        refine g_sipush X (632 : Int32) dX6_record_93 (by decide) ?_
        refine g_aload_n X dX6_record_96 0 rfl ?_
        refine g_get X (iV (gI M o0 6)) dX6_record_97 fl_X6_46 (fun _ => rfl) ⟨hk10, hw⟩ (fun hw => ?_)
        refine g_imul X dX6_record_100 ?_
        refine g_iload_n X dX6_record_101 1 rfl ?_
        refine g_iadd X dX6_record_102 ?_
        refine g_aload_n X dX6_record_103 0 rfl ?_
        refine g_get X (rV (gR M o0 0)) dX6_record_104 fl_X6_7 (fun _ => rfl) ⟨hk10, hw⟩ (fun hw => ?_)
        refine g_topR (fun r12 hr12 => ?_)
        have hw := hw r12 hr12
        refine g_iload_n X dX6_record_107 1 rfl ?_
        refine g_iald X dX6_record_108 hw (fun hw => ?_)
        refine g_topI (fun x13 hx13 => ?_)
        have hw := hw x13 hx13
        refine g_iast X dX6_record_109 hw (fun hw => ?_)
        refine g_topM (fun M14 hM14 => ?_)
        have hw := hw M14 hM14
        obtain ⟨x15, hx15⟩ : ∃ y : Int32, y = a1 + (1 : Int32) := ⟨_, rfl⟩
        have hw := hw x15 hx15
        refine g_iinc (lv' := [(1, iV x15), (0, rV o0)]) X x15 dX6_record_110 1 rfl (by rw [hx15]; rfl) (by decide) rfl ?_
        refine g_goto X 82 dX6_record_113 (by decide) ?_
        refine g_lvsub (lv' := [(0, rV o0), (1, iV x15)]) [1, 0] rfl ?_
        exact ih _ _ _ hw
  have L41 : ∀ (fuel : Nat) (M : Mem) (o0 : Nat) (a1 : Int32), w_X6_record_L41 n K fuel M o0 a1 → G E p l e rmX6_record s m args below meth c 2 n M 0 0 (MQD lw_cs below (PV E n K) args s rmX6_record.cells rmX6_record.slots (Ab E)) 41 [(0, rV o0), (1, iV a1)] [] := by
    intro fuel
    induction fuel with
    | zero => intro M o0 a1 hw; exact False.elim hw
    | succ fuel ih =>
      intro M o0 a1 hw
      unfold w_X6_record_L41 at hw
      refine g_iload_n X dX6_record_41 1 rfl ?_
      refine g_sipush X (477 : Int32) dX6_record_42 (by decide) ?_
      refine g_icmp_ge X 70 dX6_record_45 (by decide) hw (fun hw => ?_) (fun hw => ?_)
      · refine g_aload_n X dX6_record_70 0 rfl ?_
        refine g_dup X dX6_record_71 rfl ?_
        obtain ⟨hk16, hw⟩ := hw
        refine g_get X (iV (gI M o0 6)) dX6_record_72 fl_X6_46 (fun _ => rfl) ⟨hk16, hw⟩ (fun hw => ?_)
        refine g_iconst X (1 : Int32) dX6_record_75 (by decide) ?_
        refine g_isub X dX6_record_76 ?_
        refine g_putI X dX6_record_77 fl_X6_46 rfl (Or.inl rfl) ⟨hk16, hw⟩ (fun hw => ?_)
        refine g_topM (fun M17 hM17 => ?_)
        have hw := hw M17 hM17
        refine g_iconst X (0 : Int32) dX6_record_80 (by decide) ?_
        refine g_istore_n (lv' := [(1, iV (0 : Int32)), (0, rV o0)]) X dX6_record_81 (by decide) rfl ?_
        refine g_lvsub (lv' := [(0, rV o0), (1, iV (0 : Int32))]) [1, 0] rfl ?_
        exact L82 _ _ _ _ hw
      · refine g_aload_n X dX6_record_48 0 rfl ?_
        obtain ⟨hk18, hw⟩ := hw
        refine g_get X (rV (gR M o0 4)) dX6_record_49 fl_X6_23 (fun _ => rfl) ⟨hk18, hw⟩ (fun hw => ?_)
        refine g_topR (fun r19 hr19 => ?_)
        have hw := hw r19 hr19
        refine g_iload_n X dX6_record_52 1 rfl ?_
        refine g_aload_n X dX6_record_53 0 rfl ?_
        refine g_get X (rV (gR M o0 4)) dX6_record_54 fl_X6_23 (fun _ => rfl) ⟨hk18, hw⟩ (fun hw => ?_)
        refine g_topR (fun r20 hr20 => ?_)
        have hw := hw r20 hr20
        refine g_iload_n X dX6_record_57 1 rfl ?_
        refine g_sipush X (159 : Int32) dX6_record_58 (by decide) ?_
        refine g_iadd X dX6_record_61 ?_
        refine g_dald X dX6_record_62 hw (fun hw => ?_)
        refine g_topD (fun z21 hz21 => ?_)
        have hw := hw z21 hz21
        refine g_dast X dX6_record_63 hw (fun hw => ?_)
        refine g_topM (fun M22 hM22 => ?_)
        have hw := hw M22 hM22
        obtain ⟨x23, hx23⟩ : ∃ y : Int32, y = a1 + (1 : Int32) := ⟨_, rfl⟩
        have hw := hw x23 hx23
        refine g_iinc (lv' := [(1, iV x23), (0, rV o0)]) X x23 dX6_record_64 1 rfl (by rw [hx23]; rfl) (by decide) rfl ?_
        refine g_goto X 41 dX6_record_67 (by decide) ?_
        refine g_lvsub (lv' := [(0, rV o0), (1, iV x23)]) [1, 0] rfl ?_
        exact ih _ _ _ hw
  have L10 : ∀ (fuel : Nat) (M : Mem) (o0 : Nat) (a1 : Int32), w_X6_record_L10 n K fuel M o0 a1 → G E p l e rmX6_record s m args below meth c 2 n M 0 0 (MQD lw_cs below (PV E n K) args s rmX6_record.cells rmX6_record.slots (Ab E)) 10 [(0, rV o0), (1, iV a1)] [] := by
    intro fuel
    induction fuel with
    | zero => intro M o0 a1 hw; exact False.elim hw
    | succ fuel ih =>
      intro M o0 a1 hw
      unfold w_X6_record_L10 at hw
      refine g_iload_n X dX6_record_10 1 rfl ?_
      refine g_sipush X (1896 : Int32) dX6_record_11 (by decide) ?_
      refine g_icmp_ge X 39 dX6_record_14 (by decide) hw (fun hw => ?_) (fun hw => ?_)
      · refine g_iconst X (0 : Int32) dX6_record_39 (by decide) ?_
        refine g_istore_n (lv' := [(1, iV (0 : Int32)), (0, rV o0)]) X dX6_record_40 (by decide) rfl ?_
        refine g_lvsub (lv' := [(0, rV o0), (1, iV (0 : Int32))]) [1, 0] rfl ?_
        exact L41 _ _ _ _ hw
      · refine g_aload_n X dX6_record_17 0 rfl ?_
        obtain ⟨hk24, hw⟩ := hw
        refine g_get X (rV (gR M o0 1)) dX6_record_18 fl_X6_13 (fun _ => rfl) ⟨hk24, hw⟩ (fun hw => ?_)
        refine g_topR (fun r25 hr25 => ?_)
        have hw := hw r25 hr25
        refine g_iload_n X dX6_record_21 1 rfl ?_
        refine g_aload_n X dX6_record_22 0 rfl ?_
        refine g_get X (rV (gR M o0 1)) dX6_record_23 fl_X6_13 (fun _ => rfl) ⟨hk24, hw⟩ (fun hw => ?_)
        refine g_topR (fun r26 hr26 => ?_)
        have hw := hw r26 hr26
        refine g_iload_n X dX6_record_26 1 rfl ?_
        refine g_sipush X (632 : Int32) dX6_record_27 (by decide) ?_
        refine g_iadd X dX6_record_30 ?_
        refine g_iald X dX6_record_31 hw (fun hw => ?_)
        refine g_topI (fun x27 hx27 => ?_)
        have hw := hw x27 hx27
        refine g_iast X dX6_record_32 hw (fun hw => ?_)
        refine g_topM (fun M28 hM28 => ?_)
        have hw := hw M28 hM28
        obtain ⟨x29, hx29⟩ : ∃ y : Int32, y = a1 + (1 : Int32) := ⟨_, rfl⟩
        have hw := hw x29 hx29
        refine g_iinc (lv' := [(1, iV x29), (0, rV o0)]) X x29 dX6_record_33 1 rfl (by rw [hx29]; rfl) (by decide) rfl ?_
        refine g_goto X 10 dX6_record_36 (by decide) ?_
        refine g_lvsub (lv' := [(0, rV o0), (1, iV x29)]) [1, 0] rfl ?_
        exact ih _ _ _ hw
  unfold w_X6_record at hw
  refine g_aload_n X dX6_record_0 0 rfl ?_
  obtain ⟨hk1, hw⟩ := hw
  refine g_get X (iV (gI M t 6)) dX6_record_1 fl_X6_46 (fun _ => rfl) ⟨hk1, hw⟩ (fun hw => ?_)
  refine g_iconst X (4 : Int32) dX6_record_4 (by decide) ?_
  refine g_icmp_ne X 80 dX6_record_5 (by decide) hw (fun hw => ?_) (fun hw => ?_)
  · refine g_iconst X (0 : Int32) dX6_record_80 (by decide) ?_
    refine g_istore_n (lv' := [(1, iV (0 : Int32)), (0, rV t)]) X dX6_record_81 (by decide) rfl ?_
    refine g_lvsub (lv' := [(0, rV t), (1, iV (0 : Int32))]) [1, 0] rfl ?_
    exact L82 _ _ _ _ hw
  · refine g_iconst X (0 : Int32) dX6_record_8 (by decide) ?_
    refine g_istore_n (lv' := [(1, iV (0 : Int32)), (0, rV t)]) X dX6_record_9 (by decide) rfl ?_
    refine g_lvsub (lv' := [(0, rV t), (1, iV (0 : Int32))]) [1, 0] rfl ?_
    exact L10 _ _ _ _ hw
theorem dX6_noHead_0 : decode cX6_noHead 0 = .ok (.iload_n 1, 1) := by decide +kernel
theorem dX6_noHead_1 : decode cX6_noHead 1 = .ok (.iconst 0, 1) := by decide +kernel
theorem dX6_noHead_2 : decode cX6_noHead 2 = .ok (.aload_n 0, 1) := by decide +kernel
theorem dX6_noHead_3 : decode cX6_noHead 3 = .ok (.getfield 7, 3) := by decide +kernel
theorem dX6_noHead_6 : decode cX6_noHead 6 = .ok (.iconst 0, 1) := by decide +kernel
theorem dX6_noHead_7 : decode cX6_noHead 7 = .ok (.iaload, 1) := by decide +kernel
theorem dX6_noHead_8 : decode cX6_noHead 8 = .ok (.iconst 1, 1) := by decide +kernel
theorem dX6_noHead_9 : decode cX6_noHead 9 = .ok (.isub, 1) := by decide +kernel
theorem dX6_noHead_10 : decode cX6_noHead 10 = .ok (.invokestatic 50, 3) := by decide +kernel
theorem dX6_noHead_13 : decode cX6_noHead 13 = .ok (.ifCond .ne 7, 3) := by decide +kernel
theorem dX6_noHead_16 : decode cX6_noHead 16 = .ok (.iconst 1, 1) := by decide +kernel
theorem dX6_noHead_17 : decode cX6_noHead 17 = .ok (.goto 4, 3) := by decide +kernel
theorem dX6_noHead_20 : decode cX6_noHead 20 = .ok (.iconst 0, 1) := by decide +kernel
theorem dX6_noHead_21 : decode cX6_noHead 21 = .ok (.ireturn, 1) := by decide +kernel
abbrev rmX6_noHead : Room := { frames := 1, cells := 0, slots := 0, locals := 22 }
def w_X6_noHead (n : Nat) (M : Mem) (t : Nat) (p1 : Int32) (K : Int32 → Mem → Prop) : Prop := ((t ≤ n ∧ kd t = (6, 0)) ∧ (∀ r2, r2 = gR M t 0 → ((r2 ≤ n ∧ (kd r2).1 = 7 ∧ vp_in (0 : Int32) (kd r2).2) ∧ (∀ x3, x3 = gI M r2 (Int32.toNatClampNeg (0 : Int32)) → w_X6_in n M p1 (0 : Int32) (x3 - (1 : Int32)) (fun x5 M4 => ((¬ x5 = 0 → K (0 : Int32) M4) ∧ (x5 = 0 → K (1 : Int32) M4)))))))
set_option maxHeartbeats 4000000 in
set_option maxRecDepth 20000 in
theorem c_X6_noHead (l : Launch) (E : Gl) (n : Nat) (M : Mem) (t : Nat) (p1 : Int32) (K : Int32 → Mem → Prop) (hw : w_X6_noHead n M t p1 K) : CT E l yX6_noHead cX6_noHead 2 (some .boolean) rmX6_noHead n M [rV t, iV p1] (PI E n K) := by
  refine g_met l (by decide) (Nat.le_of_ble_eq_true rfl) ?_
  intro p e s m args below meth c X hr hlk hnm hSz hOld
  change CX E p s m c _ _ RX6 at X
  unfold w_X6_noHead at hw
  refine g_iload_n X dX6_noHead_0 1 rfl ?_
  refine g_iconst X (0 : Int32) dX6_noHead_1 (by decide) ?_
  refine g_aload_n X dX6_noHead_2 0 rfl ?_
  obtain ⟨hk1, hw⟩ := hw
  refine g_get X (rV (gR M t 0)) dX6_noHead_3 fl_X6_7 (fun _ => rfl) ⟨hk1, hw⟩ (fun hw => ?_)
  refine g_topR (fun r2 hr2 => ?_)
  have hw := hw r2 hr2
  refine g_iconst X (0 : Int32) dX6_noHead_6 (by decide) ?_
  refine g_iald X dX6_noHead_7 hw (fun hw => ?_)
  refine g_topI (fun x3 hx3 => ?_)
  have hw := hw x3 hx3
  refine g_iconst X (1 : Int32) dX6_noHead_8 (by decide) ?_
  refine g_isub X dX6_noHead_9 ?_
  refine g_calli (pc' := 13) (rest := []) rfl (fun H locs ls d qR qL => g_runS X cw_X6_50 wt_X6_in ⟨Nat.le_of_ble_eq_true rfl, Nat.le_of_ble_eq_true rfl⟩ dX6_noHead_10 (c_X6_in l E n M p1 (0 : Int32) (x3 - (1 : Int32)) _ hw) rfl rfl (Nat.le_of_ble_eq_true rfl) ⟨Nat.le_of_ble_eq_true rfl, Nat.le_of_ble_eq_true rfl⟩ qR qL) (fun x5 M4 hw => ?_)
  refine g_if_ne X 20 dX6_noHead_13 (by decide) hw (fun hw => ?_) (fun hw => ?_)
  · refine g_iconst X (0 : Int32) dX6_noHead_20 (by decide) ?_
    exact g_zret X hr hlk hSz hOld (Nat.le_refl _) dX6_noHead_21 ⟨rfl, hw⟩
  · refine g_iconst X (1 : Int32) dX6_noHead_16 (by decide) ?_
    refine g_goto X 21 dX6_noHead_17 (by decide) ?_
    exact g_zret X hr hlk hSz hOld (Nat.le_refl _) dX6_noHead_21 ⟨rfl, hw⟩
theorem dX6_noPart_0 : decode cX6_noPart 0 = .ok (.iload_n 1, 1) := by decide +kernel
theorem dX6_noPart_1 : decode cX6_noPart 1 = .ok (.iconst 0, 1) := by decide +kernel
theorem dX6_noPart_2 : decode cX6_noPart 2 = .ok (.aload_n 0, 1) := by decide +kernel
theorem dX6_noPart_3 : decode cX6_noPart 3 = .ok (.getfield 7, 3) := by decide +kernel
theorem dX6_noPart_6 : decode cX6_noPart 6 = .ok (.iconst 2, 1) := by decide +kernel
theorem dX6_noPart_7 : decode cX6_noPart 7 = .ok (.iaload, 1) := by decide +kernel
theorem dX6_noPart_8 : decode cX6_noPart 8 = .ok (.iconst 1, 1) := by decide +kernel
theorem dX6_noPart_9 : decode cX6_noPart 9 = .ok (.isub, 1) := by decide +kernel
theorem dX6_noPart_10 : decode cX6_noPart 10 = .ok (.invokestatic 50, 3) := by decide +kernel
theorem dX6_noPart_13 : decode cX6_noPart 13 = .ok (.ifCond .ne 7, 3) := by decide +kernel
theorem dX6_noPart_16 : decode cX6_noPart 16 = .ok (.iconst 1, 1) := by decide +kernel
theorem dX6_noPart_17 : decode cX6_noPart 17 = .ok (.goto 4, 3) := by decide +kernel
theorem dX6_noPart_20 : decode cX6_noPart 20 = .ok (.iconst 0, 1) := by decide +kernel
theorem dX6_noPart_21 : decode cX6_noPart 21 = .ok (.ireturn, 1) := by decide +kernel
abbrev rmX6_noPart : Room := { frames := 1, cells := 0, slots := 0, locals := 22 }
def w_X6_noPart (n : Nat) (M : Mem) (t : Nat) (p1 : Int32) (K : Int32 → Mem → Prop) : Prop := ((t ≤ n ∧ kd t = (6, 0)) ∧ (∀ r2, r2 = gR M t 0 → ((r2 ≤ n ∧ (kd r2).1 = 7 ∧ vp_in (2 : Int32) (kd r2).2) ∧ (∀ x3, x3 = gI M r2 (Int32.toNatClampNeg (2 : Int32)) → w_X6_in n M p1 (0 : Int32) (x3 - (1 : Int32)) (fun x5 M4 => ((¬ x5 = 0 → K (0 : Int32) M4) ∧ (x5 = 0 → K (1 : Int32) M4)))))))
set_option maxHeartbeats 4000000 in
set_option maxRecDepth 20000 in
theorem c_X6_noPart (l : Launch) (E : Gl) (n : Nat) (M : Mem) (t : Nat) (p1 : Int32) (K : Int32 → Mem → Prop) (hw : w_X6_noPart n M t p1 K) : CT E l yX6_noPart cX6_noPart 2 (some .boolean) rmX6_noPart n M [rV t, iV p1] (PI E n K) := by
  refine g_met l (by decide) (Nat.le_of_ble_eq_true rfl) ?_
  intro p e s m args below meth c X hr hlk hnm hSz hOld
  change CX E p s m c _ _ RX6 at X
  unfold w_X6_noPart at hw
  refine g_iload_n X dX6_noPart_0 1 rfl ?_
  refine g_iconst X (0 : Int32) dX6_noPart_1 (by decide) ?_
  refine g_aload_n X dX6_noPart_2 0 rfl ?_
  obtain ⟨hk1, hw⟩ := hw
  refine g_get X (rV (gR M t 0)) dX6_noPart_3 fl_X6_7 (fun _ => rfl) ⟨hk1, hw⟩ (fun hw => ?_)
  refine g_topR (fun r2 hr2 => ?_)
  have hw := hw r2 hr2
  refine g_iconst X (2 : Int32) dX6_noPart_6 (by decide) ?_
  refine g_iald X dX6_noPart_7 hw (fun hw => ?_)
  refine g_topI (fun x3 hx3 => ?_)
  have hw := hw x3 hx3
  refine g_iconst X (1 : Int32) dX6_noPart_8 (by decide) ?_
  refine g_isub X dX6_noPart_9 ?_
  refine g_calli (pc' := 13) (rest := []) rfl (fun H locs ls d qR qL => g_runS X cw_X6_50 wt_X6_in ⟨Nat.le_of_ble_eq_true rfl, Nat.le_of_ble_eq_true rfl⟩ dX6_noPart_10 (c_X6_in l E n M p1 (0 : Int32) (x3 - (1 : Int32)) _ hw) rfl rfl (Nat.le_of_ble_eq_true rfl) ⟨Nat.le_of_ble_eq_true rfl, Nat.le_of_ble_eq_true rfl⟩ qR qL) (fun x5 M4 hw => ?_)
  refine g_if_ne X 20 dX6_noPart_13 (by decide) hw (fun hw => ?_) (fun hw => ?_)
  · refine g_iconst X (0 : Int32) dX6_noPart_20 (by decide) ?_
    exact g_zret X hr hlk hSz hOld (Nat.le_refl _) dX6_noPart_21 ⟨rfl, hw⟩
  · refine g_iconst X (1 : Int32) dX6_noPart_16 (by decide) ?_
    refine g_goto X 21 dX6_noPart_17 (by decide) ?_
    exact g_zret X hr hlk hSz hOld (Nat.le_refl _) dX6_noPart_21 ⟨rfl, hw⟩
theorem dX6_ofHead_0 : decode cX6_ofHead 0 = .ok (.aload_n 0, 1) := by decide +kernel
theorem dX6_ofHead_1 : decode cX6_ofHead 1 = .ok (.getfield 7, 3) := by decide +kernel
theorem dX6_ofHead_4 : decode cX6_ofHead 4 = .ok (.bipush 12, 2) := by decide +kernel
theorem dX6_ofHead_6 : decode cX6_ofHead 6 = .ok (.bipush 10, 2) := by decide +kernel
theorem dX6_ofHead_8 : decode cX6_ofHead 8 = .ok (.iload_n 1, 1) := by decide +kernel
theorem dX6_ofHead_9 : decode cX6_ofHead 9 = .ok (.imul, 1) := by decide +kernel
theorem dX6_ofHead_10 : decode cX6_ofHead 10 = .ok (.iadd, 1) := by decide +kernel
theorem dX6_ofHead_11 : decode cX6_ofHead 11 = .ok (.iload_n 2, 1) := by decide +kernel
theorem dX6_ofHead_12 : decode cX6_ofHead 12 = .ok (.iadd, 1) := by decide +kernel
theorem dX6_ofHead_13 : decode cX6_ofHead 13 = .ok (.iaload, 1) := by decide +kernel
theorem dX6_ofHead_14 : decode cX6_ofHead 14 = .ok (.ireturn, 1) := by decide +kernel
abbrev rmX6_ofHead : Room := { frames := 0, cells := 0, slots := 0, locals := 0 }
def w_X6_ofHead (n : Nat) (M : Mem) (t : Nat) (p1 : Int32) (p2 : Int32) (K : Int32 → Mem → Prop) : Prop := ((t ≤ n ∧ kd t = (6, 0)) ∧ (∀ r2, r2 = gR M t 0 → ((r2 ≤ n ∧ (kd r2).1 = 7 ∧ vp_in (((12 : Int32) + ((10 : Int32) * p1)) + p2) (kd r2).2) ∧ (∀ x3, x3 = gI M r2 (Int32.toNatClampNeg (((12 : Int32) + ((10 : Int32) * p1)) + p2)) → K x3 M))))
set_option maxHeartbeats 4000000 in
set_option maxRecDepth 20000 in
theorem c_X6_ofHead (l : Launch) (E : Gl) (n : Nat) (M : Mem) (t : Nat) (p1 : Int32) (p2 : Int32) (K : Int32 → Mem → Prop) (hw : w_X6_ofHead n M t p1 p2 K) : CT E l yX6_ofHead cX6_ofHead 3 (some .int) rmX6_ofHead n M [rV t, iV p1, iV p2] (PI E n K) := by
  refine g_met l (by decide) (Nat.le_of_ble_eq_true rfl) ?_
  intro p e s m args below meth c X hr hlk hnm hSz hOld
  change CX E p s m c _ _ RX6 at X
  unfold w_X6_ofHead at hw
  refine g_aload_n X dX6_ofHead_0 0 rfl ?_
  obtain ⟨hk1, hw⟩ := hw
  refine g_get X (rV (gR M t 0)) dX6_ofHead_1 fl_X6_7 (fun _ => rfl) ⟨hk1, hw⟩ (fun hw => ?_)
  refine g_topR (fun r2 hr2 => ?_)
  have hw := hw r2 hr2
  refine g_bipush X (12 : Int32) dX6_ofHead_4 (by decide) ?_
  refine g_bipush X (10 : Int32) dX6_ofHead_6 (by decide) ?_
  refine g_iload_n X dX6_ofHead_8 1 rfl ?_
  refine g_imul X dX6_ofHead_9 ?_
  refine g_iadd X dX6_ofHead_10 ?_
  refine g_iload_n X dX6_ofHead_11 2 rfl ?_
  refine g_iadd X dX6_ofHead_12 ?_
  refine g_iald X dX6_ofHead_13 hw (fun hw => ?_)
  refine g_topI (fun x3 hx3 => ?_)
  have hw := hw x3 hx3
  exact g_iret X hr hlk hSz hOld (Nat.le_refl _) dX6_ofHead_14 hw
theorem dX6_more_0 : decode cX6_more 0 = .ok (.aload_n 0, 1) := by decide +kernel
theorem dX6_more_1 : decode cX6_more 1 = .ok (.getfield 7, 3) := by decide +kernel
theorem dX6_more_4 : decode cX6_more 4 = .ok (.bipush 12, 2) := by decide +kernel
theorem dX6_more_6 : decode cX6_more 6 = .ok (.bipush 10, 2) := by decide +kernel
theorem dX6_more_8 : decode cX6_more 8 = .ok (.iload_n 1, 1) := by decide +kernel
theorem dX6_more_9 : decode cX6_more 9 = .ok (.imul, 1) := by decide +kernel
theorem dX6_more_10 : decode cX6_more 10 = .ok (.iadd, 1) := by decide +kernel
theorem dX6_more_11 : decode cX6_more 11 = .ok (.iload_n 2, 1) := by decide +kernel
theorem dX6_more_12 : decode cX6_more 12 = .ok (.iadd, 1) := by decide +kernel
theorem dX6_more_13 : decode cX6_more 13 = .ok (.dup2, 1) := by decide +kernel
theorem dX6_more_14 : decode cX6_more 14 = .ok (.iaload, 1) := by decide +kernel
theorem dX6_more_15 : decode cX6_more 15 = .ok (.iconst 1, 1) := by decide +kernel
theorem dX6_more_16 : decode cX6_more 16 = .ok (.iadd, 1) := by decide +kernel
theorem dX6_more_17 : decode cX6_more 17 = .ok (.iastore, 1) := by decide +kernel
theorem dX6_more_18 : decode cX6_more 18 = .ok (.return_, 1) := by decide +kernel
abbrev rmX6_more : Room := { frames := 0, cells := 0, slots := 0, locals := 0 }
def w_X6_more (n : Nat) (M : Mem) (t : Nat) (p1 : Int32) (p2 : Int32) (K : Mem → Prop) : Prop := ((t ≤ n ∧ kd t = (6, 0)) ∧ (∀ r2, r2 = gR M t 0 → ((r2 ≤ n ∧ (kd r2).1 = 7 ∧ vp_in (((12 : Int32) + ((10 : Int32) * p1)) + p2) (kd r2).2) ∧ (∀ x3, x3 = gI M r2 (Int32.toNatClampNeg (((12 : Int32) + ((10 : Int32) * p1)) + p2)) → ((r2 ≤ n ∧ (kd r2).1 = 7 ∧ vp_in (((12 : Int32) + ((10 : Int32) * p1)) + p2) (kd r2).2) ∧ (∀ M4, M4 = sI M r2 (Int32.toNatClampNeg (((12 : Int32) + ((10 : Int32) * p1)) + p2)) (x3 + (1 : Int32)) → K M4))))))
set_option maxHeartbeats 4000000 in
set_option maxRecDepth 20000 in
theorem c_X6_more (l : Launch) (E : Gl) (n : Nat) (M : Mem) (t : Nat) (p1 : Int32) (p2 : Int32) (K : Mem → Prop) (hw : w_X6_more n M t p1 p2 K) : CT E l yX6_more cX6_more 3 none rmX6_more n M [rV t, iV p1, iV p2] (PV E n K) := by
  refine g_met l (by decide) (Nat.le_of_ble_eq_true rfl) ?_
  intro p e s m args below meth c X hr hlk hnm hSz hOld
  change CX E p s m c _ _ RX6 at X
  unfold w_X6_more at hw
  refine g_aload_n X dX6_more_0 0 rfl ?_
  obtain ⟨hk1, hw⟩ := hw
  refine g_get X (rV (gR M t 0)) dX6_more_1 fl_X6_7 (fun _ => rfl) ⟨hk1, hw⟩ (fun hw => ?_)
  refine g_topR (fun r2 hr2 => ?_)
  have hw := hw r2 hr2
  refine g_bipush X (12 : Int32) dX6_more_4 (by decide) ?_
  refine g_bipush X (10 : Int32) dX6_more_6 (by decide) ?_
  refine g_iload_n X dX6_more_8 1 rfl ?_
  refine g_imul X dX6_more_9 ?_
  refine g_iadd X dX6_more_10 ?_
  refine g_iload_n X dX6_more_11 2 rfl ?_
  refine g_iadd X dX6_more_12 ?_
  refine g_dup2 X dX6_more_13 rfl rfl ?_
  refine g_iald X dX6_more_14 hw (fun hw => ?_)
  refine g_topI (fun x3 hx3 => ?_)
  have hw := hw x3 hx3
  refine g_iconst X (1 : Int32) dX6_more_15 (by decide) ?_
  refine g_iadd X dX6_more_16 ?_
  refine g_iast X dX6_more_17 hw (fun hw => ?_)
  refine g_topM (fun M4 hM4 => ?_)
  have hw := hw M4 hM4
  exact g_vret X hr hlk hSz hOld (Nat.le_refl _) dX6_more_18 hw
theorem dX6_ofPart_0 : decode cX6_ofPart 0 = .ok (.aload_n 0, 1) := by decide +kernel
theorem dX6_ofPart_1 : decode cX6_ofPart 1 = .ok (.getfield 7, 3) := by decide +kernel
theorem dX6_ofPart_4 : decode cX6_ofPart 4 = .ok (.bipush 92, 2) := by decide +kernel
theorem dX6_ofPart_6 : decode cX6_ofPart 6 = .ok (.bipush 8, 2) := by decide +kernel
theorem dX6_ofPart_8 : decode cX6_ofPart 8 = .ok (.iload_n 1, 1) := by decide +kernel
theorem dX6_ofPart_9 : decode cX6_ofPart 9 = .ok (.imul, 1) := by decide +kernel
theorem dX6_ofPart_10 : decode cX6_ofPart 10 = .ok (.iadd, 1) := by decide +kernel
theorem dX6_ofPart_11 : decode cX6_ofPart 11 = .ok (.iload_n 2, 1) := by decide +kernel
theorem dX6_ofPart_12 : decode cX6_ofPart 12 = .ok (.iadd, 1) := by decide +kernel
theorem dX6_ofPart_13 : decode cX6_ofPart 13 = .ok (.iaload, 1) := by decide +kernel
theorem dX6_ofPart_14 : decode cX6_ofPart 14 = .ok (.ireturn, 1) := by decide +kernel
abbrev rmX6_ofPart : Room := { frames := 0, cells := 0, slots := 0, locals := 0 }
def w_X6_ofPart (n : Nat) (M : Mem) (t : Nat) (p1 : Int32) (p2 : Int32) (K : Int32 → Mem → Prop) : Prop := ((t ≤ n ∧ kd t = (6, 0)) ∧ (∀ r2, r2 = gR M t 0 → ((r2 ≤ n ∧ (kd r2).1 = 7 ∧ vp_in (((92 : Int32) + ((8 : Int32) * p1)) + p2) (kd r2).2) ∧ (∀ x3, x3 = gI M r2 (Int32.toNatClampNeg (((92 : Int32) + ((8 : Int32) * p1)) + p2)) → K x3 M))))
set_option maxHeartbeats 4000000 in
set_option maxRecDepth 20000 in
theorem c_X6_ofPart (l : Launch) (E : Gl) (n : Nat) (M : Mem) (t : Nat) (p1 : Int32) (p2 : Int32) (K : Int32 → Mem → Prop) (hw : w_X6_ofPart n M t p1 p2 K) : CT E l yX6_ofPart cX6_ofPart 3 (some .int) rmX6_ofPart n M [rV t, iV p1, iV p2] (PI E n K) := by
  refine g_met l (by decide) (Nat.le_of_ble_eq_true rfl) ?_
  intro p e s m args below meth c X hr hlk hnm hSz hOld
  change CX E p s m c _ _ RX6 at X
  unfold w_X6_ofPart at hw
  refine g_aload_n X dX6_ofPart_0 0 rfl ?_
  obtain ⟨hk1, hw⟩ := hw
  refine g_get X (rV (gR M t 0)) dX6_ofPart_1 fl_X6_7 (fun _ => rfl) ⟨hk1, hw⟩ (fun hw => ?_)
  refine g_topR (fun r2 hr2 => ?_)
  have hw := hw r2 hr2
  refine g_bipush X (92 : Int32) dX6_ofPart_4 (by decide) ?_
  refine g_bipush X (8 : Int32) dX6_ofPart_6 (by decide) ?_
  refine g_iload_n X dX6_ofPart_8 1 rfl ?_
  refine g_imul X dX6_ofPart_9 ?_
  refine g_iadd X dX6_ofPart_10 ?_
  refine g_iload_n X dX6_ofPart_11 2 rfl ?_
  refine g_iadd X dX6_ofPart_12 ?_
  refine g_iald X dX6_ofPart_13 hw (fun hw => ?_)
  refine g_topI (fun x3 hx3 => ?_)
  have hw := hw x3 hx3
  exact g_iret X hr hlk hSz hOld (Nat.le_refl _) dX6_ofPart_14 hw
theorem dX6_put_0 : decode cX6_put 0 = .ok (.aload_n 0, 1) := by decide +kernel
theorem dX6_put_1 : decode cX6_put 1 = .ok (.getfield 7, 3) := by decide +kernel
theorem dX6_put_4 : decode cX6_put 4 = .ok (.bipush 92, 2) := by decide +kernel
theorem dX6_put_6 : decode cX6_put 6 = .ok (.bipush 8, 2) := by decide +kernel
theorem dX6_put_8 : decode cX6_put 8 = .ok (.iload_n 1, 1) := by decide +kernel
theorem dX6_put_9 : decode cX6_put 9 = .ok (.imul, 1) := by decide +kernel
theorem dX6_put_10 : decode cX6_put 10 = .ok (.iadd, 1) := by decide +kernel
theorem dX6_put_11 : decode cX6_put 11 = .ok (.iload_n 2, 1) := by decide +kernel
theorem dX6_put_12 : decode cX6_put 12 = .ok (.iadd, 1) := by decide +kernel
theorem dX6_put_13 : decode cX6_put 13 = .ok (.iload_n 3, 1) := by decide +kernel
theorem dX6_put_14 : decode cX6_put 14 = .ok (.iastore, 1) := by decide +kernel
theorem dX6_put_15 : decode cX6_put 15 = .ok (.return_, 1) := by decide +kernel
abbrev rmX6_put : Room := { frames := 0, cells := 0, slots := 0, locals := 0 }
def w_X6_put (n : Nat) (M : Mem) (t : Nat) (p1 : Int32) (p2 : Int32) (p3 : Int32) (K : Mem → Prop) : Prop := ((t ≤ n ∧ kd t = (6, 0)) ∧ (∀ r2, r2 = gR M t 0 → ((r2 ≤ n ∧ (kd r2).1 = 7 ∧ vp_in (((92 : Int32) + ((8 : Int32) * p1)) + p2) (kd r2).2) ∧ (∀ M3, M3 = sI M r2 (Int32.toNatClampNeg (((92 : Int32) + ((8 : Int32) * p1)) + p2)) p3 → K M3))))
set_option maxHeartbeats 4000000 in
set_option maxRecDepth 20000 in
theorem c_X6_put (l : Launch) (E : Gl) (n : Nat) (M : Mem) (t : Nat) (p1 : Int32) (p2 : Int32) (p3 : Int32) (K : Mem → Prop) (hw : w_X6_put n M t p1 p2 p3 K) : CT E l yX6_put cX6_put 4 none rmX6_put n M [rV t, iV p1, iV p2, iV p3] (PV E n K) := by
  refine g_met l (by decide) (Nat.le_of_ble_eq_true rfl) ?_
  intro p e s m args below meth c X hr hlk hnm hSz hOld
  change CX E p s m c _ _ RX6 at X
  unfold w_X6_put at hw
  refine g_aload_n X dX6_put_0 0 rfl ?_
  obtain ⟨hk1, hw⟩ := hw
  refine g_get X (rV (gR M t 0)) dX6_put_1 fl_X6_7 (fun _ => rfl) ⟨hk1, hw⟩ (fun hw => ?_)
  refine g_topR (fun r2 hr2 => ?_)
  have hw := hw r2 hr2
  refine g_bipush X (92 : Int32) dX6_put_4 (by decide) ?_
  refine g_bipush X (8 : Int32) dX6_put_6 (by decide) ?_
  refine g_iload_n X dX6_put_8 1 rfl ?_
  refine g_imul X dX6_put_9 ?_
  refine g_iadd X dX6_put_10 ?_
  refine g_iload_n X dX6_put_11 2 rfl ?_
  refine g_iadd X dX6_put_12 ?_
  refine g_iload_n X dX6_put_13 3 rfl ?_
  refine g_iast X dX6_put_14 hw (fun hw => ?_)
  refine g_topM (fun M3 hM3 => ?_)
  have hw := hw M3 hM3
  exact g_vret X hr hlk hSz hOld (Nat.le_refl _) dX6_put_15 hw
theorem dX6_partOn_0 : decode cX6_partOn 0 = .ok (.aload_n 0, 1) := by decide +kernel
theorem dX6_partOn_1 : decode cX6_partOn 1 = .ok (.iload_n 1, 1) := by decide +kernel
theorem dX6_partOn_2 : decode cX6_partOn 2 = .ok (.iconst 3, 1) := by decide +kernel
theorem dX6_partOn_3 : decode cX6_partOn 3 = .ok (.invokevirtual 54, 3) := by decide +kernel
theorem dX6_partOn_6 : decode cX6_partOn 6 = .ok (.iconst 1, 1) := by decide +kernel
theorem dX6_partOn_7 : decode cX6_partOn 7 = .ok (.isub, 1) := by decide +kernel
theorem dX6_partOn_8 : decode cX6_partOn 8 = .ok (.ireturn, 1) := by decide +kernel
abbrev rmX6_partOn : Room := { frames := 1, cells := 0, slots := 0, locals := 22 }
def w_X6_partOn (n : Nat) (M : Mem) (t : Nat) (p1 : Int32) (K : Int32 → Mem → Prop) : Prop := ((t ≤ n ∧ kd t = (6, 0)) ∧ w_X6_ofHead n M t p1 (3 : Int32) (fun x3 M2 => K (x3 - (1 : Int32)) M2))
set_option maxHeartbeats 4000000 in
set_option maxRecDepth 20000 in
theorem c_X6_partOn (l : Launch) (E : Gl) (n : Nat) (M : Mem) (t : Nat) (p1 : Int32) (K : Int32 → Mem → Prop) (hw : w_X6_partOn n M t p1 K) : CT E l yX6_partOn cX6_partOn 2 (some .int) rmX6_partOn n M [rV t, iV p1] (PI E n K) := by
  refine g_met l (by decide) (Nat.le_of_ble_eq_true rfl) ?_
  intro p e s m args below meth c X hr hlk hnm hSz hOld
  change CX E p s m c _ _ RX6 at X
  unfold w_X6_partOn at hw
  refine g_aload_n X dX6_partOn_0 0 rfl ?_
  refine g_iload_n X dX6_partOn_1 1 rfl ?_
  refine g_iconst X (3 : Int32) dX6_partOn_2 (by decide) ?_
  obtain ⟨hk1, hw⟩ := hw
  refine g_calli (pc' := 6) (rest := []) rfl (fun H locs ls d qR qL => g_runV X cw_X6_54 iv_X6_ofHead ⟨Nat.le_of_ble_eq_true rfl, Nat.le_of_ble_eq_true rfl⟩ dX6_partOn_3 (c_X6_ofHead l E n M t p1 (3 : Int32) _ hw) hk1 rfl rfl (Nat.le_of_ble_eq_true rfl) ⟨Nat.le_of_ble_eq_true rfl, Nat.le_of_ble_eq_true rfl⟩ qR qL) (fun x3 M2 hw => ?_)
  refine g_iconst X (1 : Int32) dX6_partOn_6 (by decide) ?_
  refine g_isub X dX6_partOn_7 ?_
  exact g_iret X hr hlk hSz hOld (Nat.le_refl _) dX6_partOn_8 hw
theorem dX6_gain_0 : decode cX6_gain 0 = .ok (.aload_n 0, 1) := by decide +kernel
theorem dX6_gain_1 : decode cX6_gain 1 = .ok (.getfield 19, 3) := by decide +kernel
theorem dX6_gain_4 : decode cX6_gain 4 = .ok (.iconst 3, 1) := by decide +kernel
theorem dX6_gain_5 : decode cX6_gain 5 = .ok (.bipush 12, 2) := by decide +kernel
theorem dX6_gain_7 : decode cX6_gain 7 = .ok (.iload_n 1, 1) := by decide +kernel
theorem dX6_gain_8 : decode cX6_gain 8 = .ok (.imul, 1) := by decide +kernel
theorem dX6_gain_9 : decode cX6_gain 9 = .ok (.iadd, 1) := by decide +kernel
theorem dX6_gain_10 : decode cX6_gain 10 = .ok (.iconst 0, 1) := by decide +kernel
theorem dX6_gain_11 : decode cX6_gain 11 = .ok (.iadd, 1) := by decide +kernel
theorem dX6_gain_12 : decode cX6_gain 12 = .ok (.daload, 1) := by decide +kernel
theorem dX6_gain_13 : decode cX6_gain 13 = .ok (.dreturn, 1) := by decide +kernel
abbrev rmX6_gain : Room := { frames := 0, cells := 0, slots := 0, locals := 0 }
def w_X6_gain (n : Nat) (M : Mem) (t : Nat) (p1 : Int32) (K : UInt64 → Mem → Prop) : Prop := ((t ≤ n ∧ kd t = (6, 0)) ∧ (∀ r2, r2 = gR M t 3 → ((r2 ≤ n ∧ (kd r2).1 = 8 ∧ vp_in (((3 : Int32) + ((12 : Int32) * p1)) + (0 : Int32)) (kd r2).2) ∧ (∀ z3, z3 = gD M r2 (Int32.toNatClampNeg (((3 : Int32) + ((12 : Int32) * p1)) + (0 : Int32))) → K z3 M))))
set_option maxHeartbeats 4000000 in
set_option maxRecDepth 20000 in
theorem c_X6_gain (l : Launch) (E : Gl) (n : Nat) (M : Mem) (t : Nat) (p1 : Int32) (K : UInt64 → Mem → Prop) (hw : w_X6_gain n M t p1 K) : CT E l yX6_gain cX6_gain 2 (some .double) rmX6_gain n M [rV t, iV p1] (PD E n K) := by
  refine g_met l (by decide) (Nat.le_of_ble_eq_true rfl) ?_
  intro p e s m args below meth c X hr hlk hnm hSz hOld
  change CX E p s m c _ _ RX6 at X
  unfold w_X6_gain at hw
  refine g_aload_n X dX6_gain_0 0 rfl ?_
  obtain ⟨hk1, hw⟩ := hw
  refine g_get X (rV (gR M t 3)) dX6_gain_1 fl_X6_19 (fun _ => rfl) ⟨hk1, hw⟩ (fun hw => ?_)
  refine g_topR (fun r2 hr2 => ?_)
  have hw := hw r2 hr2
  refine g_iconst X (3 : Int32) dX6_gain_4 (by decide) ?_
  refine g_bipush X (12 : Int32) dX6_gain_5 (by decide) ?_
  refine g_iload_n X dX6_gain_7 1 rfl ?_
  refine g_imul X dX6_gain_8 ?_
  refine g_iadd X dX6_gain_9 ?_
  refine g_iconst X (0 : Int32) dX6_gain_10 (by decide) ?_
  refine g_iadd X dX6_gain_11 ?_
  refine g_dald X dX6_gain_12 hw (fun hw => ?_)
  refine g_topD (fun z3 hz3 => ?_)
  have hw := hw z3 hz3
  exact g_dret X hr hlk hSz hOld (Nat.le_refl _) dX6_gain_13 hw
theorem dX6_factor_0 : decode cX6_factor 0 = .ok (.aload_n 0, 1) := by decide +kernel
theorem dX6_factor_1 : decode cX6_factor 1 = .ok (.getfield 19, 3) := by decide +kernel
theorem dX6_factor_4 : decode cX6_factor 4 = .ok (.iconst 3, 1) := by decide +kernel
theorem dX6_factor_5 : decode cX6_factor 5 = .ok (.bipush 12, 2) := by decide +kernel
theorem dX6_factor_7 : decode cX6_factor 7 = .ok (.iload_n 1, 1) := by decide +kernel
theorem dX6_factor_8 : decode cX6_factor 8 = .ok (.imul, 1) := by decide +kernel
theorem dX6_factor_9 : decode cX6_factor 9 = .ok (.iadd, 1) := by decide +kernel
theorem dX6_factor_10 : decode cX6_factor 10 = .ok (.iconst 1, 1) := by decide +kernel
theorem dX6_factor_11 : decode cX6_factor 11 = .ok (.iadd, 1) := by decide +kernel
theorem dX6_factor_12 : decode cX6_factor 12 = .ok (.daload, 1) := by decide +kernel
theorem dX6_factor_13 : decode cX6_factor 13 = .ok (.dreturn, 1) := by decide +kernel
abbrev rmX6_factor : Room := { frames := 0, cells := 0, slots := 0, locals := 0 }
def w_X6_factor (n : Nat) (M : Mem) (t : Nat) (p1 : Int32) (K : UInt64 → Mem → Prop) : Prop := ((t ≤ n ∧ kd t = (6, 0)) ∧ (∀ r2, r2 = gR M t 3 → ((r2 ≤ n ∧ (kd r2).1 = 8 ∧ vp_in (((3 : Int32) + ((12 : Int32) * p1)) + (1 : Int32)) (kd r2).2) ∧ (∀ z3, z3 = gD M r2 (Int32.toNatClampNeg (((3 : Int32) + ((12 : Int32) * p1)) + (1 : Int32))) → K z3 M))))
set_option maxHeartbeats 4000000 in
set_option maxRecDepth 20000 in
theorem c_X6_factor (l : Launch) (E : Gl) (n : Nat) (M : Mem) (t : Nat) (p1 : Int32) (K : UInt64 → Mem → Prop) (hw : w_X6_factor n M t p1 K) : CT E l yX6_factor cX6_factor 2 (some .double) rmX6_factor n M [rV t, iV p1] (PD E n K) := by
  refine g_met l (by decide) (Nat.le_of_ble_eq_true rfl) ?_
  intro p e s m args below meth c X hr hlk hnm hSz hOld
  change CX E p s m c _ _ RX6 at X
  unfold w_X6_factor at hw
  refine g_aload_n X dX6_factor_0 0 rfl ?_
  obtain ⟨hk1, hw⟩ := hw
  refine g_get X (rV (gR M t 3)) dX6_factor_1 fl_X6_19 (fun _ => rfl) ⟨hk1, hw⟩ (fun hw => ?_)
  refine g_topR (fun r2 hr2 => ?_)
  have hw := hw r2 hr2
  refine g_iconst X (3 : Int32) dX6_factor_4 (by decide) ?_
  refine g_bipush X (12 : Int32) dX6_factor_5 (by decide) ?_
  refine g_iload_n X dX6_factor_7 1 rfl ?_
  refine g_imul X dX6_factor_8 ?_
  refine g_iadd X dX6_factor_9 ?_
  refine g_iconst X (1 : Int32) dX6_factor_10 (by decide) ?_
  refine g_iadd X dX6_factor_11 ?_
  refine g_dald X dX6_factor_12 hw (fun hw => ?_)
  refine g_topD (fun z3 hz3 => ?_)
  have hw := hw z3 hz3
  exact g_dret X hr hlk hSz hOld (Nat.le_refl _) dX6_factor_13 hw
theorem dX6_traced_0 : decode cX6_traced 0 = .ok (.aload_n 0, 1) := by decide +kernel
theorem dX6_traced_1 : decode cX6_traced 1 = .ok (.getfield 19, 3) := by decide +kernel
theorem dX6_traced_4 : decode cX6_traced 4 = .ok (.iconst 3, 1) := by decide +kernel
theorem dX6_traced_5 : decode cX6_traced 5 = .ok (.bipush 12, 2) := by decide +kernel
theorem dX6_traced_7 : decode cX6_traced 7 = .ok (.iload_n 1, 1) := by decide +kernel
theorem dX6_traced_8 : decode cX6_traced 8 = .ok (.imul, 1) := by decide +kernel
theorem dX6_traced_9 : decode cX6_traced 9 = .ok (.iadd, 1) := by decide +kernel
theorem dX6_traced_10 : decode cX6_traced 10 = .ok (.iconst 2, 1) := by decide +kernel
theorem dX6_traced_11 : decode cX6_traced 11 = .ok (.iadd, 1) := by decide +kernel
theorem dX6_traced_12 : decode cX6_traced 12 = .ok (.iload_n 2, 1) := by decide +kernel
theorem dX6_traced_13 : decode cX6_traced 13 = .ok (.iadd, 1) := by decide +kernel
theorem dX6_traced_14 : decode cX6_traced 14 = .ok (.daload, 1) := by decide +kernel
theorem dX6_traced_15 : decode cX6_traced 15 = .ok (.dreturn, 1) := by decide +kernel
abbrev rmX6_traced : Room := { frames := 0, cells := 0, slots := 0, locals := 0 }
def w_X6_traced (n : Nat) (M : Mem) (t : Nat) (p1 : Int32) (p2 : Int32) (K : UInt64 → Mem → Prop) : Prop := ((t ≤ n ∧ kd t = (6, 0)) ∧ (∀ r2, r2 = gR M t 3 → ((r2 ≤ n ∧ (kd r2).1 = 8 ∧ vp_in ((((3 : Int32) + ((12 : Int32) * p1)) + (2 : Int32)) + p2) (kd r2).2) ∧ (∀ z3, z3 = gD M r2 (Int32.toNatClampNeg ((((3 : Int32) + ((12 : Int32) * p1)) + (2 : Int32)) + p2)) → K z3 M))))
set_option maxHeartbeats 4000000 in
set_option maxRecDepth 20000 in
theorem c_X6_traced (l : Launch) (E : Gl) (n : Nat) (M : Mem) (t : Nat) (p1 : Int32) (p2 : Int32) (K : UInt64 → Mem → Prop) (hw : w_X6_traced n M t p1 p2 K) : CT E l yX6_traced cX6_traced 3 (some .double) rmX6_traced n M [rV t, iV p1, iV p2] (PD E n K) := by
  refine g_met l (by decide) (Nat.le_of_ble_eq_true rfl) ?_
  intro p e s m args below meth c X hr hlk hnm hSz hOld
  change CX E p s m c _ _ RX6 at X
  unfold w_X6_traced at hw
  refine g_aload_n X dX6_traced_0 0 rfl ?_
  obtain ⟨hk1, hw⟩ := hw
  refine g_get X (rV (gR M t 3)) dX6_traced_1 fl_X6_19 (fun _ => rfl) ⟨hk1, hw⟩ (fun hw => ?_)
  refine g_topR (fun r2 hr2 => ?_)
  have hw := hw r2 hr2
  refine g_iconst X (3 : Int32) dX6_traced_4 (by decide) ?_
  refine g_bipush X (12 : Int32) dX6_traced_5 (by decide) ?_
  refine g_iload_n X dX6_traced_7 1 rfl ?_
  refine g_imul X dX6_traced_8 ?_
  refine g_iadd X dX6_traced_9 ?_
  refine g_iconst X (2 : Int32) dX6_traced_10 (by decide) ?_
  refine g_iadd X dX6_traced_11 ?_
  refine g_iload_n X dX6_traced_12 2 rfl ?_
  refine g_iadd X dX6_traced_13 ?_
  refine g_dald X dX6_traced_14 hw (fun hw => ?_)
  refine g_topD (fun z3 hz3 => ?_)
  have hw := hw z3 hz3
  exact g_dret X hr hlk hSz hOld (Nat.le_refl _) dX6_traced_15 hw
theorem dX6_present_0 : decode cX6_present 0 = .ok (.aload_n 0, 1) := by decide +kernel
theorem dX6_present_1 : decode cX6_present 1 = .ok (.iload_n 1, 1) := by decide +kernel
theorem dX6_present_2 : decode cX6_present 2 = .ok (.aload_n 0, 1) := by decide +kernel
theorem dX6_present_3 : decode cX6_present 3 = .ok (.iload_n 1, 1) := by decide +kernel
theorem dX6_present_4 : decode cX6_present 4 = .ok (.bipush 8, 2) := by decide +kernel
theorem dX6_present_6 : decode cX6_present 6 = .ok (.invokevirtual 54, 3) := by decide +kernel
theorem dX6_present_9 : decode cX6_present 9 = .ok (.iconst 1, 1) := by decide +kernel
theorem dX6_present_10 : decode cX6_present 10 = .ok (.isub, 1) := by decide +kernel
theorem dX6_present_11 : decode cX6_present 11 = .ok (.invokevirtual 58, 3) := by decide +kernel
theorem dX6_present_14 : decode cX6_present 14 = .ok (.dreturn, 1) := by decide +kernel
abbrev rmX6_present : Room := { frames := 1, cells := 0, slots := 0, locals := 22 }
def w_X6_present (n : Nat) (M : Mem) (t : Nat) (p1 : Int32) (K : UInt64 → Mem → Prop) : Prop := ((t ≤ n ∧ kd t = (6, 0)) ∧ w_X6_ofHead n M t p1 (8 : Int32) (fun x3 M2 => w_X6_traced n M2 t p1 (x3 - (1 : Int32)) (fun z5 M4 => K z5 M4)))
set_option maxHeartbeats 4000000 in
set_option maxRecDepth 20000 in
theorem c_X6_present (l : Launch) (E : Gl) (n : Nat) (M : Mem) (t : Nat) (p1 : Int32) (K : UInt64 → Mem → Prop) (hw : w_X6_present n M t p1 K) : CT E l yX6_present cX6_present 2 (some .double) rmX6_present n M [rV t, iV p1] (PD E n K) := by
  refine g_met l (by decide) (Nat.le_of_ble_eq_true rfl) ?_
  intro p e s m args below meth c X hr hlk hnm hSz hOld
  change CX E p s m c _ _ RX6 at X
  unfold w_X6_present at hw
  refine g_aload_n X dX6_present_0 0 rfl ?_
  refine g_iload_n X dX6_present_1 1 rfl ?_
  refine g_aload_n X dX6_present_2 0 rfl ?_
  refine g_iload_n X dX6_present_3 1 rfl ?_
  refine g_bipush X (8 : Int32) dX6_present_4 (by decide) ?_
  obtain ⟨hk1, hw⟩ := hw
  refine g_calli (pc' := 9) (rest := [iV p1, rV t]) rfl (fun H locs ls d qR qL => g_runV X cw_X6_54 iv_X6_ofHead ⟨Nat.le_of_ble_eq_true rfl, Nat.le_of_ble_eq_true rfl⟩ dX6_present_6 (c_X6_ofHead l E n M t p1 (8 : Int32) _ hw) hk1 rfl rfl (Nat.le_of_ble_eq_true rfl) ⟨Nat.le_of_ble_eq_true rfl, Nat.le_of_ble_eq_true rfl⟩ qR qL) (fun x3 M2 hw => ?_)
  refine g_iconst X (1 : Int32) dX6_present_9 (by decide) ?_
  refine g_isub X dX6_present_10 ?_
  refine g_calld (pc' := 14) (rest := []) rfl (fun H locs ls d qR qL => g_runV X cw_X6_58 iv_X6_traced ⟨Nat.le_of_ble_eq_true rfl, Nat.le_of_ble_eq_true rfl⟩ dX6_present_11 (c_X6_traced l E n M2 t p1 (x3 - (1 : Int32)) _ hw) hk1 rfl rfl (Nat.le_of_ble_eq_true rfl) ⟨Nat.le_of_ble_eq_true rfl, Nat.le_of_ble_eq_true rfl⟩ qR qL) (fun z5 M4 hw => ?_)
  exact g_dret X hr hlk hSz hOld (Nat.le_refl _) dX6_present_14 hw
theorem dX6_build_0 : decode cX6_build 0 = .ok (.iload_n 1, 1) := by decide +kernel
theorem dX6_build_1 : decode cX6_build 1 = .ok (.iconst 2, 1) := by decide +kernel
theorem dX6_build_2 : decode cX6_build 2 = .ok (.bipush 8, 2) := by decide +kernel
theorem dX6_build_4 : decode cX6_build 4 = .ok (.invokestatic 50, 3) := by decide +kernel
theorem dX6_build_7 : decode cX6_build 7 = .ok (.ifCond .ne 6, 3) := by decide +kernel
theorem dX6_build_10 : decode cX6_build 10 = .ok (.bipush (-2), 2) := by decide +kernel
theorem dX6_build_12 : decode cX6_build 12 = .ok (.ireturn, 1) := by decide +kernel
theorem dX6_build_13 : decode cX6_build 13 = .ok (.aload_n 0, 1) := by decide +kernel
theorem dX6_build_14 : decode cX6_build 14 = .ok (.invokevirtual 62, 3) := by decide +kernel
theorem dX6_build_17 : decode cX6_build 17 = .ok (.aload_n 0, 1) := by decide +kernel
theorem dX6_build_18 : decode cX6_build 18 = .ok (.getfield 7, 3) := by decide +kernel
theorem dX6_build_21 : decode cX6_build 21 = .ok (.iconst 2, 1) := by decide +kernel
theorem dX6_build_22 : decode cX6_build 22 = .ok (.iaload, 1) := by decide +kernel
theorem dX6_build_23 : decode cX6_build 23 = .ok (.istore_n 2, 1) := by decide +kernel
theorem dX6_build_24 : decode cX6_build 24 = .ok (.aload_n 0, 1) := by decide +kernel
theorem dX6_build_25 : decode cX6_build 25 = .ok (.iload_n 1, 1) := by decide +kernel
theorem dX6_build_26 : decode cX6_build 26 = .ok (.invokevirtual 42, 3) := by decide +kernel
theorem dX6_build_29 : decode cX6_build 29 = .ok (.iload_n 2, 1) := by decide +kernel
theorem dX6_build_30 : decode cX6_build 30 = .ok (.ireturn, 1) := by decide +kernel
abbrev rmX6_build : Room := { frames := 1, cells := 0, slots := 0, locals := 22 }
def w_X6_build (n : Nat) (M : Mem) (t : Nat) (p1 : Int32) (K : Int32 → Mem → Prop) : Prop := w_X6_in n M p1 (2 : Int32) (8 : Int32) (fun x2 M1 => ((¬ x2 = 0 → ((t ≤ n ∧ kd t = (6, 0)) ∧ w_X6_record n M1 t  (fun M4 => (∀ r5, r5 = gR M4 t 0 → ((r5 ≤ n ∧ (kd r5).1 = 7 ∧ vp_in (2 : Int32) (kd r5).2) ∧ (∀ x6, x6 = gI M4 r5 (Int32.toNatClampNeg (2 : Int32)) → w_X6_begin n M4 t p1 (fun M7 => K x6 M7))))))) ∧ (x2 = 0 → K (-2 : Int32) M1)))
set_option maxHeartbeats 4000000 in
set_option maxRecDepth 20000 in
theorem c_X6_build (l : Launch) (E : Gl) (n : Nat) (M : Mem) (t : Nat) (p1 : Int32) (K : Int32 → Mem → Prop) (hw : w_X6_build n M t p1 K) : CT E l yX6_build cX6_build 3 (some .int) rmX6_build n M [rV t, iV p1] (PI E n K) := by
  refine g_met l (by decide) (Nat.le_of_ble_eq_true rfl) ?_
  intro p e s m args below meth c X hr hlk hnm hSz hOld
  change CX E p s m c _ _ RX6 at X
  unfold w_X6_build at hw
  refine g_iload_n X dX6_build_0 1 rfl ?_
  refine g_iconst X (2 : Int32) dX6_build_1 (by decide) ?_
  refine g_bipush X (8 : Int32) dX6_build_2 (by decide) ?_
  refine g_calli (pc' := 7) (rest := []) rfl (fun H locs ls d qR qL => g_runS X cw_X6_50 wt_X6_in ⟨Nat.le_of_ble_eq_true rfl, Nat.le_of_ble_eq_true rfl⟩ dX6_build_4 (c_X6_in l E n M p1 (2 : Int32) (8 : Int32) _ hw) rfl rfl (Nat.le_of_ble_eq_true rfl) ⟨Nat.le_of_ble_eq_true rfl, Nat.le_of_ble_eq_true rfl⟩ qR qL) (fun x2 M1 hw => ?_)
  refine g_if_ne X 13 dX6_build_7 (by decide) hw (fun hw => ?_) (fun hw => ?_)
  · refine g_aload_n X dX6_build_13 0 rfl ?_
    obtain ⟨hk3, hw⟩ := hw
    refine g_callv (pc' := 17) (rest := []) rfl (fun H locs ls d qR qL => g_runV X cw_X6_62 iv_X6_record ⟨Nat.le_of_ble_eq_true rfl, Nat.le_of_ble_eq_true rfl⟩ dX6_build_14 (c_X6_record l E n M1 t  _ hw) hk3 rfl rfl (Nat.le_of_ble_eq_true rfl) ⟨Nat.le_of_ble_eq_true rfl, Nat.le_of_ble_eq_true rfl⟩ qR qL) (fun M4 hw => ?_)
    refine g_aload_n X dX6_build_17 0 rfl ?_
    refine g_get X (rV (gR M4 t 0)) dX6_build_18 fl_X6_7 (fun _ => rfl) ⟨hk3, hw⟩ (fun hw => ?_)
    refine g_topR (fun r5 hr5 => ?_)
    have hw := hw r5 hr5
    refine g_iconst X (2 : Int32) dX6_build_21 (by decide) ?_
    refine g_iald X dX6_build_22 hw (fun hw => ?_)
    refine g_topI (fun x6 hx6 => ?_)
    have hw := hw x6 hx6
    refine g_istore_n (lv' := [(2, iV x6), (0, rV t), (1, iV p1)]) X dX6_build_23 (by decide) rfl ?_
    refine g_aload_n X dX6_build_24 1 rfl ?_
    refine g_iload_n X dX6_build_25 2 rfl ?_
    refine g_callv (pc' := 29) (rest := []) rfl (fun H locs ls d qR qL => g_runV X cw_X6_42 iv_X6_begin ⟨Nat.le_of_ble_eq_true rfl, Nat.le_of_ble_eq_true rfl⟩ dX6_build_26 (c_X6_begin l E n M4 t p1 _ hw) hk3 rfl rfl (Nat.le_of_ble_eq_true rfl) ⟨Nat.le_of_ble_eq_true rfl, Nat.le_of_ble_eq_true rfl⟩ qR qL) (fun M7 hw => ?_)
    refine g_iload_n X dX6_build_29 0 rfl ?_
    exact g_iret X hr hlk hSz hOld (Nat.le_refl _) dX6_build_30 hw
  · refine g_bipush X (-2 : Int32) dX6_build_10 (by decide) ?_
    exact g_iret X hr hlk hSz hOld (Nat.le_refl _) dX6_build_12 hw
theorem dX6_setPressure_0 : decode cX6_setPressure 0 = .ok (.iload_n 1, 1) := by decide +kernel
theorem dX6_setPressure_1 : decode cX6_setPressure 1 = .ok (.iconst 0, 1) := by decide +kernel
theorem dX6_setPressure_2 : decode cX6_setPressure 2 = .ok (.iconst 2, 1) := by decide +kernel
theorem dX6_setPressure_3 : decode cX6_setPressure 3 = .ok (.invokestatic 50, 3) := by decide +kernel
theorem dX6_setPressure_6 : decode cX6_setPressure 6 = .ok (.ifCond .eq 17, 3) := by decide +kernel
theorem dX6_setPressure_9 : decode cX6_setPressure 9 = .ok (.lload_n 2, 1) := by decide +kernel
theorem dX6_setPressure_10 : decode cX6_setPressure 10 = .ok (.lconst 0, 1) := by decide +kernel
theorem dX6_setPressure_11 : decode cX6_setPressure 11 = .ok (.lcmp, 1) := by decide +kernel
theorem dX6_setPressure_12 : decode cX6_setPressure 12 = .ok (.ifCond .lt 11, 3) := by decide +kernel
theorem dX6_setPressure_15 : decode cX6_setPressure 15 = .ok (.lload_n 2, 1) := by decide +kernel
theorem dX6_setPressure_16 : decode cX6_setPressure 16 = .ok (.ldc2_w 65, 3) := by decide +kernel
theorem dX6_setPressure_19 : decode cX6_setPressure 19 = .ok (.lcmp, 1) := by decide +kernel
theorem dX6_setPressure_20 : decode cX6_setPressure 20 = .ok (.ifCond .le 6, 3) := by decide +kernel
theorem dX6_setPressure_23 : decode cX6_setPressure 23 = .ok (.bipush (-2), 2) := by decide +kernel
theorem dX6_setPressure_25 : decode cX6_setPressure 25 = .ok (.ireturn, 1) := by decide +kernel
theorem dX6_setPressure_26 : decode cX6_setPressure 26 = .ok (.lload_n 2, 1) := by decide +kernel
theorem dX6_setPressure_27 : decode cX6_setPressure 27 = .ok (.invokestatic 67, 3) := by decide +kernel
theorem dX6_setPressure_30 : decode cX6_setPressure 30 = .ok (.dstore 4, 2) := by decide +kernel
theorem dX6_setPressure_32 : decode cX6_setPressure 32 = .ok (.iload_n 1, 1) := by decide +kernel
theorem dX6_setPressure_33 : decode cX6_setPressure 33 = .ok (.ifCond .ne 27, 3) := by decide +kernel
theorem dX6_setPressure_36 : decode cX6_setPressure 36 = .ok (.dload 4, 2) := by decide +kernel
theorem dX6_setPressure_38 : decode cX6_setPressure 38 = .ok (.dconst 1, 1) := by decide +kernel
theorem dX6_setPressure_39 : decode cX6_setPressure 39 = .ok (.dcmp .l, 1) := by decide +kernel
theorem dX6_setPressure_40 : decode cX6_setPressure 40 = .ok (.ifCond .lt 16, 3) := by decide +kernel
theorem dX6_setPressure_43 : decode cX6_setPressure 43 = .ok (.dload 4, 2) := by decide +kernel
theorem dX6_setPressure_45 : decode cX6_setPressure 45 = .ok (.ldc2_w 73, 3) := by decide +kernel
theorem dX6_setPressure_48 : decode cX6_setPressure 48 = .ok (.dcmp .g, 1) := by decide +kernel
theorem dX6_setPressure_49 : decode cX6_setPressure 49 = .ok (.ifCond .gt 7, 3) := by decide +kernel
theorem dX6_setPressure_52 : decode cX6_setPressure 52 = .ok (.iconst 1, 1) := by decide +kernel
theorem dX6_setPressure_53 : decode cX6_setPressure 53 = .ok (.goto 28, 3) := by decide +kernel
theorem dX6_setPressure_56 : decode cX6_setPressure 56 = .ok (.iconst 0, 1) := by decide +kernel
theorem dX6_setPressure_57 : decode cX6_setPressure 57 = .ok (.goto 24, 3) := by decide +kernel
theorem dX6_setPressure_60 : decode cX6_setPressure 60 = .ok (.dload 4, 2) := by decide +kernel
theorem dX6_setPressure_62 : decode cX6_setPressure 62 = .ok (.dconst 0, 1) := by decide +kernel
theorem dX6_setPressure_63 : decode cX6_setPressure 63 = .ok (.dcmp .l, 1) := by decide +kernel
theorem dX6_setPressure_64 : decode cX6_setPressure 64 = .ok (.ifCond .lt 16, 3) := by decide +kernel
theorem dX6_setPressure_67 : decode cX6_setPressure 67 = .ok (.dload 4, 2) := by decide +kernel
theorem dX6_setPressure_69 : decode cX6_setPressure 69 = .ok (.ldc2_w 75, 3) := by decide +kernel
theorem dX6_setPressure_72 : decode cX6_setPressure 72 = .ok (.dcmp .g, 1) := by decide +kernel
theorem dX6_setPressure_73 : decode cX6_setPressure 73 = .ok (.ifCond .gt 7, 3) := by decide +kernel
theorem dX6_setPressure_76 : decode cX6_setPressure 76 = .ok (.iconst 1, 1) := by decide +kernel
theorem dX6_setPressure_77 : decode cX6_setPressure 77 = .ok (.goto 4, 3) := by decide +kernel
theorem dX6_setPressure_80 : decode cX6_setPressure 80 = .ok (.iconst 0, 1) := by decide +kernel
theorem dX6_setPressure_81 : decode cX6_setPressure 81 = .ok (.istore 6, 2) := by decide +kernel
theorem dX6_setPressure_83 : decode cX6_setPressure 83 = .ok (.iload 6, 2) := by decide +kernel
theorem dX6_setPressure_85 : decode cX6_setPressure 85 = .ok (.ifCond .ne 6, 3) := by decide +kernel
theorem dX6_setPressure_88 : decode cX6_setPressure 88 = .ok (.bipush (-2), 2) := by decide +kernel
theorem dX6_setPressure_90 : decode cX6_setPressure 90 = .ok (.ireturn, 1) := by decide +kernel
theorem dX6_setPressure_91 : decode cX6_setPressure 91 = .ok (.aload_n 0, 1) := by decide +kernel
theorem dX6_setPressure_92 : decode cX6_setPressure 92 = .ok (.getfield 19, 3) := by decide +kernel
theorem dX6_setPressure_95 : decode cX6_setPressure 95 = .ok (.iload_n 1, 1) := by decide +kernel
theorem dX6_setPressure_96 : decode cX6_setPressure 96 = .ok (.daload, 1) := by decide +kernel
theorem dX6_setPressure_97 : decode cX6_setPressure 97 = .ok (.dload 4, 2) := by decide +kernel
theorem dX6_setPressure_99 : decode cX6_setPressure 99 = .ok (.dcmp .l, 1) := by decide +kernel
theorem dX6_setPressure_100 : decode cX6_setPressure 100 = .ok (.ifCond .ne 6, 3) := by decide +kernel
theorem dX6_setPressure_103 : decode cX6_setPressure 103 = .ok (.bipush (-5), 2) := by decide +kernel
theorem dX6_setPressure_105 : decode cX6_setPressure 105 = .ok (.ireturn, 1) := by decide +kernel
theorem dX6_setPressure_106 : decode cX6_setPressure 106 = .ok (.aload_n 0, 1) := by decide +kernel
theorem dX6_setPressure_107 : decode cX6_setPressure 107 = .ok (.invokevirtual 62, 3) := by decide +kernel
theorem dX6_setPressure_110 : decode cX6_setPressure 110 = .ok (.aload_n 0, 1) := by decide +kernel
theorem dX6_setPressure_111 : decode cX6_setPressure 111 = .ok (.getfield 19, 3) := by decide +kernel
theorem dX6_setPressure_114 : decode cX6_setPressure 114 = .ok (.iload_n 1, 1) := by decide +kernel
theorem dX6_setPressure_115 : decode cX6_setPressure 115 = .ok (.dload 4, 2) := by decide +kernel
theorem dX6_setPressure_117 : decode cX6_setPressure 117 = .ok (.dastore, 1) := by decide +kernel
theorem dX6_setPressure_118 : decode cX6_setPressure 118 = .ok (.iconst 1, 1) := by decide +kernel
theorem dX6_setPressure_119 : decode cX6_setPressure 119 = .ok (.ireturn, 1) := by decide +kernel
abbrev rmX6_setPressure : Room := { frames := 1, cells := 0, slots := 0, locals := 24 }
def w_X6_setPressure (n : Nat) (M : Mem) (t : Nat) (p1 : Int32) (p2 : Int64) (K : Int32 → Mem → Prop) : Prop := w_X6_in n M p1 (0 : Int32) (2 : Int32) (fun x2 M1 => ((x2 = 0 → K (-2 : Int32) M1) ∧ (¬ x2 = 0 → (((lg_cmp p2 (0 : Int64)) < 0 → K (-2 : Int32) M1) ∧ (¬ (lg_cmp p2 (0 : Int64)) < 0 → (((lg_cmp p2 (9218868437227405312 : Int64)) ≤ 0 → (vn_snl2d p2 = false ∧ (∀ z3, z3 = Int64.toUInt64 p2 → ((¬ p1 = 0 → (((Op.cmpValue (FP.dcmp z3 FP.dconst0) CmpOp.l) < 0 → K (-2 : Int32) M1) ∧ (¬ (Op.cmpValue (FP.dcmp z3 FP.dconst0) CmpOp.l) < 0 → ((0 < (Op.cmpValue (FP.dcmp z3 (4696837146684686336 : UInt64)) CmpOp.g) → K (-2 : Int32) M1) ∧ (¬ 0 < (Op.cmpValue (FP.dcmp z3 (4696837146684686336 : UInt64)) CmpOp.g) → ((t ≤ n ∧ kd t = (6, 0)) ∧ (∀ r5, r5 = gR M1 t 3 → ((r5 ≤ n ∧ (kd r5).1 = 8 ∧ vp_in p1 (kd r5).2) ∧ (∀ z6, z6 = gD M1 r5 (Int32.toNatClampNeg p1) → ((¬ (Op.cmpValue (FP.dcmp z6 z3) CmpOp.l) = 0 → w_X6_record n M1 t  (fun M7 => (∀ r8, r8 = gR M7 t 3 → ((r8 ≤ n ∧ (kd r8).1 = 8 ∧ vp_in p1 (kd r8).2) ∧ (∀ M9, M9 = sD M7 r8 (Int32.toNatClampNeg p1) z3 → K (1 : Int32) M9))))) ∧ ((Op.cmpValue (FP.dcmp z6 z3) CmpOp.l) = 0 → K (-5 : Int32) M1))))))))))) ∧ (p1 = 0 → (((Op.cmpValue (FP.dcmp z3 FP.dconst1) CmpOp.l) < 0 → K (-2 : Int32) M1) ∧ (¬ (Op.cmpValue (FP.dcmp z3 FP.dconst1) CmpOp.l) < 0 → ((0 < (Op.cmpValue (FP.dcmp z3 (4652007308841189376 : UInt64)) CmpOp.g) → K (-2 : Int32) M1) ∧ (¬ 0 < (Op.cmpValue (FP.dcmp z3 (4652007308841189376 : UInt64)) CmpOp.g) → ((t ≤ n ∧ kd t = (6, 0)) ∧ (∀ r11, r11 = gR M1 t 3 → ((r11 ≤ n ∧ (kd r11).1 = 8 ∧ vp_in p1 (kd r11).2) ∧ (∀ z12, z12 = gD M1 r11 (Int32.toNatClampNeg p1) → ((¬ (Op.cmpValue (FP.dcmp z12 z3) CmpOp.l) = 0 → w_X6_record n M1 t  (fun M13 => (∀ r14, r14 = gR M13 t 3 → ((r14 ≤ n ∧ (kd r14).1 = 8 ∧ vp_in p1 (kd r14).2) ∧ (∀ M15, M15 = sD M13 r14 (Int32.toNatClampNeg p1) z3 → K (1 : Int32) M15))))) ∧ ((Op.cmpValue (FP.dcmp z12 z3) CmpOp.l) = 0 → K (-5 : Int32) M1))))))))))))))) ∧ (¬ (lg_cmp p2 (9218868437227405312 : Int64)) ≤ 0 → K (-2 : Int32) M1)))))))
set_option maxHeartbeats 4000000 in
set_option maxRecDepth 20000 in
theorem c_X6_setPressure (l : Launch) (E : Gl) (n : Nat) (M : Mem) (t : Nat) (p1 : Int32) (p2 : Int64) (K : Int32 → Mem → Prop) (hw : w_X6_setPressure n M t p1 p2 K) : CT E l yX6_setPressure cX6_setPressure 7 (some .int) rmX6_setPressure n M [rV t, iV p1, lV p2] (PI E n K) := by
  refine g_met l (by decide) (Nat.le_of_ble_eq_true rfl) ?_
  intro p e s m args below meth c X hr hlk hnm hSz hOld
  change CX E p s m c _ _ RX6 at X
  unfold w_X6_setPressure at hw
  refine g_iload_n X dX6_setPressure_0 1 rfl ?_
  refine g_iconst X (0 : Int32) dX6_setPressure_1 (by decide) ?_
  refine g_iconst X (2 : Int32) dX6_setPressure_2 (by decide) ?_
  refine g_calli (pc' := 6) (rest := []) rfl (fun H locs ls d qR qL => g_runS X cw_X6_50 wt_X6_in ⟨Nat.le_of_ble_eq_true rfl, Nat.le_of_ble_eq_true rfl⟩ dX6_setPressure_3 (c_X6_in l E n M p1 (0 : Int32) (2 : Int32) _ hw) rfl rfl (Nat.le_of_ble_eq_true rfl) ⟨Nat.le_of_ble_eq_true rfl, Nat.le_of_ble_eq_true rfl⟩ qR qL) (fun x2 M1 hw => ?_)
  refine g_if_eq X 23 dX6_setPressure_6 (by decide) hw (fun hw => ?_) (fun hw => ?_)
  · refine g_bipush X (-2 : Int32) dX6_setPressure_23 (by decide) ?_
    exact g_iret X hr hlk hSz hOld (Nat.le_refl _) dX6_setPressure_25 hw
  · refine g_lload_n X dX6_setPressure_9 2 rfl ?_
    refine g_lconst X (0 : Int64) dX6_setPressure_10 (by decide) ?_
    refine g_lcmp X dX6_setPressure_11 ?_
    refine g_if_lt X 23 dX6_setPressure_12 (by decide) hw (fun hw => ?_) (fun hw => ?_)
    · refine g_bipush X (-2 : Int32) dX6_setPressure_23 (by decide) ?_
      exact g_iret X hr hlk hSz hOld (Nat.le_refl _) dX6_setPressure_25 hw
    · refine g_lload_n X dX6_setPressure_15 2 rfl ?_
      refine g_ldcL X (9218868437227405312 : Int64) dX6_setPressure_16 wk_X6_65 ?_
      refine g_lcmp X dX6_setPressure_19 ?_
      refine g_if_le X 26 dX6_setPressure_20 (by decide) hw (fun hw => ?_) (fun hw => ?_)
      · refine g_lload_n X dX6_setPressure_26 2 rfl ?_
        refine g_natL2D X wm_X6_67 wv_longBitsToDouble wt_longBitsToDouble wiq_Jxe99ae dX6_setPressure_27 (by decide) ⟨by decide, by decide⟩ hw (fun hw => ?_)
        refine g_topD (fun z3 hz3 => ?_)
        have hw := hw z3 hz3
        refine g_dstore (lv' := [(4, dV z3), (0, rV t), (1, iV p1), (2, lV p2)]) X dX6_setPressure_30 (by decide) rfl ?_
        refine g_iload_n X dX6_setPressure_32 2 rfl ?_
        refine g_if_ne X 60 dX6_setPressure_33 (by decide) hw (fun hw => ?_) (fun hw => ?_)
        · refine g_dload X dX6_setPressure_60 0 rfl ?_
          refine g_dconst0 X dX6_setPressure_62 ?_
          refine g_dcmp X dX6_setPressure_63 ?_
          refine g_if_lt X 80 dX6_setPressure_64 (by decide) hw (fun hw => ?_) (fun hw => ?_)
          · refine g_iconst X (0 : Int32) dX6_setPressure_80 (by decide) ?_
            refine g_istore (lv' := [(6, iV (0 : Int32)), (4, dV z3), (0, rV t), (1, iV p1), (2, lV p2)]) X dX6_setPressure_81 (by decide) rfl ?_
            refine g_iload X dX6_setPressure_83 0 rfl ?_
            refine g_if_ne (A := False) X 91 dX6_setPressure_85 (by decide) ⟨fun h => absurd h (by decide), fun _ => hw⟩ (fun h => h.elim) (fun hw => ?_)
            refine g_bipush X (-2 : Int32) dX6_setPressure_88 (by decide) ?_
            exact g_iret X hr hlk hSz hOld (Nat.le_refl _) dX6_setPressure_90 hw
          · refine g_dload X dX6_setPressure_67 0 rfl ?_
            refine g_ldcD X (4696837146684686336 : UInt64) dX6_setPressure_69 wk_X6_75 ?_
            refine g_dcmp X dX6_setPressure_72 ?_
            refine g_if_gt X 80 dX6_setPressure_73 (by decide) hw (fun hw => ?_) (fun hw => ?_)
            · refine g_iconst X (0 : Int32) dX6_setPressure_80 (by decide) ?_
              refine g_istore (lv' := [(6, iV (0 : Int32)), (4, dV z3), (0, rV t), (1, iV p1), (2, lV p2)]) X dX6_setPressure_81 (by decide) rfl ?_
              refine g_iload X dX6_setPressure_83 0 rfl ?_
              refine g_if_ne (A := False) X 91 dX6_setPressure_85 (by decide) ⟨fun h => absurd h (by decide), fun _ => hw⟩ (fun h => h.elim) (fun hw => ?_)
              refine g_bipush X (-2 : Int32) dX6_setPressure_88 (by decide) ?_
              exact g_iret X hr hlk hSz hOld (Nat.le_refl _) dX6_setPressure_90 hw
            · refine g_iconst X (1 : Int32) dX6_setPressure_76 (by decide) ?_
              refine g_goto X 81 dX6_setPressure_77 (by decide) ?_
              refine g_istore (lv' := [(6, iV (1 : Int32)), (4, dV z3), (0, rV t), (1, iV p1), (2, lV p2)]) X dX6_setPressure_81 (by decide) rfl ?_
              refine g_iload X dX6_setPressure_83 0 rfl ?_
              refine g_if_ne (B := False) X 91 dX6_setPressure_85 (by decide) ⟨fun _ => hw, fun h => absurd h (by decide)⟩ (fun hw => ?_) (fun h => h.elim)
              refine g_aload_n X dX6_setPressure_91 2 rfl ?_
              obtain ⟨hk4, hw⟩ := hw
              refine g_get X (rV (gR M1 t 3)) dX6_setPressure_92 fl_X6_19 (fun _ => rfl) ⟨hk4, hw⟩ (fun hw => ?_)
              refine g_topR (fun r5 hr5 => ?_)
              have hw := hw r5 hr5
              refine g_iload_n X dX6_setPressure_95 3 rfl ?_
              refine g_dald X dX6_setPressure_96 hw (fun hw => ?_)
              refine g_topD (fun z6 hz6 => ?_)
              have hw := hw z6 hz6
              refine g_dload X dX6_setPressure_97 1 rfl ?_
              refine g_dcmp X dX6_setPressure_99 ?_
              refine g_if_ne X 106 dX6_setPressure_100 (by decide) hw (fun hw => ?_) (fun hw => ?_)
              · refine g_aload_n X dX6_setPressure_106 2 rfl ?_
                refine g_callv (pc' := 110) (rest := []) rfl (fun H locs ls d qR qL => g_runV X cw_X6_62 iv_X6_record ⟨Nat.le_of_ble_eq_true rfl, Nat.le_of_ble_eq_true rfl⟩ dX6_setPressure_107 (c_X6_record l E n M1 t  _ hw) hk4 rfl rfl (Nat.le_of_ble_eq_true rfl) ⟨Nat.le_of_ble_eq_true rfl, Nat.le_of_ble_eq_true rfl⟩ qR qL) (fun M7 hw => ?_)
                refine g_aload_n X dX6_setPressure_110 2 rfl ?_
                refine g_get X (rV (gR M7 t 3)) dX6_setPressure_111 fl_X6_19 (fun _ => rfl) ⟨hk4, hw⟩ (fun hw => ?_)
                refine g_topR (fun r8 hr8 => ?_)
                have hw := hw r8 hr8
                refine g_iload_n X dX6_setPressure_114 3 rfl ?_
                refine g_dload X dX6_setPressure_115 1 rfl ?_
                refine g_dast X dX6_setPressure_117 hw (fun hw => ?_)
                refine g_topM (fun M9 hM9 => ?_)
                have hw := hw M9 hM9
                refine g_iconst X (1 : Int32) dX6_setPressure_118 (by decide) ?_
                exact g_iret X hr hlk hSz hOld (Nat.le_refl _) dX6_setPressure_119 hw
              · refine g_bipush X (-5 : Int32) dX6_setPressure_103 (by decide) ?_
                exact g_iret X hr hlk hSz hOld (Nat.le_refl _) dX6_setPressure_105 hw
        · refine g_dload X dX6_setPressure_36 0 rfl ?_
          refine g_dconst1 X dX6_setPressure_38 ?_
          refine g_dcmp X dX6_setPressure_39 ?_
          refine g_if_lt X 56 dX6_setPressure_40 (by decide) hw (fun hw => ?_) (fun hw => ?_)
          · refine g_iconst X (0 : Int32) dX6_setPressure_56 (by decide) ?_
            refine g_goto X 81 dX6_setPressure_57 (by decide) ?_
            refine g_istore (lv' := [(6, iV (0 : Int32)), (4, dV z3), (0, rV t), (1, iV p1), (2, lV p2)]) X dX6_setPressure_81 (by decide) rfl ?_
            refine g_iload X dX6_setPressure_83 0 rfl ?_
            refine g_if_ne (A := False) X 91 dX6_setPressure_85 (by decide) ⟨fun h => absurd h (by decide), fun _ => hw⟩ (fun h => h.elim) (fun hw => ?_)
            refine g_bipush X (-2 : Int32) dX6_setPressure_88 (by decide) ?_
            exact g_iret X hr hlk hSz hOld (Nat.le_refl _) dX6_setPressure_90 hw
          · refine g_dload X dX6_setPressure_43 0 rfl ?_
            refine g_ldcD X (4652007308841189376 : UInt64) dX6_setPressure_45 wk_X6_73 ?_
            refine g_dcmp X dX6_setPressure_48 ?_
            refine g_if_gt X 56 dX6_setPressure_49 (by decide) hw (fun hw => ?_) (fun hw => ?_)
            · refine g_iconst X (0 : Int32) dX6_setPressure_56 (by decide) ?_
              refine g_goto X 81 dX6_setPressure_57 (by decide) ?_
              refine g_istore (lv' := [(6, iV (0 : Int32)), (4, dV z3), (0, rV t), (1, iV p1), (2, lV p2)]) X dX6_setPressure_81 (by decide) rfl ?_
              refine g_iload X dX6_setPressure_83 0 rfl ?_
              refine g_if_ne (A := False) X 91 dX6_setPressure_85 (by decide) ⟨fun h => absurd h (by decide), fun _ => hw⟩ (fun h => h.elim) (fun hw => ?_)
              refine g_bipush X (-2 : Int32) dX6_setPressure_88 (by decide) ?_
              exact g_iret X hr hlk hSz hOld (Nat.le_refl _) dX6_setPressure_90 hw
            · refine g_iconst X (1 : Int32) dX6_setPressure_52 (by decide) ?_
              refine g_goto X 81 dX6_setPressure_53 (by decide) ?_
              refine g_istore (lv' := [(6, iV (1 : Int32)), (4, dV z3), (0, rV t), (1, iV p1), (2, lV p2)]) X dX6_setPressure_81 (by decide) rfl ?_
              refine g_iload X dX6_setPressure_83 0 rfl ?_
              refine g_if_ne (B := False) X 91 dX6_setPressure_85 (by decide) ⟨fun _ => hw, fun h => absurd h (by decide)⟩ (fun hw => ?_) (fun h => h.elim)
              refine g_aload_n X dX6_setPressure_91 2 rfl ?_
              obtain ⟨hk10, hw⟩ := hw
              refine g_get X (rV (gR M1 t 3)) dX6_setPressure_92 fl_X6_19 (fun _ => rfl) ⟨hk10, hw⟩ (fun hw => ?_)
              refine g_topR (fun r11 hr11 => ?_)
              have hw := hw r11 hr11
              refine g_iload_n X dX6_setPressure_95 3 rfl ?_
              refine g_dald X dX6_setPressure_96 hw (fun hw => ?_)
              refine g_topD (fun z12 hz12 => ?_)
              have hw := hw z12 hz12
              refine g_dload X dX6_setPressure_97 1 rfl ?_
              refine g_dcmp X dX6_setPressure_99 ?_
              refine g_if_ne X 106 dX6_setPressure_100 (by decide) hw (fun hw => ?_) (fun hw => ?_)
              · refine g_aload_n X dX6_setPressure_106 2 rfl ?_
                refine g_callv (pc' := 110) (rest := []) rfl (fun H locs ls d qR qL => g_runV X cw_X6_62 iv_X6_record ⟨Nat.le_of_ble_eq_true rfl, Nat.le_of_ble_eq_true rfl⟩ dX6_setPressure_107 (c_X6_record l E n M1 t  _ hw) hk10 rfl rfl (Nat.le_of_ble_eq_true rfl) ⟨Nat.le_of_ble_eq_true rfl, Nat.le_of_ble_eq_true rfl⟩ qR qL) (fun M13 hw => ?_)
                refine g_aload_n X dX6_setPressure_110 2 rfl ?_
                refine g_get X (rV (gR M13 t 3)) dX6_setPressure_111 fl_X6_19 (fun _ => rfl) ⟨hk10, hw⟩ (fun hw => ?_)
                refine g_topR (fun r14 hr14 => ?_)
                have hw := hw r14 hr14
                refine g_iload_n X dX6_setPressure_114 3 rfl ?_
                refine g_dload X dX6_setPressure_115 1 rfl ?_
                refine g_dast X dX6_setPressure_117 hw (fun hw => ?_)
                refine g_topM (fun M15 hM15 => ?_)
                have hw := hw M15 hM15
                refine g_iconst X (1 : Int32) dX6_setPressure_118 (by decide) ?_
                exact g_iret X hr hlk hSz hOld (Nat.le_refl _) dX6_setPressure_119 hw
              · refine g_bipush X (-5 : Int32) dX6_setPressure_103 (by decide) ?_
                exact g_iret X hr hlk hSz hOld (Nat.le_refl _) dX6_setPressure_105 hw
      · refine g_bipush X (-2 : Int32) dX6_setPressure_23 (by decide) ?_
        exact g_iret X hr hlk hSz hOld (Nat.le_refl _) dX6_setPressure_25 hw
theorem dX6_setInterval_0 : decode cX6_setInterval 0 = .ok (.iload_n 1, 1) := by decide +kernel
theorem dX6_setInterval_1 : decode cX6_setInterval 1 = .ok (.iconst 1, 1) := by decide +kernel
theorem dX6_setInterval_2 : decode cX6_setInterval 2 = .ok (.bipush 99, 2) := by decide +kernel
theorem dX6_setInterval_4 : decode cX6_setInterval 4 = .ok (.invokestatic 50, 3) := by decide +kernel
theorem dX6_setInterval_7 : decode cX6_setInterval 7 = .ok (.ifCond .ne 6, 3) := by decide +kernel
theorem dX6_setInterval_10 : decode cX6_setInterval 10 = .ok (.bipush (-2), 2) := by decide +kernel
theorem dX6_setInterval_12 : decode cX6_setInterval 12 = .ok (.ireturn, 1) := by decide +kernel
theorem dX6_setInterval_13 : decode cX6_setInterval 13 = .ok (.aload_n 0, 1) := by decide +kernel
theorem dX6_setInterval_14 : decode cX6_setInterval 14 = .ok (.getfield 7, 3) := by decide +kernel
theorem dX6_setInterval_17 : decode cX6_setInterval 17 = .ok (.iconst 3, 1) := by decide +kernel
theorem dX6_setInterval_18 : decode cX6_setInterval 18 = .ok (.iaload, 1) := by decide +kernel
theorem dX6_setInterval_19 : decode cX6_setInterval 19 = .ok (.istore_n 2, 1) := by decide +kernel
theorem dX6_setInterval_20 : decode cX6_setInterval 20 = .ok (.iload_n 2, 1) := by decide +kernel
theorem dX6_setInterval_21 : decode cX6_setInterval 21 = .ok (.iload_n 1, 1) := by decide +kernel
theorem dX6_setInterval_22 : decode cX6_setInterval 22 = .ok (.if_icmp .ne 6, 3) := by decide +kernel
theorem dX6_setInterval_25 : decode cX6_setInterval 25 = .ok (.bipush (-5), 2) := by decide +kernel
theorem dX6_setInterval_27 : decode cX6_setInterval 27 = .ok (.ireturn, 1) := by decide +kernel
theorem dX6_setInterval_28 : decode cX6_setInterval 28 = .ok (.aload_n 0, 1) := by decide +kernel
theorem dX6_setInterval_29 : decode cX6_setInterval 29 = .ok (.invokevirtual 62, 3) := by decide +kernel
theorem dX6_setInterval_32 : decode cX6_setInterval 32 = .ok (.aload_n 0, 1) := by decide +kernel
theorem dX6_setInterval_33 : decode cX6_setInterval 33 = .ok (.getfield 7, 3) := by decide +kernel
theorem dX6_setInterval_36 : decode cX6_setInterval 36 = .ok (.iconst 3, 1) := by decide +kernel
theorem dX6_setInterval_37 : decode cX6_setInterval 37 = .ok (.iload_n 1, 1) := by decide +kernel
theorem dX6_setInterval_38 : decode cX6_setInterval 38 = .ok (.iastore, 1) := by decide +kernel
theorem dX6_setInterval_39 : decode cX6_setInterval 39 = .ok (.iload_n 2, 1) := by decide +kernel
theorem dX6_setInterval_40 : decode cX6_setInterval 40 = .ok (.ireturn, 1) := by decide +kernel
abbrev rmX6_setInterval : Room := { frames := 1, cells := 0, slots := 0, locals := 22 }
def w_X6_setInterval (n : Nat) (M : Mem) (t : Nat) (p1 : Int32) (K : Int32 → Mem → Prop) : Prop := w_X6_in n M p1 (1 : Int32) (99 : Int32) (fun x2 M1 => ((¬ x2 = 0 → ((t ≤ n ∧ kd t = (6, 0)) ∧ (∀ r4, r4 = gR M1 t 0 → ((r4 ≤ n ∧ (kd r4).1 = 7 ∧ vp_in (3 : Int32) (kd r4).2) ∧ (∀ x5, x5 = gI M1 r4 (Int32.toNatClampNeg (3 : Int32)) → ((¬ x5 = p1 → w_X6_record n M1 t  (fun M6 => (∀ r7, r7 = gR M6 t 0 → ((r7 ≤ n ∧ (kd r7).1 = 7 ∧ vp_in (3 : Int32) (kd r7).2) ∧ (∀ M8, M8 = sI M6 r7 (Int32.toNatClampNeg (3 : Int32)) p1 → K x5 M8))))) ∧ (x5 = p1 → K (-5 : Int32) M1))))))) ∧ (x2 = 0 → K (-2 : Int32) M1)))
set_option maxHeartbeats 4000000 in
set_option maxRecDepth 20000 in
theorem c_X6_setInterval (l : Launch) (E : Gl) (n : Nat) (M : Mem) (t : Nat) (p1 : Int32) (K : Int32 → Mem → Prop) (hw : w_X6_setInterval n M t p1 K) : CT E l yX6_setInterval cX6_setInterval 3 (some .int) rmX6_setInterval n M [rV t, iV p1] (PI E n K) := by
  refine g_met l (by decide) (Nat.le_of_ble_eq_true rfl) ?_
  intro p e s m args below meth c X hr hlk hnm hSz hOld
  change CX E p s m c _ _ RX6 at X
  unfold w_X6_setInterval at hw
  refine g_iload_n X dX6_setInterval_0 1 rfl ?_
  refine g_iconst X (1 : Int32) dX6_setInterval_1 (by decide) ?_
  refine g_bipush X (99 : Int32) dX6_setInterval_2 (by decide) ?_
  refine g_calli (pc' := 7) (rest := []) rfl (fun H locs ls d qR qL => g_runS X cw_X6_50 wt_X6_in ⟨Nat.le_of_ble_eq_true rfl, Nat.le_of_ble_eq_true rfl⟩ dX6_setInterval_4 (c_X6_in l E n M p1 (1 : Int32) (99 : Int32) _ hw) rfl rfl (Nat.le_of_ble_eq_true rfl) ⟨Nat.le_of_ble_eq_true rfl, Nat.le_of_ble_eq_true rfl⟩ qR qL) (fun x2 M1 hw => ?_)
  refine g_if_ne X 13 dX6_setInterval_7 (by decide) hw (fun hw => ?_) (fun hw => ?_)
  · refine g_aload_n X dX6_setInterval_13 0 rfl ?_
    obtain ⟨hk3, hw⟩ := hw
    refine g_get X (rV (gR M1 t 0)) dX6_setInterval_14 fl_X6_7 (fun _ => rfl) ⟨hk3, hw⟩ (fun hw => ?_)
    refine g_topR (fun r4 hr4 => ?_)
    have hw := hw r4 hr4
    refine g_iconst X (3 : Int32) dX6_setInterval_17 (by decide) ?_
    refine g_iald X dX6_setInterval_18 hw (fun hw => ?_)
    refine g_topI (fun x5 hx5 => ?_)
    have hw := hw x5 hx5
    refine g_istore_n (lv' := [(2, iV x5), (0, rV t), (1, iV p1)]) X dX6_setInterval_19 (by decide) rfl ?_
    refine g_iload_n X dX6_setInterval_20 0 rfl ?_
    refine g_iload_n X dX6_setInterval_21 2 rfl ?_
    refine g_icmp_ne X 28 dX6_setInterval_22 (by decide) hw (fun hw => ?_) (fun hw => ?_)
    · refine g_aload_n X dX6_setInterval_28 1 rfl ?_
      refine g_callv (pc' := 32) (rest := []) rfl (fun H locs ls d qR qL => g_runV X cw_X6_62 iv_X6_record ⟨Nat.le_of_ble_eq_true rfl, Nat.le_of_ble_eq_true rfl⟩ dX6_setInterval_29 (c_X6_record l E n M1 t  _ hw) hk3 rfl rfl (Nat.le_of_ble_eq_true rfl) ⟨Nat.le_of_ble_eq_true rfl, Nat.le_of_ble_eq_true rfl⟩ qR qL) (fun M6 hw => ?_)
      refine g_aload_n X dX6_setInterval_32 1 rfl ?_
      refine g_get X (rV (gR M6 t 0)) dX6_setInterval_33 fl_X6_7 (fun _ => rfl) ⟨hk3, hw⟩ (fun hw => ?_)
      refine g_topR (fun r7 hr7 => ?_)
      have hw := hw r7 hr7
      refine g_iconst X (3 : Int32) dX6_setInterval_36 (by decide) ?_
      refine g_iload_n X dX6_setInterval_37 2 rfl ?_
      refine g_iast X dX6_setInterval_38 hw (fun hw => ?_)
      refine g_topM (fun M8 hM8 => ?_)
      have hw := hw M8 hM8
      refine g_iload_n X dX6_setInterval_39 0 rfl ?_
      exact g_iret X hr hlk hSz hOld (Nat.le_refl _) dX6_setInterval_40 hw
    · refine g_bipush X (-5 : Int32) dX6_setInterval_25 (by decide) ?_
      exact g_iret X hr hlk hSz hOld (Nat.le_refl _) dX6_setInterval_27 hw
  · refine g_bipush X (-2 : Int32) dX6_setInterval_10 (by decide) ?_
    exact g_iret X hr hlk hSz hOld (Nat.le_refl _) dX6_setInterval_12 hw
theorem dX6_equip_0 : decode cX6_equip 0 = .ok (.aload_n 0, 1) := by decide +kernel
theorem dX6_equip_1 : decode cX6_equip 1 = .ok (.iload_n 1, 1) := by decide +kernel
theorem dX6_equip_2 : decode cX6_equip 2 = .ok (.invokevirtual 77, 3) := by decide +kernel
theorem dX6_equip_5 : decode cX6_equip 5 = .ok (.ifCond .eq 5, 3) := by decide +kernel
theorem dX6_equip_8 : decode cX6_equip 8 = .ok (.iconst (-1), 1) := by decide +kernel
theorem dX6_equip_9 : decode cX6_equip 9 = .ok (.ireturn, 1) := by decide +kernel
theorem dX6_equip_10 : decode cX6_equip 10 = .ok (.iload_n 2, 1) := by decide +kernel
theorem dX6_equip_11 : decode cX6_equip 11 = .ok (.iconst 0, 1) := by decide +kernel
theorem dX6_equip_12 : decode cX6_equip 12 = .ok (.sipush 1000, 3) := by decide +kernel
theorem dX6_equip_15 : decode cX6_equip 15 = .ok (.invokestatic 50, 3) := by decide +kernel
theorem dX6_equip_18 : decode cX6_equip 18 = .ok (.ifCond .eq 12, 3) := by decide +kernel
theorem dX6_equip_21 : decode cX6_equip 21 = .ok (.iload_n 3, 1) := by decide +kernel
theorem dX6_equip_22 : decode cX6_equip 22 = .ok (.iconst 0, 1) := by decide +kernel
theorem dX6_equip_23 : decode cX6_equip 23 = .ok (.iconst 2, 1) := by decide +kernel
theorem dX6_equip_24 : decode cX6_equip 24 = .ok (.invokestatic 50, 3) := by decide +kernel
theorem dX6_equip_27 : decode cX6_equip 27 = .ok (.ifCond .ne 6, 3) := by decide +kernel
theorem dX6_equip_30 : decode cX6_equip 30 = .ok (.bipush (-2), 2) := by decide +kernel
theorem dX6_equip_32 : decode cX6_equip 32 = .ok (.ireturn, 1) := by decide +kernel
theorem dX6_equip_33 : decode cX6_equip 33 = .ok (.aload_n 0, 1) := by decide +kernel
theorem dX6_equip_34 : decode cX6_equip 34 = .ok (.iload_n 1, 1) := by decide +kernel
theorem dX6_equip_35 : decode cX6_equip 35 = .ok (.iconst 0, 1) := by decide +kernel
theorem dX6_equip_36 : decode cX6_equip 36 = .ok (.invokevirtual 54, 3) := by decide +kernel
theorem dX6_equip_39 : decode cX6_equip 39 = .ok (.istore 4, 2) := by decide +kernel
theorem dX6_equip_41 : decode cX6_equip 41 = .ok (.iload 4, 2) := by decide +kernel
theorem dX6_equip_43 : decode cX6_equip 43 = .ok (.iload_n 2, 1) := by decide +kernel
theorem dX6_equip_44 : decode cX6_equip 44 = .ok (.if_icmp .ne 16, 3) := by decide +kernel
theorem dX6_equip_47 : decode cX6_equip 47 = .ok (.aload_n 0, 1) := by decide +kernel
theorem dX6_equip_48 : decode cX6_equip 48 = .ok (.iload_n 1, 1) := by decide +kernel
theorem dX6_equip_49 : decode cX6_equip 49 = .ok (.iconst 1, 1) := by decide +kernel
theorem dX6_equip_50 : decode cX6_equip 50 = .ok (.invokevirtual 54, 3) := by decide +kernel
theorem dX6_equip_53 : decode cX6_equip 53 = .ok (.iload_n 3, 1) := by decide +kernel
theorem dX6_equip_54 : decode cX6_equip 54 = .ok (.if_icmp .ne 6, 3) := by decide +kernel
theorem dX6_equip_57 : decode cX6_equip 57 = .ok (.bipush (-5), 2) := by decide +kernel
theorem dX6_equip_59 : decode cX6_equip 59 = .ok (.ireturn, 1) := by decide +kernel
theorem dX6_equip_60 : decode cX6_equip 60 = .ok (.aload_n 0, 1) := by decide +kernel
theorem dX6_equip_61 : decode cX6_equip 61 = .ok (.invokevirtual 62, 3) := by decide +kernel
theorem dX6_equip_64 : decode cX6_equip 64 = .ok (.aload_n 0, 1) := by decide +kernel
theorem dX6_equip_65 : decode cX6_equip 65 = .ok (.getfield 7, 3) := by decide +kernel
theorem dX6_equip_68 : decode cX6_equip 68 = .ok (.bipush 12, 2) := by decide +kernel
theorem dX6_equip_70 : decode cX6_equip 70 = .ok (.bipush 10, 2) := by decide +kernel
theorem dX6_equip_72 : decode cX6_equip 72 = .ok (.iload_n 1, 1) := by decide +kernel
theorem dX6_equip_73 : decode cX6_equip 73 = .ok (.imul, 1) := by decide +kernel
theorem dX6_equip_74 : decode cX6_equip 74 = .ok (.iadd, 1) := by decide +kernel
theorem dX6_equip_75 : decode cX6_equip 75 = .ok (.iconst 0, 1) := by decide +kernel
theorem dX6_equip_76 : decode cX6_equip 76 = .ok (.iadd, 1) := by decide +kernel
theorem dX6_equip_77 : decode cX6_equip 77 = .ok (.iload_n 2, 1) := by decide +kernel
theorem dX6_equip_78 : decode cX6_equip 78 = .ok (.iastore, 1) := by decide +kernel
theorem dX6_equip_79 : decode cX6_equip 79 = .ok (.aload_n 0, 1) := by decide +kernel
theorem dX6_equip_80 : decode cX6_equip 80 = .ok (.getfield 7, 3) := by decide +kernel
theorem dX6_equip_83 : decode cX6_equip 83 = .ok (.bipush 12, 2) := by decide +kernel
theorem dX6_equip_85 : decode cX6_equip 85 = .ok (.bipush 10, 2) := by decide +kernel
theorem dX6_equip_87 : decode cX6_equip 87 = .ok (.iload_n 1, 1) := by decide +kernel
theorem dX6_equip_88 : decode cX6_equip 88 = .ok (.imul, 1) := by decide +kernel
theorem dX6_equip_89 : decode cX6_equip 89 = .ok (.iadd, 1) := by decide +kernel
theorem dX6_equip_90 : decode cX6_equip 90 = .ok (.iconst 1, 1) := by decide +kernel
theorem dX6_equip_91 : decode cX6_equip 91 = .ok (.iadd, 1) := by decide +kernel
theorem dX6_equip_92 : decode cX6_equip 92 = .ok (.iload_n 3, 1) := by decide +kernel
theorem dX6_equip_93 : decode cX6_equip 93 = .ok (.iastore, 1) := by decide +kernel
theorem dX6_equip_94 : decode cX6_equip 94 = .ok (.iload 4, 2) := by decide +kernel
theorem dX6_equip_96 : decode cX6_equip 96 = .ok (.ireturn, 1) := by decide +kernel
abbrev rmX6_equip : Room := { frames := 2, cells := 0, slots := 0, locals := 43 }
def w_X6_equip (n : Nat) (M : Mem) (t : Nat) (p1 : Int32) (p2 : Int32) (p3 : Int32) (K : Int32 → Mem → Prop) : Prop := ((t ≤ n ∧ kd t = (6, 0)) ∧ w_X6_noHead n M t p1 (fun x3 M2 => ((x3 = 0 → w_X6_in n M2 p2 (0 : Int32) (1000 : Int32) (fun x5 M4 => ((x5 = 0 → K (-2 : Int32) M4) ∧ (¬ x5 = 0 → w_X6_in n M4 p3 (0 : Int32) (2 : Int32) (fun x7 M6 => ((¬ x7 = 0 → w_X6_ofHead n M6 t p1 (0 : Int32) (fun x9 M8 => ((¬ x9 = p2 → w_X6_record n M8 t  (fun M10 => (∀ r11, r11 = gR M10 t 0 → ((r11 ≤ n ∧ (kd r11).1 = 7 ∧ vp_in (((12 : Int32) + ((10 : Int32) * p1)) + (0 : Int32)) (kd r11).2) ∧ (∀ M12, M12 = sI M10 r11 (Int32.toNatClampNeg (((12 : Int32) + ((10 : Int32) * p1)) + (0 : Int32))) p2 → (∀ r13, r13 = gR M12 t 0 → ((r13 ≤ n ∧ (kd r13).1 = 7 ∧ vp_in (((12 : Int32) + ((10 : Int32) * p1)) + (1 : Int32)) (kd r13).2) ∧ (∀ M14, M14 = sI M12 r13 (Int32.toNatClampNeg (((12 : Int32) + ((10 : Int32) * p1)) + (1 : Int32))) p3 → K x9 M14)))))))) ∧ (x9 = p2 → w_X6_ofHead n M8 t p1 (1 : Int32) (fun x16 M15 => ((¬ x16 = p3 → w_X6_record n M15 t  (fun M17 => (∀ r18, r18 = gR M17 t 0 → ((r18 ≤ n ∧ (kd r18).1 = 7 ∧ vp_in (((12 : Int32) + ((10 : Int32) * p1)) + (0 : Int32)) (kd r18).2) ∧ (∀ M19, M19 = sI M17 r18 (Int32.toNatClampNeg (((12 : Int32) + ((10 : Int32) * p1)) + (0 : Int32))) p2 → (∀ r20, r20 = gR M19 t 0 → ((r20 ≤ n ∧ (kd r20).1 = 7 ∧ vp_in (((12 : Int32) + ((10 : Int32) * p1)) + (1 : Int32)) (kd r20).2) ∧ (∀ M21, M21 = sI M19 r20 (Int32.toNatClampNeg (((12 : Int32) + ((10 : Int32) * p1)) + (1 : Int32))) p3 → K x9 M21)))))))) ∧ (x16 = p3 → K (-5 : Int32) M15))))))) ∧ (x7 = 0 → K (-2 : Int32) M6))))))) ∧ (¬ x3 = 0 → K (-1 : Int32) M2))))
set_option maxHeartbeats 4000000 in
set_option maxRecDepth 20000 in
theorem c_X6_equip (l : Launch) (E : Gl) (n : Nat) (M : Mem) (t : Nat) (p1 : Int32) (p2 : Int32) (p3 : Int32) (K : Int32 → Mem → Prop) (hw : w_X6_equip n M t p1 p2 p3 K) : CT E l yX6_equip cX6_equip 5 (some .int) rmX6_equip n M [rV t, iV p1, iV p2, iV p3] (PI E n K) := by
  refine g_met l (by decide) (Nat.le_of_ble_eq_true rfl) ?_
  intro p e s m args below meth c X hr hlk hnm hSz hOld
  change CX E p s m c _ _ RX6 at X
  unfold w_X6_equip at hw
  refine g_aload_n X dX6_equip_0 0 rfl ?_
  refine g_iload_n X dX6_equip_1 1 rfl ?_
  obtain ⟨hk1, hw⟩ := hw
  refine g_calli (pc' := 5) (rest := []) rfl (fun H locs ls d qR qL => g_runV X cw_X6_77 iv_X6_noHead ⟨Nat.le_of_ble_eq_true rfl, Nat.le_of_ble_eq_true rfl⟩ dX6_equip_2 (c_X6_noHead l E n M t p1 _ hw) hk1 rfl rfl (Nat.le_of_ble_eq_true rfl) ⟨Nat.le_of_ble_eq_true rfl, Nat.le_of_ble_eq_true rfl⟩ qR qL) (fun x3 M2 hw => ?_)
  refine g_if_eq X 10 dX6_equip_5 (by decide) hw (fun hw => ?_) (fun hw => ?_)
  · refine g_iload_n X dX6_equip_10 2 rfl ?_
    refine g_iconst X (0 : Int32) dX6_equip_11 (by decide) ?_
    refine g_sipush X (1000 : Int32) dX6_equip_12 (by decide) ?_
    refine g_calli (pc' := 18) (rest := []) rfl (fun H locs ls d qR qL => g_runS X cw_X6_50 wt_X6_in ⟨Nat.le_of_ble_eq_true rfl, Nat.le_of_ble_eq_true rfl⟩ dX6_equip_15 (c_X6_in l E n M2 p2 (0 : Int32) (1000 : Int32) _ hw) rfl rfl (Nat.le_of_ble_eq_true rfl) ⟨Nat.le_of_ble_eq_true rfl, Nat.le_of_ble_eq_true rfl⟩ qR qL) (fun x5 M4 hw => ?_)
    refine g_if_eq X 30 dX6_equip_18 (by decide) hw (fun hw => ?_) (fun hw => ?_)
    · refine g_bipush X (-2 : Int32) dX6_equip_30 (by decide) ?_
      exact g_iret X hr hlk hSz hOld (Nat.le_refl _) dX6_equip_32 hw
    · refine g_iload_n X dX6_equip_21 3 rfl ?_
      refine g_iconst X (0 : Int32) dX6_equip_22 (by decide) ?_
      refine g_iconst X (2 : Int32) dX6_equip_23 (by decide) ?_
      refine g_calli (pc' := 27) (rest := []) rfl (fun H locs ls d qR qL => g_runS X cw_X6_50 wt_X6_in ⟨Nat.le_of_ble_eq_true rfl, Nat.le_of_ble_eq_true rfl⟩ dX6_equip_24 (c_X6_in l E n M4 p3 (0 : Int32) (2 : Int32) _ hw) rfl rfl (Nat.le_of_ble_eq_true rfl) ⟨Nat.le_of_ble_eq_true rfl, Nat.le_of_ble_eq_true rfl⟩ qR qL) (fun x7 M6 hw => ?_)
      refine g_if_ne X 33 dX6_equip_27 (by decide) hw (fun hw => ?_) (fun hw => ?_)
      · refine g_aload_n X dX6_equip_33 0 rfl ?_
        refine g_iload_n X dX6_equip_34 1 rfl ?_
        refine g_iconst X (0 : Int32) dX6_equip_35 (by decide) ?_
        refine g_calli (pc' := 39) (rest := []) rfl (fun H locs ls d qR qL => g_runV X cw_X6_54 iv_X6_ofHead ⟨Nat.le_of_ble_eq_true rfl, Nat.le_of_ble_eq_true rfl⟩ dX6_equip_36 (c_X6_ofHead l E n M6 t p1 (0 : Int32) _ hw) hk1 rfl rfl (Nat.le_of_ble_eq_true rfl) ⟨Nat.le_of_ble_eq_true rfl, Nat.le_of_ble_eq_true rfl⟩ qR qL) (fun x9 M8 hw => ?_)
        refine g_istore (lv' := [(4, iV x9), (0, rV t), (1, iV p1), (2, iV p2), (3, iV p3)]) X dX6_equip_39 (by decide) rfl ?_
        refine g_iload X dX6_equip_41 0 rfl ?_
        refine g_iload_n X dX6_equip_43 3 rfl ?_
        refine g_icmp_ne X 60 dX6_equip_44 (by decide) hw (fun hw => ?_) (fun hw => ?_)
        · refine g_aload_n X dX6_equip_60 1 rfl ?_
          refine g_callv (pc' := 64) (rest := []) rfl (fun H locs ls d qR qL => g_runV X cw_X6_62 iv_X6_record ⟨Nat.le_of_ble_eq_true rfl, Nat.le_of_ble_eq_true rfl⟩ dX6_equip_61 (c_X6_record l E n M8 t  _ hw) hk1 rfl rfl (Nat.le_of_ble_eq_true rfl) ⟨Nat.le_of_ble_eq_true rfl, Nat.le_of_ble_eq_true rfl⟩ qR qL) (fun M10 hw => ?_)
          refine g_aload_n X dX6_equip_64 1 rfl ?_
          refine g_get X (rV (gR M10 t 0)) dX6_equip_65 fl_X6_7 (fun _ => rfl) ⟨hk1, hw⟩ (fun hw => ?_)
          refine g_topR (fun r11 hr11 => ?_)
          have hw := hw r11 hr11
          refine g_bipush X (12 : Int32) dX6_equip_68 (by decide) ?_
          refine g_bipush X (10 : Int32) dX6_equip_70 (by decide) ?_
          refine g_iload_n X dX6_equip_72 2 rfl ?_
          refine g_imul X dX6_equip_73 ?_
          refine g_iadd X dX6_equip_74 ?_
          refine g_iconst X (0 : Int32) dX6_equip_75 (by decide) ?_
          refine g_iadd X dX6_equip_76 ?_
          refine g_iload_n X dX6_equip_77 3 rfl ?_
          refine g_iast X dX6_equip_78 hw (fun hw => ?_)
          refine g_topM (fun M12 hM12 => ?_)
          have hw := hw M12 hM12
          refine g_aload_n X dX6_equip_79 1 rfl ?_
          refine g_get X (rV (gR M12 t 0)) dX6_equip_80 fl_X6_7 (fun _ => rfl) ⟨hk1, hw⟩ (fun hw => ?_)
          refine g_topR (fun r13 hr13 => ?_)
          have hw := hw r13 hr13
          refine g_bipush X (12 : Int32) dX6_equip_83 (by decide) ?_
          refine g_bipush X (10 : Int32) dX6_equip_85 (by decide) ?_
          refine g_iload_n X dX6_equip_87 2 rfl ?_
          refine g_imul X dX6_equip_88 ?_
          refine g_iadd X dX6_equip_89 ?_
          refine g_iconst X (1 : Int32) dX6_equip_90 (by decide) ?_
          refine g_iadd X dX6_equip_91 ?_
          refine g_iload_n X dX6_equip_92 4 rfl ?_
          refine g_iast X dX6_equip_93 hw (fun hw => ?_)
          refine g_topM (fun M14 hM14 => ?_)
          have hw := hw M14 hM14
          refine g_iload X dX6_equip_94 0 rfl ?_
          exact g_iret X hr hlk hSz hOld (Nat.le_refl _) dX6_equip_96 hw
        · refine g_aload_n X dX6_equip_47 1 rfl ?_
          refine g_iload_n X dX6_equip_48 2 rfl ?_
          refine g_iconst X (1 : Int32) dX6_equip_49 (by decide) ?_
          refine g_calli (pc' := 53) (rest := []) rfl (fun H locs ls d qR qL => g_runV X cw_X6_54 iv_X6_ofHead ⟨Nat.le_of_ble_eq_true rfl, Nat.le_of_ble_eq_true rfl⟩ dX6_equip_50 (c_X6_ofHead l E n M8 t p1 (1 : Int32) _ hw) hk1 rfl rfl (Nat.le_of_ble_eq_true rfl) ⟨Nat.le_of_ble_eq_true rfl, Nat.le_of_ble_eq_true rfl⟩ qR qL) (fun x16 M15 hw => ?_)
          refine g_iload_n X dX6_equip_53 4 rfl ?_
          refine g_icmp_ne X 60 dX6_equip_54 (by decide) hw (fun hw => ?_) (fun hw => ?_)
          · refine g_aload_n X dX6_equip_60 1 rfl ?_
            refine g_callv (pc' := 64) (rest := []) rfl (fun H locs ls d qR qL => g_runV X cw_X6_62 iv_X6_record ⟨Nat.le_of_ble_eq_true rfl, Nat.le_of_ble_eq_true rfl⟩ dX6_equip_61 (c_X6_record l E n M15 t  _ hw) hk1 rfl rfl (Nat.le_of_ble_eq_true rfl) ⟨Nat.le_of_ble_eq_true rfl, Nat.le_of_ble_eq_true rfl⟩ qR qL) (fun M17 hw => ?_)
            refine g_aload_n X dX6_equip_64 1 rfl ?_
            refine g_get X (rV (gR M17 t 0)) dX6_equip_65 fl_X6_7 (fun _ => rfl) ⟨hk1, hw⟩ (fun hw => ?_)
            refine g_topR (fun r18 hr18 => ?_)
            have hw := hw r18 hr18
            refine g_bipush X (12 : Int32) dX6_equip_68 (by decide) ?_
            refine g_bipush X (10 : Int32) dX6_equip_70 (by decide) ?_
            refine g_iload_n X dX6_equip_72 2 rfl ?_
            refine g_imul X dX6_equip_73 ?_
            refine g_iadd X dX6_equip_74 ?_
            refine g_iconst X (0 : Int32) dX6_equip_75 (by decide) ?_
            refine g_iadd X dX6_equip_76 ?_
            refine g_iload_n X dX6_equip_77 3 rfl ?_
            refine g_iast X dX6_equip_78 hw (fun hw => ?_)
            refine g_topM (fun M19 hM19 => ?_)
            have hw := hw M19 hM19
            refine g_aload_n X dX6_equip_79 1 rfl ?_
            refine g_get X (rV (gR M19 t 0)) dX6_equip_80 fl_X6_7 (fun _ => rfl) ⟨hk1, hw⟩ (fun hw => ?_)
            refine g_topR (fun r20 hr20 => ?_)
            have hw := hw r20 hr20
            refine g_bipush X (12 : Int32) dX6_equip_83 (by decide) ?_
            refine g_bipush X (10 : Int32) dX6_equip_85 (by decide) ?_
            refine g_iload_n X dX6_equip_87 2 rfl ?_
            refine g_imul X dX6_equip_88 ?_
            refine g_iadd X dX6_equip_89 ?_
            refine g_iconst X (1 : Int32) dX6_equip_90 (by decide) ?_
            refine g_iadd X dX6_equip_91 ?_
            refine g_iload_n X dX6_equip_92 4 rfl ?_
            refine g_iast X dX6_equip_93 hw (fun hw => ?_)
            refine g_topM (fun M21 hM21 => ?_)
            have hw := hw M21 hM21
            refine g_iload X dX6_equip_94 0 rfl ?_
            exact g_iret X hr hlk hSz hOld (Nat.le_refl _) dX6_equip_96 hw
          · refine g_bipush X (-5 : Int32) dX6_equip_57 (by decide) ?_
            exact g_iret X hr hlk hSz hOld (Nat.le_refl _) dX6_equip_59 hw
      · refine g_bipush X (-2 : Int32) dX6_equip_30 (by decide) ?_
        exact g_iret X hr hlk hSz hOld (Nat.le_refl _) dX6_equip_32 hw
  · refine g_iconst X (-1 : Int32) dX6_equip_8 (by decide) ?_
    exact g_iret X hr hlk hSz hOld (Nat.le_refl _) dX6_equip_9 hw
theorem dX6_decayed_0 : decode cX6_decayed 0 = .ok (.dload_n 1, 1) := by decide +kernel
theorem dX6_decayed_1 : decode cX6_decayed 1 = .ok (.dstore 7, 2) := by decide +kernel
theorem dX6_decayed_3 : decode cX6_decayed 3 = .ok (.iconst 0, 1) := by decide +kernel
theorem dX6_decayed_4 : decode cX6_decayed 4 = .ok (.istore 9, 2) := by decide +kernel
theorem dX6_decayed_6 : decode cX6_decayed 6 = .ok (.iload 9, 2) := by decide +kernel
theorem dX6_decayed_8 : decode cX6_decayed 8 = .ok (.iload 6, 2) := by decide +kernel
theorem dX6_decayed_10 : decode cX6_decayed 10 = .ok (.if_icmp .ge 37, 3) := by decide +kernel
theorem dX6_decayed_13 : decode cX6_decayed 13 = .ok (.dload 7, 2) := by decide +kernel
theorem dX6_decayed_15 : decode cX6_decayed 15 = .ok (.dload 7, 2) := by decide +kernel
theorem dX6_decayed_17 : decode cX6_decayed 17 = .ok (.iload_n 3, 1) := by decide +kernel
theorem dX6_decayed_18 : decode cX6_decayed 18 = .ok (.i2d, 1) := by decide +kernel
theorem dX6_decayed_19 : decode cX6_decayed 19 = .ok (.dmul, 1) := by decide +kernel
theorem dX6_decayed_20 : decode cX6_decayed 20 = .ok (.dload 4, 2) := by decide +kernel
theorem dX6_decayed_22 : decode cX6_decayed 22 = .ok (.ddiv, 1) := by decide +kernel
theorem dX6_decayed_23 : decode cX6_decayed 23 = .ok (.dsub, 1) := by decide +kernel
theorem dX6_decayed_24 : decode cX6_decayed 24 = .ok (.dstore 7, 2) := by decide +kernel
theorem dX6_decayed_26 : decode cX6_decayed 26 = .ok (.dload 7, 2) := by decide +kernel
theorem dX6_decayed_28 : decode cX6_decayed 28 = .ok (.dconst 0, 1) := by decide +kernel
theorem dX6_decayed_29 : decode cX6_decayed 29 = .ok (.dcmp .g, 1) := by decide +kernel
theorem dX6_decayed_30 : decode cX6_decayed 30 = .ok (.ifCond .ge 7, 3) := by decide +kernel
theorem dX6_decayed_33 : decode cX6_decayed 33 = .ok (.dconst 0, 1) := by decide +kernel
theorem dX6_decayed_34 : decode cX6_decayed 34 = .ok (.goto 5, 3) := by decide +kernel
theorem dX6_decayed_37 : decode cX6_decayed 37 = .ok (.dload 7, 2) := by decide +kernel
theorem dX6_decayed_39 : decode cX6_decayed 39 = .ok (.dstore 7, 2) := by decide +kernel
theorem dX6_decayed_41 : decode cX6_decayed 41 = .ok (.iinc 9 1, 3) := by decide +kernel
theorem dX6_decayed_44 : decode cX6_decayed 44 = .ok (.goto (-38), 3) := by decide +kernel
theorem dX6_decayed_47 : decode cX6_decayed 47 = .ok (.dload 7, 2) := by decide +kernel
theorem dX6_decayed_49 : decode cX6_decayed 49 = .ok (.dreturn, 1) := by decide +kernel
abbrev rmX6_decayed : Room := { frames := 0, cells := 0, slots := 0, locals := 0 }
def w_X6_decayed_L6 (n : Nat) (K : UInt64 → Mem → Prop) : Nat → Mem → Int32 → UInt64 → Int32 → UInt64 → Int32 → Prop
  | 0, _, _, _, _, _, _ => False
  | fuel + 1, M, a3, g4, a6, g7, a9 => ((a6 ≤ a9 → K g7 M) ∧ (¬ a6 ≤ a9 → (vf_n64 (FP.dmul g7 (FP.i2d a3)) ∧ (∀ z1, z1 = FP.dmul g7 (FP.i2d a3) → (vf_n64 (FP.ddiv z1 g4) ∧ (∀ z2, z2 = FP.ddiv z1 g4 → (vf_n64 (FP.dsub g7 z2) ∧ (∀ z3, z3 = FP.dsub g7 z2 → ((0 ≤ (Op.cmpValue (FP.dcmp z3 FP.dconst0) CmpOp.g) → (∀ x4, x4 = a9 + (1 : Int32) → w_X6_decayed_L6 n K fuel M a3 g4 a6 z3 x4)) ∧ (¬ 0 ≤ (Op.cmpValue (FP.dcmp z3 FP.dconst0) CmpOp.g) → (∀ x5, x5 = a9 + (1 : Int32) → w_X6_decayed_L6 n K fuel M a3 g4 a6 FP.dconst0 x5)))))))))))
def w_X6_decayed (n : Nat) (M : Mem) (t : Nat) (p1 : UInt64) (p2 : Int32) (p3 : UInt64) (p4 : Int32) (K : UInt64 → Mem → Prop) : Prop := w_X6_decayed_L6 n K 4000 M p2 p3 p4 p1 (0 : Int32)
set_option maxHeartbeats 4000000 in
set_option maxRecDepth 20000 in
theorem c_X6_decayed (l : Launch) (E : Gl) (n : Nat) (M : Mem) (t : Nat) (p1 : UInt64) (p2 : Int32) (p3 : UInt64) (p4 : Int32) (K : UInt64 → Mem → Prop) (hw : w_X6_decayed n M t p1 p2 p3 p4 K) : CT E l yX6_decayed cX6_decayed 10 (some .double) rmX6_decayed n M [rV t, dV p1, iV p2, dV p3, iV p4] (PD E n K) := by
  refine g_met l (by decide) (Nat.le_of_ble_eq_true rfl) ?_
  intro p e s m args below meth c X hr hlk hnm hSz hOld
  change CX E p s m c _ _ RX6 at X
  have L6 : ∀ (fuel : Nat) (M : Mem) (a3 : Int32) (g4 : UInt64) (a6 : Int32) (g7 : UInt64) (a9 : Int32), w_X6_decayed_L6 n K fuel M a3 g4 a6 g7 a9 → G E p l e rmX6_decayed s m args below meth c 10 n M 0 0 (MQD lw_cs below (PD E n K) args s rmX6_decayed.cells rmX6_decayed.slots (Ab E)) 6 [(3, iV a3), (4, dV g4), (6, iV a6), (7, dV g7), (9, iV a9)] [] := by
    intro fuel
    induction fuel with
    | zero => intro M a3 g4 a6 g7 a9 hw; exact False.elim hw
    | succ fuel ih =>
      intro M a3 g4 a6 g7 a9 hw
      unfold w_X6_decayed_L6 at hw
      refine g_iload X dX6_decayed_6 4 rfl ?_
      refine g_iload X dX6_decayed_8 2 rfl ?_
      refine g_icmp_ge X 47 dX6_decayed_10 (by decide) hw (fun hw => ?_) (fun hw => ?_)
      · refine g_dload X dX6_decayed_47 3 rfl ?_
        exact g_dret X hr hlk hSz hOld (Nat.le_refl _) dX6_decayed_49 hw
      · refine g_dload X dX6_decayed_13 3 rfl ?_
        refine g_dload X dX6_decayed_15 3 rfl ?_
        refine g_iload_n X dX6_decayed_17 0 rfl ?_
        refine g_i2d X dX6_decayed_18 ?_
        refine g_dmul X dX6_decayed_19 hw (fun hw => ?_)
        refine g_topD (fun z1 hz1 => ?_)
        have hw := hw z1 hz1
        refine g_dload X dX6_decayed_20 1 rfl ?_
        refine g_ddiv X dX6_decayed_22 hw (fun hw => ?_)
        refine g_topD (fun z2 hz2 => ?_)
        have hw := hw z2 hz2
        refine g_dsub X dX6_decayed_23 hw (fun hw => ?_)
        refine g_topD (fun z3 hz3 => ?_)
        have hw := hw z3 hz3
        refine g_dstore (lv' := [(7, dV z3), (3, iV a3), (4, dV g4), (6, iV a6), (9, iV a9)]) X dX6_decayed_24 (by decide) rfl ?_
        refine g_dload X dX6_decayed_26 0 rfl ?_
        refine g_dconst0 X dX6_decayed_28 ?_
        refine g_dcmp X dX6_decayed_29 ?_
        refine g_if_ge X 37 dX6_decayed_30 (by decide) hw (fun hw => ?_) (fun hw => ?_)
        · refine g_dload X dX6_decayed_37 0 rfl ?_
          refine g_dstore (lv' := [(7, dV z3), (3, iV a3), (4, dV g4), (6, iV a6), (9, iV a9)]) X dX6_decayed_39 (by decide) rfl ?_
          obtain ⟨x4, hx4⟩ : ∃ y : Int32, y = a9 + (1 : Int32) := ⟨_, rfl⟩
          have hw := hw x4 hx4
          refine g_iinc (lv' := [(9, iV x4), (7, dV z3), (3, iV a3), (4, dV g4), (6, iV a6)]) X x4 dX6_decayed_41 4 rfl (by rw [hx4]; rfl) (by decide) rfl ?_
          refine g_goto X 6 dX6_decayed_44 (by decide) ?_
          refine g_lvsub (lv' := [(3, iV a3), (4, dV g4), (6, iV a6), (7, dV z3), (9, iV x4)]) [2, 3, 4, 1, 0] rfl ?_
          exact ih _ _ _ _ _ _ hw
        · refine g_dconst0 X dX6_decayed_33 ?_
          refine g_goto X 39 dX6_decayed_34 (by decide) ?_
          refine g_dstore (lv' := [(7, dV FP.dconst0), (3, iV a3), (4, dV g4), (6, iV a6), (9, iV a9)]) X dX6_decayed_39 (by decide) rfl ?_
          obtain ⟨x5, hx5⟩ : ∃ y : Int32, y = a9 + (1 : Int32) := ⟨_, rfl⟩
          have hw := hw x5 hx5
          refine g_iinc (lv' := [(9, iV x5), (7, dV FP.dconst0), (3, iV a3), (4, dV g4), (6, iV a6)]) X x5 dX6_decayed_41 4 rfl (by rw [hx5]; rfl) (by decide) rfl ?_
          refine g_goto X 6 dX6_decayed_44 (by decide) ?_
          refine g_lvsub (lv' := [(3, iV a3), (4, dV g4), (6, iV a6), (7, dV FP.dconst0), (9, iV x5)]) [2, 3, 4, 1, 0] rfl ?_
          exact ih _ _ _ _ _ _ hw
  unfold w_X6_decayed at hw
  refine g_dload_n X dX6_decayed_0 1 rfl ?_
  refine g_dstore (lv' := [(7, dV p1), (0, rV t), (1, dV p1), (3, iV p2), (4, dV p3), (6, iV p4)]) X dX6_decayed_1 (by decide) rfl ?_
  refine g_iconst X (0 : Int32) dX6_decayed_3 (by decide) ?_
  refine g_istore (lv' := [(9, iV (0 : Int32)), (7, dV p1), (0, rV t), (1, dV p1), (3, iV p2), (4, dV p3), (6, iV p4)]) X dX6_decayed_4 (by decide) rfl ?_
  refine g_lvsub (lv' := [(3, iV p2), (4, dV p3), (6, iV p4), (7, dV p1), (9, iV (0 : Int32))]) [4, 5, 6, 1, 0] rfl ?_
  exact L6 _ _ _ _ _ _ _ hw
theorem dX6_calibrate_0 : decode cX6_calibrate 0 = .ok (.aload_n 0, 1) := by decide +kernel
theorem dX6_calibrate_1 : decode cX6_calibrate 1 = .ok (.iload_n 1, 1) := by decide +kernel
theorem dX6_calibrate_2 : decode cX6_calibrate 2 = .ok (.invokevirtual 77, 3) := by decide +kernel
theorem dX6_calibrate_5 : decode cX6_calibrate 5 = .ok (.ifCond .eq 5, 3) := by decide +kernel
theorem dX6_calibrate_8 : decode cX6_calibrate 8 = .ok (.iconst (-1), 1) := by decide +kernel
theorem dX6_calibrate_9 : decode cX6_calibrate 9 = .ok (.ireturn, 1) := by decide +kernel
theorem dX6_calibrate_10 : decode cX6_calibrate 10 = .ok (.iload_n 2, 1) := by decide +kernel
theorem dX6_calibrate_11 : decode cX6_calibrate 11 = .ok (.iconst 1, 1) := by decide +kernel
theorem dX6_calibrate_12 : decode cX6_calibrate 12 = .ok (.ldc 81, 2) := by decide +kernel
theorem dX6_calibrate_14 : decode cX6_calibrate 14 = .ok (.invokestatic 50, 3) := by decide +kernel
theorem dX6_calibrate_17 : decode cX6_calibrate 17 = .ok (.ifCond .ne 6, 3) := by decide +kernel
theorem dX6_calibrate_20 : decode cX6_calibrate 20 = .ok (.bipush (-2), 2) := by decide +kernel
theorem dX6_calibrate_22 : decode cX6_calibrate 22 = .ok (.ireturn, 1) := by decide +kernel
theorem dX6_calibrate_23 : decode cX6_calibrate 23 = .ok (.aload_n 0, 1) := by decide +kernel
theorem dX6_calibrate_24 : decode cX6_calibrate 24 = .ok (.iload_n 1, 1) := by decide +kernel
theorem dX6_calibrate_25 : decode cX6_calibrate 25 = .ok (.invokevirtual 82, 3) := by decide +kernel
theorem dX6_calibrate_28 : decode cX6_calibrate 28 = .ok (.ifCond .lt 6, 3) := by decide +kernel
theorem dX6_calibrate_31 : decode cX6_calibrate 31 = .ok (.bipush (-4), 2) := by decide +kernel
theorem dX6_calibrate_33 : decode cX6_calibrate 33 = .ok (.ireturn, 1) := by decide +kernel
theorem dX6_calibrate_34 : decode cX6_calibrate 34 = .ok (.aload_n 0, 1) := by decide +kernel
theorem dX6_calibrate_35 : decode cX6_calibrate 35 = .ok (.invokevirtual 62, 3) := by decide +kernel
theorem dX6_calibrate_38 : decode cX6_calibrate 38 = .ok (.aload_n 0, 1) := by decide +kernel
theorem dX6_calibrate_39 : decode cX6_calibrate 39 = .ok (.getfield 7, 3) := by decide +kernel
theorem dX6_calibrate_42 : decode cX6_calibrate 42 = .ok (.iconst 0, 1) := by decide +kernel
theorem dX6_calibrate_43 : decode cX6_calibrate 43 = .ok (.iaload, 1) := by decide +kernel
theorem dX6_calibrate_44 : decode cX6_calibrate 44 = .ok (.iconst 1, 1) := by decide +kernel
theorem dX6_calibrate_45 : decode cX6_calibrate 45 = .ok (.isub, 1) := by decide +kernel
theorem dX6_calibrate_46 : decode cX6_calibrate 46 = .ok (.istore_n 3, 1) := by decide +kernel
theorem dX6_calibrate_47 : decode cX6_calibrate 47 = .ok (.aload_n 0, 1) := by decide +kernel
theorem dX6_calibrate_48 : decode cX6_calibrate 48 = .ok (.aload_n 0, 1) := by decide +kernel
theorem dX6_calibrate_49 : decode cX6_calibrate 49 = .ok (.getfield 19, 3) := by decide +kernel
theorem dX6_calibrate_52 : decode cX6_calibrate 52 = .ok (.iconst 0, 1) := by decide +kernel
theorem dX6_calibrate_53 : decode cX6_calibrate 53 = .ok (.daload, 1) := by decide +kernel
theorem dX6_calibrate_54 : decode cX6_calibrate 54 = .ok (.iload_n 2, 1) := by decide +kernel
theorem dX6_calibrate_55 : decode cX6_calibrate 55 = .ok (.ldc2_w 86, 3) := by decide +kernel
theorem dX6_calibrate_58 : decode cX6_calibrate 58 = .ok (.iload_n 3, 1) := by decide +kernel
theorem dX6_calibrate_59 : decode cX6_calibrate 59 = .ok (.invokevirtual 88, 3) := by decide +kernel
theorem dX6_calibrate_62 : decode cX6_calibrate 62 = .ok (.dstore 4, 2) := by decide +kernel
theorem dX6_calibrate_64 : decode cX6_calibrate 64 = .ok (.aload_n 0, 1) := by decide +kernel
theorem dX6_calibrate_65 : decode cX6_calibrate 65 = .ok (.getfield 19, 3) := by decide +kernel
theorem dX6_calibrate_68 : decode cX6_calibrate 68 = .ok (.iconst 0, 1) := by decide +kernel
theorem dX6_calibrate_69 : decode cX6_calibrate 69 = .ok (.daload, 1) := by decide +kernel
theorem dX6_calibrate_70 : decode cX6_calibrate 70 = .ok (.dload 4, 2) := by decide +kernel
theorem dX6_calibrate_72 : decode cX6_calibrate 72 = .ok (.dsub, 1) := by decide +kernel
theorem dX6_calibrate_73 : decode cX6_calibrate 73 = .ok (.ldc2_w 92, 3) := by decide +kernel
theorem dX6_calibrate_76 : decode cX6_calibrate 76 = .ok (.dmul, 1) := by decide +kernel
theorem dX6_calibrate_77 : decode cX6_calibrate 77 = .ok (.iload_n 3, 1) := by decide +kernel
theorem dX6_calibrate_78 : decode cX6_calibrate 78 = .ok (.i2d, 1) := by decide +kernel
theorem dX6_calibrate_79 : decode cX6_calibrate 79 = .ok (.ddiv, 1) := by decide +kernel
theorem dX6_calibrate_80 : decode cX6_calibrate 80 = .ok (.dstore 6, 2) := by decide +kernel
theorem dX6_calibrate_82 : decode cX6_calibrate 82 = .ok (.aload_n 0, 1) := by decide +kernel
theorem dX6_calibrate_83 : decode cX6_calibrate 83 = .ok (.getfield 19, 3) := by decide +kernel
theorem dX6_calibrate_86 : decode cX6_calibrate 86 = .ok (.iconst 3, 1) := by decide +kernel
theorem dX6_calibrate_87 : decode cX6_calibrate 87 = .ok (.bipush 12, 2) := by decide +kernel
theorem dX6_calibrate_89 : decode cX6_calibrate 89 = .ok (.iload_n 1, 1) := by decide +kernel
theorem dX6_calibrate_90 : decode cX6_calibrate 90 = .ok (.imul, 1) := by decide +kernel
theorem dX6_calibrate_91 : decode cX6_calibrate 91 = .ok (.iadd, 1) := by decide +kernel
theorem dX6_calibrate_92 : decode cX6_calibrate 92 = .ok (.iconst 1, 1) := by decide +kernel
theorem dX6_calibrate_93 : decode cX6_calibrate 93 = .ok (.iadd, 1) := by decide +kernel
theorem dX6_calibrate_94 : decode cX6_calibrate 94 = .ok (.dload 6, 2) := by decide +kernel
theorem dX6_calibrate_96 : decode cX6_calibrate 96 = .ok (.dload 6, 2) := by decide +kernel
theorem dX6_calibrate_98 : decode cX6_calibrate 98 = .ok (.aload_n 0, 1) := by decide +kernel
theorem dX6_calibrate_99 : decode cX6_calibrate 99 = .ok (.iload_n 1, 1) := by decide +kernel
theorem dX6_calibrate_100 : decode cX6_calibrate 100 = .ok (.invokevirtual 94, 3) := by decide +kernel
theorem dX6_calibrate_103 : decode cX6_calibrate 103 = .ok (.dmul, 1) := by decide +kernel
theorem dX6_calibrate_104 : decode cX6_calibrate 104 = .ok (.ddiv, 1) := by decide +kernel
theorem dX6_calibrate_105 : decode cX6_calibrate 105 = .ok (.dastore, 1) := by decide +kernel
theorem dX6_calibrate_106 : decode cX6_calibrate 106 = .ok (.aload_n 0, 1) := by decide +kernel
theorem dX6_calibrate_107 : decode cX6_calibrate 107 = .ok (.iload_n 1, 1) := by decide +kernel
theorem dX6_calibrate_108 : decode cX6_calibrate 108 = .ok (.iconst 2, 1) := by decide +kernel
theorem dX6_calibrate_109 : decode cX6_calibrate 109 = .ok (.invokevirtual 54, 3) := by decide +kernel
theorem dX6_calibrate_112 : decode cX6_calibrate 112 = .ok (.istore 8, 2) := by decide +kernel
theorem dX6_calibrate_114 : decode cX6_calibrate 114 = .ok (.aload_n 0, 1) := by decide +kernel
theorem dX6_calibrate_115 : decode cX6_calibrate 115 = .ok (.getfield 7, 3) := by decide +kernel
theorem dX6_calibrate_118 : decode cX6_calibrate 118 = .ok (.bipush 12, 2) := by decide +kernel
theorem dX6_calibrate_120 : decode cX6_calibrate 120 = .ok (.bipush 10, 2) := by decide +kernel
theorem dX6_calibrate_122 : decode cX6_calibrate 122 = .ok (.iload_n 1, 1) := by decide +kernel
theorem dX6_calibrate_123 : decode cX6_calibrate 123 = .ok (.imul, 1) := by decide +kernel
theorem dX6_calibrate_124 : decode cX6_calibrate 124 = .ok (.iadd, 1) := by decide +kernel
theorem dX6_calibrate_125 : decode cX6_calibrate 125 = .ok (.iconst 2, 1) := by decide +kernel
theorem dX6_calibrate_126 : decode cX6_calibrate 126 = .ok (.iadd, 1) := by decide +kernel
theorem dX6_calibrate_127 : decode cX6_calibrate 127 = .ok (.iconst 0, 1) := by decide +kernel
theorem dX6_calibrate_128 : decode cX6_calibrate 128 = .ok (.iastore, 1) := by decide +kernel
theorem dX6_calibrate_129 : decode cX6_calibrate 129 = .ok (.iload 8, 2) := by decide +kernel
theorem dX6_calibrate_131 : decode cX6_calibrate 131 = .ok (.ireturn, 1) := by decide +kernel
abbrev rmX6_calibrate : Room := { frames := 2, cells := 0, slots := 0, locals := 43 }
def w_X6_calibrate (n : Nat) (M : Mem) (t : Nat) (p1 : Int32) (p2 : Int32) (K : Int32 → Mem → Prop) : Prop := ((t ≤ n ∧ kd t = (6, 0)) ∧ w_X6_noHead n M t p1 (fun x3 M2 => ((x3 = 0 → w_X6_in n M2 p2 (1 : Int32) (99999 : Int32) (fun x5 M4 => ((¬ x5 = 0 → w_X6_partOn n M4 t p1 (fun x7 M6 => ((x7 < 0 → w_X6_record n M6 t  (fun M8 => (∀ r9, r9 = gR M8 t 0 → ((r9 ≤ n ∧ (kd r9).1 = 7 ∧ vp_in (0 : Int32) (kd r9).2) ∧ (∀ x10, x10 = gI M8 r9 (Int32.toNatClampNeg (0 : Int32)) → (∀ x11, x11 = x10 - (1 : Int32) → (∀ r12, r12 = gR M8 t 3 → ((r12 ≤ n ∧ (kd r12).1 = 8 ∧ vp_in (0 : Int32) (kd r12).2) ∧ (∀ z13, z13 = gD M8 r12 (Int32.toNatClampNeg (0 : Int32)) → w_X6_decayed n M8 t z13 p2 (4681608360884174848 : UInt64) x11 (fun z15 M14 => (∀ r16, r16 = gR M14 t 3 → ((r16 ≤ n ∧ (kd r16).1 = 8 ∧ vp_in (0 : Int32) (kd r16).2) ∧ (∀ z17, z17 = gD M14 r16 (Int32.toNatClampNeg (0 : Int32)) → (vf_n64 (FP.dsub z17 z15) ∧ (∀ z18, z18 = FP.dsub z17 z15 → (vf_n64 (FP.dmul z18 (4636737291354636288 : UInt64)) ∧ (∀ z19, z19 = FP.dmul z18 (4636737291354636288 : UInt64) → (vf_n64 (FP.ddiv z19 (FP.i2d x11)) ∧ (∀ z20, z20 = FP.ddiv z19 (FP.i2d x11) → (∀ r21, r21 = gR M14 t 3 → w_X6_gain n M14 t p1 (fun z23 M22 => (vf_n64 (FP.dmul z20 z23) ∧ (∀ z24, z24 = FP.dmul z20 z23 → (vf_n64 (FP.ddiv z20 z24) ∧ (∀ z25, z25 = FP.ddiv z20 z24 → ((r21 ≤ n ∧ (kd r21).1 = 8 ∧ vp_in (((3 : Int32) + ((12 : Int32) * p1)) + (1 : Int32)) (kd r21).2) ∧ (∀ M26, M26 = sD M22 r21 (Int32.toNatClampNeg (((3 : Int32) + ((12 : Int32) * p1)) + (1 : Int32))) z25 → w_X6_ofHead n M26 t p1 (2 : Int32) (fun x28 M27 => (∀ r29, r29 = gR M27 t 0 → ((r29 ≤ n ∧ (kd r29).1 = 7 ∧ vp_in (((12 : Int32) + ((10 : Int32) * p1)) + (2 : Int32)) (kd r29).2) ∧ (∀ M30, M30 = sI M27 r29 (Int32.toNatClampNeg (((12 : Int32) + ((10 : Int32) * p1)) + (2 : Int32))) (0 : Int32) → K x28 M30))))))))))))))))))))))))))))))) ∧ (¬ x7 < 0 → K (-4 : Int32) M6)))) ∧ (x5 = 0 → K (-2 : Int32) M4)))) ∧ (¬ x3 = 0 → K (-1 : Int32) M2))))
set_option maxHeartbeats 4000000 in
set_option maxRecDepth 20000 in
theorem c_X6_calibrate (l : Launch) (E : Gl) (n : Nat) (M : Mem) (t : Nat) (p1 : Int32) (p2 : Int32) (K : Int32 → Mem → Prop) (hw : w_X6_calibrate n M t p1 p2 K) : CT E l yX6_calibrate cX6_calibrate 9 (some .int) rmX6_calibrate n M [rV t, iV p1, iV p2] (PI E n K) := by
  refine g_met l (by decide) (Nat.le_of_ble_eq_true rfl) ?_
  intro p e s m args below meth c X hr hlk hnm hSz hOld
  change CX E p s m c _ _ RX6 at X
  unfold w_X6_calibrate at hw
  refine g_aload_n X dX6_calibrate_0 0 rfl ?_
  refine g_iload_n X dX6_calibrate_1 1 rfl ?_
  obtain ⟨hk1, hw⟩ := hw
  refine g_calli (pc' := 5) (rest := []) rfl (fun H locs ls d qR qL => g_runV X cw_X6_77 iv_X6_noHead ⟨Nat.le_of_ble_eq_true rfl, Nat.le_of_ble_eq_true rfl⟩ dX6_calibrate_2 (c_X6_noHead l E n M t p1 _ hw) hk1 rfl rfl (Nat.le_of_ble_eq_true rfl) ⟨Nat.le_of_ble_eq_true rfl, Nat.le_of_ble_eq_true rfl⟩ qR qL) (fun x3 M2 hw => ?_)
  refine g_if_eq X 10 dX6_calibrate_5 (by decide) hw (fun hw => ?_) (fun hw => ?_)
  · refine g_iload_n X dX6_calibrate_10 2 rfl ?_
    refine g_iconst X (1 : Int32) dX6_calibrate_11 (by decide) ?_
    refine g_ldc X (99999 : Int32) dX6_calibrate_12 wk_X6_81 ?_
    refine g_calli (pc' := 17) (rest := []) rfl (fun H locs ls d qR qL => g_runS X cw_X6_50 wt_X6_in ⟨Nat.le_of_ble_eq_true rfl, Nat.le_of_ble_eq_true rfl⟩ dX6_calibrate_14 (c_X6_in l E n M2 p2 (1 : Int32) (99999 : Int32) _ hw) rfl rfl (Nat.le_of_ble_eq_true rfl) ⟨Nat.le_of_ble_eq_true rfl, Nat.le_of_ble_eq_true rfl⟩ qR qL) (fun x5 M4 hw => ?_)
    refine g_if_ne X 23 dX6_calibrate_17 (by decide) hw (fun hw => ?_) (fun hw => ?_)
    · refine g_aload_n X dX6_calibrate_23 0 rfl ?_
      refine g_iload_n X dX6_calibrate_24 1 rfl ?_
      refine g_calli (pc' := 28) (rest := []) rfl (fun H locs ls d qR qL => g_runV X cw_X6_82 iv_X6_partOn ⟨Nat.le_of_ble_eq_true rfl, Nat.le_of_ble_eq_true rfl⟩ dX6_calibrate_25 (c_X6_partOn l E n M4 t p1 _ hw) hk1 rfl rfl (Nat.le_of_ble_eq_true rfl) ⟨Nat.le_of_ble_eq_true rfl, Nat.le_of_ble_eq_true rfl⟩ qR qL) (fun x7 M6 hw => ?_)
      refine g_if_lt X 34 dX6_calibrate_28 (by decide) hw (fun hw => ?_) (fun hw => ?_)
      · refine g_aload_n X dX6_calibrate_34 0 rfl ?_
        refine g_callv (pc' := 38) (rest := []) rfl (fun H locs ls d qR qL => g_runV X cw_X6_62 iv_X6_record ⟨Nat.le_of_ble_eq_true rfl, Nat.le_of_ble_eq_true rfl⟩ dX6_calibrate_35 (c_X6_record l E n M6 t  _ hw) hk1 rfl rfl (Nat.le_of_ble_eq_true rfl) ⟨Nat.le_of_ble_eq_true rfl, Nat.le_of_ble_eq_true rfl⟩ qR qL) (fun M8 hw => ?_)
        refine g_aload_n X dX6_calibrate_38 0 rfl ?_
        refine g_get X (rV (gR M8 t 0)) dX6_calibrate_39 fl_X6_7 (fun _ => rfl) ⟨hk1, hw⟩ (fun hw => ?_)
        refine g_topR (fun r9 hr9 => ?_)
        have hw := hw r9 hr9
        refine g_iconst X (0 : Int32) dX6_calibrate_42 (by decide) ?_
        refine g_iald X dX6_calibrate_43 hw (fun hw => ?_)
        refine g_topI (fun x10 hx10 => ?_)
        have hw := hw x10 hx10
        refine g_iconst X (1 : Int32) dX6_calibrate_44 (by decide) ?_
        refine g_isub X dX6_calibrate_45 ?_
        refine g_topI (fun x11 hx11 => ?_)
        have hw := hw x11 hx11
        refine g_istore_n (lv' := [(3, iV x11), (0, rV t), (1, iV p1), (2, iV p2)]) X dX6_calibrate_46 (by decide) rfl ?_
        refine g_aload_n X dX6_calibrate_47 1 rfl ?_
        refine g_aload_n X dX6_calibrate_48 1 rfl ?_
        refine g_get X (rV (gR M8 t 3)) dX6_calibrate_49 fl_X6_19 (fun _ => rfl) ⟨hk1, hw⟩ (fun hw => ?_)
        refine g_topR (fun r12 hr12 => ?_)
        have hw := hw r12 hr12
        refine g_iconst X (0 : Int32) dX6_calibrate_52 (by decide) ?_
        refine g_dald X dX6_calibrate_53 hw (fun hw => ?_)
        refine g_topD (fun z13 hz13 => ?_)
        have hw := hw z13 hz13
        refine g_iload_n X dX6_calibrate_54 3 rfl ?_
        refine g_ldcD X (4681608360884174848 : UInt64) dX6_calibrate_55 wk_X6_86 ?_
        refine g_iload_n X dX6_calibrate_58 0 rfl ?_
        refine g_calld (pc' := 62) (rest := []) rfl (fun H locs ls d qR qL => g_runV X cw_X6_88 iv_X6_decayed ⟨Nat.le_of_ble_eq_true rfl, Nat.le_of_ble_eq_true rfl⟩ dX6_calibrate_59 (c_X6_decayed l E n M8 t z13 p2 (4681608360884174848 : UInt64) x11 _ hw) hk1 rfl rfl (Nat.le_of_ble_eq_true rfl) ⟨Nat.le_of_ble_eq_true rfl, Nat.le_of_ble_eq_true rfl⟩ qR qL) (fun z15 M14 hw => ?_)
        refine g_dstore (lv' := [(4, dV z15), (3, iV x11), (0, rV t), (1, iV p1), (2, iV p2)]) X dX6_calibrate_62 (by decide) rfl ?_
        refine g_aload_n X dX6_calibrate_64 2 rfl ?_
        refine g_get X (rV (gR M14 t 3)) dX6_calibrate_65 fl_X6_19 (fun _ => rfl) ⟨hk1, hw⟩ (fun hw => ?_)
        refine g_topR (fun r16 hr16 => ?_)
        have hw := hw r16 hr16
        refine g_iconst X (0 : Int32) dX6_calibrate_68 (by decide) ?_
        refine g_dald X dX6_calibrate_69 hw (fun hw => ?_)
        refine g_topD (fun z17 hz17 => ?_)
        have hw := hw z17 hz17
        refine g_dload X dX6_calibrate_70 0 rfl ?_
        refine g_dsub X dX6_calibrate_72 hw (fun hw => ?_)
        refine g_topD (fun z18 hz18 => ?_)
        have hw := hw z18 hz18
        refine g_ldcD X (4636737291354636288 : UInt64) dX6_calibrate_73 wk_X6_92 ?_
        refine g_dmul X dX6_calibrate_76 hw (fun hw => ?_)
        refine g_topD (fun z19 hz19 => ?_)
        have hw := hw z19 hz19
        refine g_iload_n X dX6_calibrate_77 1 rfl ?_
        refine g_i2d X dX6_calibrate_78 ?_
        refine g_ddiv X dX6_calibrate_79 hw (fun hw => ?_)
        refine g_topD (fun z20 hz20 => ?_)
        have hw := hw z20 hz20
        refine g_dstore (lv' := [(6, dV z20), (4, dV z15), (3, iV x11), (0, rV t), (1, iV p1), (2, iV p2)]) X dX6_calibrate_80 (by decide) rfl ?_
        refine g_aload_n X dX6_calibrate_82 3 rfl ?_
        refine g_get X (rV (gR M14 t 3)) dX6_calibrate_83 fl_X6_19 (fun _ => rfl) ⟨hk1, hw⟩ (fun hw => ?_)
        refine g_topR (fun r21 hr21 => ?_)
        have hw := hw r21 hr21
        refine g_iconst X (3 : Int32) dX6_calibrate_86 (by decide) ?_
        refine g_bipush X (12 : Int32) dX6_calibrate_87 (by decide) ?_
        refine g_iload_n X dX6_calibrate_89 4 rfl ?_
        refine g_imul X dX6_calibrate_90 ?_
        refine g_iadd X dX6_calibrate_91 ?_
        refine g_iconst X (1 : Int32) dX6_calibrate_92 (by decide) ?_
        refine g_iadd X dX6_calibrate_93 ?_
        refine g_dload X dX6_calibrate_94 0 rfl ?_
        refine g_dload X dX6_calibrate_96 0 rfl ?_
        refine g_aload_n X dX6_calibrate_98 3 rfl ?_
        refine g_iload_n X dX6_calibrate_99 4 rfl ?_
        refine g_calld (pc' := 103) (rest := [dV z20, dV z20, iV (((3 : Int32) + ((12 : Int32) * p1)) + (1 : Int32)), rV r21]) rfl (fun H locs ls d qR qL => g_runV X cw_X6_94 iv_X6_gain ⟨Nat.le_of_ble_eq_true rfl, Nat.le_of_ble_eq_true rfl⟩ dX6_calibrate_100 (c_X6_gain l E n M14 t p1 _ hw) hk1 rfl rfl (Nat.le_of_ble_eq_true rfl) ⟨Nat.le_of_ble_eq_true rfl, Nat.le_of_ble_eq_true rfl⟩ qR qL) (fun z23 M22 hw => ?_)
        refine g_dmul X dX6_calibrate_103 hw (fun hw => ?_)
        refine g_topD (fun z24 hz24 => ?_)
        have hw := hw z24 hz24
        refine g_ddiv X dX6_calibrate_104 hw (fun hw => ?_)
        refine g_topD (fun z25 hz25 => ?_)
        have hw := hw z25 hz25
        refine g_dast X dX6_calibrate_105 hw (fun hw => ?_)
        refine g_topM (fun M26 hM26 => ?_)
        have hw := hw M26 hM26
        refine g_aload_n X dX6_calibrate_106 3 rfl ?_
        refine g_iload_n X dX6_calibrate_107 4 rfl ?_
        refine g_iconst X (2 : Int32) dX6_calibrate_108 (by decide) ?_
        refine g_calli (pc' := 112) (rest := []) rfl (fun H locs ls d qR qL => g_runV X cw_X6_54 iv_X6_ofHead ⟨Nat.le_of_ble_eq_true rfl, Nat.le_of_ble_eq_true rfl⟩ dX6_calibrate_109 (c_X6_ofHead l E n M26 t p1 (2 : Int32) _ hw) hk1 rfl rfl (Nat.le_of_ble_eq_true rfl) ⟨Nat.le_of_ble_eq_true rfl, Nat.le_of_ble_eq_true rfl⟩ qR qL) (fun x28 M27 hw => ?_)
        refine g_istore (lv' := [(8, iV x28), (6, dV z20), (4, dV z15), (3, iV x11), (0, rV t), (1, iV p1), (2, iV p2)]) X dX6_calibrate_112 (by decide) rfl ?_
        refine g_aload_n X dX6_calibrate_114 4 rfl ?_
        refine g_get X (rV (gR M27 t 0)) dX6_calibrate_115 fl_X6_7 (fun _ => rfl) ⟨hk1, hw⟩ (fun hw => ?_)
        refine g_topR (fun r29 hr29 => ?_)
        have hw := hw r29 hr29
        refine g_bipush X (12 : Int32) dX6_calibrate_118 (by decide) ?_
        refine g_bipush X (10 : Int32) dX6_calibrate_120 (by decide) ?_
        refine g_iload_n X dX6_calibrate_122 5 rfl ?_
        refine g_imul X dX6_calibrate_123 ?_
        refine g_iadd X dX6_calibrate_124 ?_
        refine g_iconst X (2 : Int32) dX6_calibrate_125 (by decide) ?_
        refine g_iadd X dX6_calibrate_126 ?_
        refine g_iconst X (0 : Int32) dX6_calibrate_127 (by decide) ?_
        refine g_iast X dX6_calibrate_128 hw (fun hw => ?_)
        refine g_topM (fun M30 hM30 => ?_)
        have hw := hw M30 hM30
        refine g_iload X dX6_calibrate_129 0 rfl ?_
        exact g_iret X hr hlk hSz hOld (Nat.le_refl _) dX6_calibrate_131 hw
      · refine g_bipush X (-4 : Int32) dX6_calibrate_31 (by decide) ?_
        exact g_iret X hr hlk hSz hOld (Nat.le_refl _) dX6_calibrate_33 hw
    · refine g_bipush X (-2 : Int32) dX6_calibrate_20 (by decide) ?_
      exact g_iret X hr hlk hSz hOld (Nat.le_refl _) dX6_calibrate_22 hw
  · refine g_iconst X (-1 : Int32) dX6_calibrate_8 (by decide) ?_
    exact g_iret X hr hlk hSz hOld (Nat.le_refl _) dX6_calibrate_9 hw
theorem dX6_toBack_0 : decode cX6_toBack 0 = .ok (.aload_n 0, 1) := by decide +kernel
theorem dX6_toBack_1 : decode cX6_toBack 1 = .ok (.getfield 7, 3) := by decide +kernel
theorem dX6_toBack_4 : decode cX6_toBack 4 = .ok (.sipush 572, 3) := by decide +kernel
theorem dX6_toBack_7 : decode cX6_toBack 7 = .ok (.aload_n 0, 1) := by decide +kernel
theorem dX6_toBack_8 : decode cX6_toBack 8 = .ok (.getfield 7, 3) := by decide +kernel
theorem dX6_toBack_11 : decode cX6_toBack 11 = .ok (.bipush 11, 2) := by decide +kernel
theorem dX6_toBack_13 : decode cX6_toBack 13 = .ok (.iaload, 1) := by decide +kernel
theorem dX6_toBack_14 : decode cX6_toBack 14 = .ok (.iadd, 1) := by decide +kernel
theorem dX6_toBack_15 : decode cX6_toBack 15 = .ok (.iload_n 1, 1) := by decide +kernel
theorem dX6_toBack_16 : decode cX6_toBack 16 = .ok (.iastore, 1) := by decide +kernel
theorem dX6_toBack_17 : decode cX6_toBack 17 = .ok (.aload_n 0, 1) := by decide +kernel
theorem dX6_toBack_18 : decode cX6_toBack 18 = .ok (.getfield 7, 3) := by decide +kernel
theorem dX6_toBack_21 : decode cX6_toBack 21 = .ok (.bipush 11, 2) := by decide +kernel
theorem dX6_toBack_23 : decode cX6_toBack 23 = .ok (.dup2, 1) := by decide +kernel
theorem dX6_toBack_24 : decode cX6_toBack 24 = .ok (.iaload, 1) := by decide +kernel
theorem dX6_toBack_25 : decode cX6_toBack 25 = .ok (.iconst 1, 1) := by decide +kernel
theorem dX6_toBack_26 : decode cX6_toBack 26 = .ok (.iadd, 1) := by decide +kernel
theorem dX6_toBack_27 : decode cX6_toBack 27 = .ok (.iastore, 1) := by decide +kernel
theorem dX6_toBack_28 : decode cX6_toBack 28 = .ok (.return_, 1) := by decide +kernel
abbrev rmX6_toBack : Room := { frames := 0, cells := 0, slots := 0, locals := 0 }
def w_X6_toBack (n : Nat) (M : Mem) (t : Nat) (p1 : Int32) (K : Mem → Prop) : Prop := ((t ≤ n ∧ kd t = (6, 0)) ∧ (∀ r2, r2 = gR M t 0 → (∀ r3, r3 = gR M t 0 → ((r3 ≤ n ∧ (kd r3).1 = 7 ∧ vp_in (11 : Int32) (kd r3).2) ∧ (∀ x4, x4 = gI M r3 (Int32.toNatClampNeg (11 : Int32)) → ((r2 ≤ n ∧ (kd r2).1 = 7 ∧ vp_in ((572 : Int32) + x4) (kd r2).2) ∧ (∀ M5, M5 = sI M r2 (Int32.toNatClampNeg ((572 : Int32) + x4)) p1 → (∀ r6, r6 = gR M5 t 0 → ((r6 ≤ n ∧ (kd r6).1 = 7 ∧ vp_in (11 : Int32) (kd r6).2) ∧ (∀ x7, x7 = gI M5 r6 (Int32.toNatClampNeg (11 : Int32)) → ((r6 ≤ n ∧ (kd r6).1 = 7 ∧ vp_in (11 : Int32) (kd r6).2) ∧ (∀ M8, M8 = sI M5 r6 (Int32.toNatClampNeg (11 : Int32)) (x7 + (1 : Int32)) → K M8))))))))))))
set_option maxHeartbeats 4000000 in
set_option maxRecDepth 20000 in
theorem c_X6_toBack (l : Launch) (E : Gl) (n : Nat) (M : Mem) (t : Nat) (p1 : Int32) (K : Mem → Prop) (hw : w_X6_toBack n M t p1 K) : CT E l yX6_toBack cX6_toBack 2 none rmX6_toBack n M [rV t, iV p1] (PV E n K) := by
  refine g_met l (by decide) (Nat.le_of_ble_eq_true rfl) ?_
  intro p e s m args below meth c X hr hlk hnm hSz hOld
  change CX E p s m c _ _ RX6 at X
  unfold w_X6_toBack at hw
  refine g_aload_n X dX6_toBack_0 0 rfl ?_
  obtain ⟨hk1, hw⟩ := hw
  refine g_get X (rV (gR M t 0)) dX6_toBack_1 fl_X6_7 (fun _ => rfl) ⟨hk1, hw⟩ (fun hw => ?_)
  refine g_topR (fun r2 hr2 => ?_)
  have hw := hw r2 hr2
  refine g_sipush X (572 : Int32) dX6_toBack_4 (by decide) ?_
  refine g_aload_n X dX6_toBack_7 0 rfl ?_
  refine g_get X (rV (gR M t 0)) dX6_toBack_8 fl_X6_7 (fun _ => rfl) ⟨hk1, hw⟩ (fun hw => ?_)
  refine g_topR (fun r3 hr3 => ?_)
  have hw := hw r3 hr3
  refine g_bipush X (11 : Int32) dX6_toBack_11 (by decide) ?_
  refine g_iald X dX6_toBack_13 hw (fun hw => ?_)
  refine g_topI (fun x4 hx4 => ?_)
  have hw := hw x4 hx4
  refine g_iadd X dX6_toBack_14 ?_
  refine g_iload_n X dX6_toBack_15 1 rfl ?_
  refine g_iast X dX6_toBack_16 hw (fun hw => ?_)
  refine g_topM (fun M5 hM5 => ?_)
  have hw := hw M5 hM5
  refine g_aload_n X dX6_toBack_17 0 rfl ?_
  refine g_get X (rV (gR M5 t 0)) dX6_toBack_18 fl_X6_7 (fun _ => rfl) ⟨hk1, hw⟩ (fun hw => ?_)
  refine g_topR (fun r6 hr6 => ?_)
  have hw := hw r6 hr6
  refine g_bipush X (11 : Int32) dX6_toBack_21 (by decide) ?_
  refine g_dup2 X dX6_toBack_23 rfl rfl ?_
  refine g_iald X dX6_toBack_24 hw (fun hw => ?_)
  refine g_topI (fun x7 hx7 => ?_)
  have hw := hw x7 hx7
  refine g_iconst X (1 : Int32) dX6_toBack_25 (by decide) ?_
  refine g_iadd X dX6_toBack_26 ?_
  refine g_iast X dX6_toBack_27 hw (fun hw => ?_)
  refine g_topM (fun M8 hM8 => ?_)
  have hw := hw M8 hM8
  exact g_vret X hr hlk hSz hOld (Nat.le_refl _) dX6_toBack_28 hw
theorem dX6_toFront_0 : decode cX6_toFront 0 = .ok (.sipush 572, 3) := by decide +kernel
theorem dX6_toFront_3 : decode cX6_toFront 3 = .ok (.aload_n 0, 1) := by decide +kernel
theorem dX6_toFront_4 : decode cX6_toFront 4 = .ok (.getfield 7, 3) := by decide +kernel
theorem dX6_toFront_7 : decode cX6_toFront 7 = .ok (.bipush 11, 2) := by decide +kernel
theorem dX6_toFront_9 : decode cX6_toFront 9 = .ok (.iaload, 1) := by decide +kernel
theorem dX6_toFront_10 : decode cX6_toFront 10 = .ok (.iadd, 1) := by decide +kernel
theorem dX6_toFront_11 : decode cX6_toFront 11 = .ok (.istore_n 2, 1) := by decide +kernel
theorem dX6_toFront_12 : decode cX6_toFront 12 = .ok (.iload_n 2, 1) := by decide +kernel
theorem dX6_toFront_13 : decode cX6_toFront 13 = .ok (.sipush 572, 3) := by decide +kernel
theorem dX6_toFront_16 : decode cX6_toFront 16 = .ok (.if_icmp .le 23, 3) := by decide +kernel
theorem dX6_toFront_19 : decode cX6_toFront 19 = .ok (.aload_n 0, 1) := by decide +kernel
theorem dX6_toFront_20 : decode cX6_toFront 20 = .ok (.getfield 7, 3) := by decide +kernel
theorem dX6_toFront_23 : decode cX6_toFront 23 = .ok (.iload_n 2, 1) := by decide +kernel
theorem dX6_toFront_24 : decode cX6_toFront 24 = .ok (.aload_n 0, 1) := by decide +kernel
theorem dX6_toFront_25 : decode cX6_toFront 25 = .ok (.getfield 7, 3) := by decide +kernel
theorem dX6_toFront_28 : decode cX6_toFront 28 = .ok (.iload_n 2, 1) := by decide +kernel
theorem dX6_toFront_29 : decode cX6_toFront 29 = .ok (.iconst 1, 1) := by decide +kernel
theorem dX6_toFront_30 : decode cX6_toFront 30 = .ok (.isub, 1) := by decide +kernel
theorem dX6_toFront_31 : decode cX6_toFront 31 = .ok (.iaload, 1) := by decide +kernel
theorem dX6_toFront_32 : decode cX6_toFront 32 = .ok (.iastore, 1) := by decide +kernel
theorem dX6_toFront_33 : decode cX6_toFront 33 = .ok (.iinc 2 (-1), 3) := by decide +kernel
theorem dX6_toFront_36 : decode cX6_toFront 36 = .ok (.goto (-24), 3) := by decide +kernel
theorem dX6_toFront_39 : decode cX6_toFront 39 = .ok (.aload_n 0, 1) := by decide +kernel
theorem dX6_toFront_40 : decode cX6_toFront 40 = .ok (.getfield 7, 3) := by decide +kernel
theorem dX6_toFront_43 : decode cX6_toFront 43 = .ok (.sipush 572, 3) := by decide +kernel
theorem dX6_toFront_46 : decode cX6_toFront 46 = .ok (.iload_n 1, 1) := by decide +kernel
theorem dX6_toFront_47 : decode cX6_toFront 47 = .ok (.iastore, 1) := by decide +kernel
theorem dX6_toFront_48 : decode cX6_toFront 48 = .ok (.aload_n 0, 1) := by decide +kernel
theorem dX6_toFront_49 : decode cX6_toFront 49 = .ok (.getfield 7, 3) := by decide +kernel
theorem dX6_toFront_52 : decode cX6_toFront 52 = .ok (.bipush 11, 2) := by decide +kernel
theorem dX6_toFront_54 : decode cX6_toFront 54 = .ok (.dup2, 1) := by decide +kernel
theorem dX6_toFront_55 : decode cX6_toFront 55 = .ok (.iaload, 1) := by decide +kernel
theorem dX6_toFront_56 : decode cX6_toFront 56 = .ok (.iconst 1, 1) := by decide +kernel
theorem dX6_toFront_57 : decode cX6_toFront 57 = .ok (.iadd, 1) := by decide +kernel
theorem dX6_toFront_58 : decode cX6_toFront 58 = .ok (.iastore, 1) := by decide +kernel
theorem dX6_toFront_59 : decode cX6_toFront 59 = .ok (.aload_n 0, 1) := by decide +kernel
theorem dX6_toFront_60 : decode cX6_toFront 60 = .ok (.iload_n 1, 1) := by decide +kernel
theorem dX6_toFront_61 : decode cX6_toFront 61 = .ok (.iconst 3, 1) := by decide +kernel
theorem dX6_toFront_62 : decode cX6_toFront 62 = .ok (.iconst 0, 1) := by decide +kernel
theorem dX6_toFront_63 : decode cX6_toFront 63 = .ok (.invokevirtual 98, 3) := by decide +kernel
theorem dX6_toFront_66 : decode cX6_toFront 66 = .ok (.return_, 1) := by decide +kernel
abbrev rmX6_toFront : Room := { frames := 1, cells := 0, slots := 0, locals := 23 }
def w_X6_toFront_L12 (n : Nat) (K : Mem → Prop) : Nat → Mem → Nat → Int32 → Int32 → Prop
  | 0, _, _, _, _ => False
  | fuel + 1, M, o0, a1, a2 => ((a2 ≤ (572 : Int32) → ((o0 ≤ n ∧ kd o0 = (6, 0)) ∧ (∀ r6, r6 = gR M o0 0 → ((r6 ≤ n ∧ (kd r6).1 = 7 ∧ vp_in (572 : Int32) (kd r6).2) ∧ (∀ M7, M7 = sI M r6 (Int32.toNatClampNeg (572 : Int32)) a1 → (∀ r8, r8 = gR M7 o0 0 → ((r8 ≤ n ∧ (kd r8).1 = 7 ∧ vp_in (11 : Int32) (kd r8).2) ∧ (∀ x9, x9 = gI M7 r8 (Int32.toNatClampNeg (11 : Int32)) → ((r8 ≤ n ∧ (kd r8).1 = 7 ∧ vp_in (11 : Int32) (kd r8).2) ∧ (∀ M10, M10 = sI M7 r8 (Int32.toNatClampNeg (11 : Int32)) (x9 + (1 : Int32)) → w_X6_put n M10 o0 a1 (3 : Int32) (0 : Int32) (fun M11 => K M11))))))))))) ∧ (¬ a2 ≤ (572 : Int32) → ((o0 ≤ n ∧ kd o0 = (6, 0)) ∧ (∀ r13, r13 = gR M o0 0 → (∀ r14, r14 = gR M o0 0 → ((r14 ≤ n ∧ (kd r14).1 = 7 ∧ vp_in (a2 - (1 : Int32)) (kd r14).2) ∧ (∀ x15, x15 = gI M r14 (Int32.toNatClampNeg (a2 - (1 : Int32))) → ((r13 ≤ n ∧ (kd r13).1 = 7 ∧ vp_in a2 (kd r13).2) ∧ (∀ M16, M16 = sI M r13 (Int32.toNatClampNeg a2) x15 → (∀ x17, x17 = a2 + (-1 : Int32) → w_X6_toFront_L12 n K fuel M16 o0 a1 x17))))))))))
def w_X6_toFront (n : Nat) (M : Mem) (t : Nat) (p1 : Int32) (K : Mem → Prop) : Prop := ((t ≤ n ∧ kd t = (6, 0)) ∧ (∀ r2, r2 = gR M t 0 → ((r2 ≤ n ∧ (kd r2).1 = 7 ∧ vp_in (11 : Int32) (kd r2).2) ∧ (∀ x3, x3 = gI M r2 (Int32.toNatClampNeg (11 : Int32)) → (∀ x4, x4 = (572 : Int32) + x3 → w_X6_toFront_L12 n K 4000 M t p1 x4)))))
set_option maxHeartbeats 4000000 in
set_option maxRecDepth 20000 in
theorem c_X6_toFront (l : Launch) (E : Gl) (n : Nat) (M : Mem) (t : Nat) (p1 : Int32) (K : Mem → Prop) (hw : w_X6_toFront n M t p1 K) : CT E l yX6_toFront cX6_toFront 3 none rmX6_toFront n M [rV t, iV p1] (PV E n K) := by
  refine g_met l (by decide) (Nat.le_of_ble_eq_true rfl) ?_
  intro p e s m args below meth c X hr hlk hnm hSz hOld
  change CX E p s m c _ _ RX6 at X
  have L12 : ∀ (fuel : Nat) (M : Mem) (o0 : Nat) (a1 : Int32) (a2 : Int32), w_X6_toFront_L12 n K fuel M o0 a1 a2 → G E p l e rmX6_toFront s m args below meth c 3 n M 0 0 (MQD lw_cs below (PV E n K) args s rmX6_toFront.cells rmX6_toFront.slots (Ab E)) 12 [(0, rV o0), (1, iV a1), (2, iV a2)] [] := by
    intro fuel
    induction fuel with
    | zero => intro M o0 a1 a2 hw; exact False.elim hw
    | succ fuel ih =>
      intro M o0 a1 a2 hw
      unfold w_X6_toFront_L12 at hw
      refine g_iload_n X dX6_toFront_12 2 rfl ?_
      refine g_sipush X (572 : Int32) dX6_toFront_13 (by decide) ?_
      refine g_icmp_le X 39 dX6_toFront_16 (by decide) hw (fun hw => ?_) (fun hw => ?_)
      · refine g_aload_n X dX6_toFront_39 0 rfl ?_
        obtain ⟨hk5, hw⟩ := hw
        refine g_get X (rV (gR M o0 0)) dX6_toFront_40 fl_X6_7 (fun _ => rfl) ⟨hk5, hw⟩ (fun hw => ?_)
        refine g_topR (fun r6 hr6 => ?_)
        have hw := hw r6 hr6
        refine g_sipush X (572 : Int32) dX6_toFront_43 (by decide) ?_
        refine g_iload_n X dX6_toFront_46 1 rfl ?_
        refine g_iast X dX6_toFront_47 hw (fun hw => ?_)
        refine g_topM (fun M7 hM7 => ?_)
        have hw := hw M7 hM7
        refine g_aload_n X dX6_toFront_48 0 rfl ?_
        refine g_get X (rV (gR M7 o0 0)) dX6_toFront_49 fl_X6_7 (fun _ => rfl) ⟨hk5, hw⟩ (fun hw => ?_)
        refine g_topR (fun r8 hr8 => ?_)
        have hw := hw r8 hr8
        refine g_bipush X (11 : Int32) dX6_toFront_52 (by decide) ?_
        refine g_dup2 X dX6_toFront_54 rfl rfl ?_
        refine g_iald X dX6_toFront_55 hw (fun hw => ?_)
        refine g_topI (fun x9 hx9 => ?_)
        have hw := hw x9 hx9
        refine g_iconst X (1 : Int32) dX6_toFront_56 (by decide) ?_
        refine g_iadd X dX6_toFront_57 ?_
        refine g_iast X dX6_toFront_58 hw (fun hw => ?_)
        refine g_topM (fun M10 hM10 => ?_)
        have hw := hw M10 hM10
        refine g_aload_n X dX6_toFront_59 0 rfl ?_
        refine g_iload_n X dX6_toFront_60 1 rfl ?_
        refine g_iconst X (3 : Int32) dX6_toFront_61 (by decide) ?_
        refine g_iconst X (0 : Int32) dX6_toFront_62 (by decide) ?_
        refine g_callv (pc' := 66) (rest := []) rfl (fun H locs ls d qR qL => g_runV X cw_X6_98 iv_X6_put ⟨Nat.le_of_ble_eq_true rfl, Nat.le_of_ble_eq_true rfl⟩ dX6_toFront_63 (c_X6_put l E n M10 o0 a1 (3 : Int32) (0 : Int32) _ hw) hk5 rfl rfl (Nat.le_of_ble_eq_true rfl) ⟨Nat.le_of_ble_eq_true rfl, Nat.le_of_ble_eq_true rfl⟩ qR qL) (fun M11 hw => ?_)
        exact g_vret X hr hlk hSz hOld (Nat.le_refl _) dX6_toFront_66 hw
      · refine g_aload_n X dX6_toFront_19 0 rfl ?_
        obtain ⟨hk12, hw⟩ := hw
        refine g_get X (rV (gR M o0 0)) dX6_toFront_20 fl_X6_7 (fun _ => rfl) ⟨hk12, hw⟩ (fun hw => ?_)
        refine g_topR (fun r13 hr13 => ?_)
        have hw := hw r13 hr13
        refine g_iload_n X dX6_toFront_23 2 rfl ?_
        refine g_aload_n X dX6_toFront_24 0 rfl ?_
        refine g_get X (rV (gR M o0 0)) dX6_toFront_25 fl_X6_7 (fun _ => rfl) ⟨hk12, hw⟩ (fun hw => ?_)
        refine g_topR (fun r14 hr14 => ?_)
        have hw := hw r14 hr14
        refine g_iload_n X dX6_toFront_28 2 rfl ?_
        refine g_iconst X (1 : Int32) dX6_toFront_29 (by decide) ?_
        refine g_isub X dX6_toFront_30 ?_
        refine g_iald X dX6_toFront_31 hw (fun hw => ?_)
        refine g_topI (fun x15 hx15 => ?_)
        have hw := hw x15 hx15
        refine g_iast X dX6_toFront_32 hw (fun hw => ?_)
        refine g_topM (fun M16 hM16 => ?_)
        have hw := hw M16 hM16
        obtain ⟨x17, hx17⟩ : ∃ y : Int32, y = a2 + (-1 : Int32) := ⟨_, rfl⟩
        have hw := hw x17 hx17
        refine g_iinc (lv' := [(2, iV x17), (0, rV o0), (1, iV a1)]) X x17 dX6_toFront_33 2 rfl (by rw [hx17]; rfl) (by decide) rfl ?_
        refine g_goto X 12 dX6_toFront_36 (by decide) ?_
        refine g_lvsub (lv' := [(0, rV o0), (1, iV a1), (2, iV x17)]) [1, 2, 0] rfl ?_
        exact ih _ _ _ _ hw
  unfold w_X6_toFront at hw
  refine g_sipush X (572 : Int32) dX6_toFront_0 (by decide) ?_
  refine g_aload_n X dX6_toFront_3 0 rfl ?_
  obtain ⟨hk1, hw⟩ := hw
  refine g_get X (rV (gR M t 0)) dX6_toFront_4 fl_X6_7 (fun _ => rfl) ⟨hk1, hw⟩ (fun hw => ?_)
  refine g_topR (fun r2 hr2 => ?_)
  have hw := hw r2 hr2
  refine g_bipush X (11 : Int32) dX6_toFront_7 (by decide) ?_
  refine g_iald X dX6_toFront_9 hw (fun hw => ?_)
  refine g_topI (fun x3 hx3 => ?_)
  have hw := hw x3 hx3
  refine g_iadd X dX6_toFront_10 ?_
  refine g_topI (fun x4 hx4 => ?_)
  have hw := hw x4 hx4
  refine g_istore_n (lv' := [(2, iV x4), (0, rV t), (1, iV p1)]) X dX6_toFront_11 (by decide) rfl ?_
  refine g_lvsub (lv' := [(0, rV t), (1, iV p1), (2, iV x4)]) [1, 2, 0] rfl ?_
  exact L12 _ _ _ _ _ hw
theorem dX6_adds_0 : decode cX6_adds 0 = .ok (.aload_n 0, 1) := by decide +kernel
theorem dX6_adds_1 : decode cX6_adds 1 = .ok (.getfield 7, 3) := by decide +kernel
theorem dX6_adds_4 : decode cX6_adds 4 = .ok (.iconst 2, 1) := by decide +kernel
theorem dX6_adds_5 : decode cX6_adds 5 = .ok (.iaload, 1) := by decide +kernel
theorem dX6_adds_6 : decode cX6_adds 6 = .ok (.istore 4, 2) := by decide +kernel
theorem dX6_adds_8 : decode cX6_adds 8 = .ok (.iconst 0, 1) := by decide +kernel
theorem dX6_adds_9 : decode cX6_adds 9 = .ok (.istore 5, 2) := by decide +kernel
theorem dX6_adds_11 : decode cX6_adds 11 = .ok (.iload 5, 2) := by decide +kernel
theorem dX6_adds_13 : decode cX6_adds 13 = .ok (.bipush 8, 2) := by decide +kernel
theorem dX6_adds_15 : decode cX6_adds 15 = .ok (.if_icmp .ge 18, 3) := by decide +kernel
theorem dX6_adds_18 : decode cX6_adds 18 = .ok (.aload_n 0, 1) := by decide +kernel
theorem dX6_adds_19 : decode cX6_adds 19 = .ok (.iload 4, 2) := by decide +kernel
theorem dX6_adds_21 : decode cX6_adds 21 = .ok (.iload 5, 2) := by decide +kernel
theorem dX6_adds_23 : decode cX6_adds 23 = .ok (.iconst 0, 1) := by decide +kernel
theorem dX6_adds_24 : decode cX6_adds 24 = .ok (.invokevirtual 98, 3) := by decide +kernel
theorem dX6_adds_27 : decode cX6_adds 27 = .ok (.iinc 5 1, 3) := by decide +kernel
theorem dX6_adds_30 : decode cX6_adds 30 = .ok (.goto (-19), 3) := by decide +kernel
theorem dX6_adds_33 : decode cX6_adds 33 = .ok (.aload_n 0, 1) := by decide +kernel
theorem dX6_adds_34 : decode cX6_adds 34 = .ok (.iload 4, 2) := by decide +kernel
theorem dX6_adds_36 : decode cX6_adds 36 = .ok (.iconst 0, 1) := by decide +kernel
theorem dX6_adds_37 : decode cX6_adds 37 = .ok (.iload_n 1, 1) := by decide +kernel
theorem dX6_adds_38 : decode cX6_adds 38 = .ok (.invokevirtual 98, 3) := by decide +kernel
theorem dX6_adds_41 : decode cX6_adds 41 = .ok (.aload_n 0, 1) := by decide +kernel
theorem dX6_adds_42 : decode cX6_adds 42 = .ok (.iload 4, 2) := by decide +kernel
theorem dX6_adds_44 : decode cX6_adds 44 = .ok (.iconst 1, 1) := by decide +kernel
theorem dX6_adds_45 : decode cX6_adds 45 = .ok (.iload_n 2, 1) := by decide +kernel
theorem dX6_adds_46 : decode cX6_adds 46 = .ok (.invokevirtual 98, 3) := by decide +kernel
theorem dX6_adds_49 : decode cX6_adds 49 = .ok (.aload_n 0, 1) := by decide +kernel
theorem dX6_adds_50 : decode cX6_adds 50 = .ok (.iload 4, 2) := by decide +kernel
theorem dX6_adds_52 : decode cX6_adds 52 = .ok (.iconst 2, 1) := by decide +kernel
theorem dX6_adds_53 : decode cX6_adds 53 = .ok (.iload_n 3, 1) := by decide +kernel
theorem dX6_adds_54 : decode cX6_adds 54 = .ok (.invokevirtual 98, 3) := by decide +kernel
theorem dX6_adds_57 : decode cX6_adds 57 = .ok (.aload_n 0, 1) := by decide +kernel
theorem dX6_adds_58 : decode cX6_adds 58 = .ok (.getfield 7, 3) := by decide +kernel
theorem dX6_adds_61 : decode cX6_adds 61 = .ok (.iconst 2, 1) := by decide +kernel
theorem dX6_adds_62 : decode cX6_adds 62 = .ok (.dup2, 1) := by decide +kernel
theorem dX6_adds_63 : decode cX6_adds 63 = .ok (.iaload, 1) := by decide +kernel
theorem dX6_adds_64 : decode cX6_adds 64 = .ok (.iconst 1, 1) := by decide +kernel
theorem dX6_adds_65 : decode cX6_adds 65 = .ok (.iadd, 1) := by decide +kernel
theorem dX6_adds_66 : decode cX6_adds 66 = .ok (.iastore, 1) := by decide +kernel
theorem dX6_adds_67 : decode cX6_adds 67 = .ok (.aload_n 0, 1) := by decide +kernel
theorem dX6_adds_68 : decode cX6_adds 68 = .ok (.iload 4, 2) := by decide +kernel
theorem dX6_adds_70 : decode cX6_adds 70 = .ok (.invokevirtual 102, 3) := by decide +kernel
theorem dX6_adds_73 : decode cX6_adds 73 = .ok (.return_, 1) := by decide +kernel
abbrev rmX6_adds : Room := { frames := 1, cells := 0, slots := 0, locals := 23 }
def w_X6_adds_L11 (n : Nat) (K : Mem → Prop) : Nat → Mem → Nat → Int32 → Int32 → Int32 → Int32 → Int32 → Prop
  | 0, _, _, _, _, _, _, _ => False
  | fuel + 1, M, o0, a1, a2, a3, a4, a5 => (((8 : Int32) ≤ a5 → ((o0 ≤ n ∧ kd o0 = (6, 0)) ∧ w_X6_put n M o0 a4 (0 : Int32) a1 (fun M5 => w_X6_put n M5 o0 a4 (1 : Int32) a2 (fun M6 => w_X6_put n M6 o0 a4 (2 : Int32) a3 (fun M7 => (∀ r8, r8 = gR M7 o0 0 → ((r8 ≤ n ∧ (kd r8).1 = 7 ∧ vp_in (2 : Int32) (kd r8).2) ∧ (∀ x9, x9 = gI M7 r8 (Int32.toNatClampNeg (2 : Int32)) → ((r8 ≤ n ∧ (kd r8).1 = 7 ∧ vp_in (2 : Int32) (kd r8).2) ∧ (∀ M10, M10 = sI M7 r8 (Int32.toNatClampNeg (2 : Int32)) (x9 + (1 : Int32)) → w_X6_toBack n M10 o0 a4 (fun M11 => K M11))))))))))) ∧ (¬ (8 : Int32) ≤ a5 → ((o0 ≤ n ∧ kd o0 = (6, 0)) ∧ w_X6_put n M o0 a4 a5 (0 : Int32) (fun M13 => (∀ x14, x14 = a5 + (1 : Int32) → w_X6_adds_L11 n K fuel M13 o0 a1 a2 a3 a4 x14)))))
def w_X6_adds (n : Nat) (M : Mem) (t : Nat) (p1 : Int32) (p2 : Int32) (p3 : Int32) (K : Mem → Prop) : Prop := ((t ≤ n ∧ kd t = (6, 0)) ∧ (∀ r2, r2 = gR M t 0 → ((r2 ≤ n ∧ (kd r2).1 = 7 ∧ vp_in (2 : Int32) (kd r2).2) ∧ (∀ x3, x3 = gI M r2 (Int32.toNatClampNeg (2 : Int32)) → w_X6_adds_L11 n K 4000 M t p1 p2 p3 x3 (0 : Int32)))))
set_option maxHeartbeats 4000000 in
set_option maxRecDepth 20000 in
theorem c_X6_adds (l : Launch) (E : Gl) (n : Nat) (M : Mem) (t : Nat) (p1 : Int32) (p2 : Int32) (p3 : Int32) (K : Mem → Prop) (hw : w_X6_adds n M t p1 p2 p3 K) : CT E l yX6_adds cX6_adds 6 none rmX6_adds n M [rV t, iV p1, iV p2, iV p3] (PV E n K) := by
  refine g_met l (by decide) (Nat.le_of_ble_eq_true rfl) ?_
  intro p e s m args below meth c X hr hlk hnm hSz hOld
  change CX E p s m c _ _ RX6 at X
  have L11 : ∀ (fuel : Nat) (M : Mem) (o0 : Nat) (a1 : Int32) (a2 : Int32) (a3 : Int32) (a4 : Int32) (a5 : Int32), w_X6_adds_L11 n K fuel M o0 a1 a2 a3 a4 a5 → G E p l e rmX6_adds s m args below meth c 6 n M 0 0 (MQD lw_cs below (PV E n K) args s rmX6_adds.cells rmX6_adds.slots (Ab E)) 11 [(0, rV o0), (1, iV a1), (2, iV a2), (3, iV a3), (4, iV a4), (5, iV a5)] [] := by
    intro fuel
    induction fuel with
    | zero => intro M o0 a1 a2 a3 a4 a5 hw; exact False.elim hw
    | succ fuel ih =>
      intro M o0 a1 a2 a3 a4 a5 hw
      unfold w_X6_adds_L11 at hw
      refine g_iload X dX6_adds_11 5 rfl ?_
      refine g_bipush X (8 : Int32) dX6_adds_13 (by decide) ?_
      refine g_icmp_ge X 33 dX6_adds_15 (by decide) hw (fun hw => ?_) (fun hw => ?_)
      · refine g_aload_n X dX6_adds_33 0 rfl ?_
        refine g_iload X dX6_adds_34 4 rfl ?_
        refine g_iconst X (0 : Int32) dX6_adds_36 (by decide) ?_
        refine g_iload_n X dX6_adds_37 1 rfl ?_
        obtain ⟨hk4, hw⟩ := hw
        refine g_callv (pc' := 41) (rest := []) rfl (fun H locs ls d qR qL => g_runV X cw_X6_98 iv_X6_put ⟨Nat.le_of_ble_eq_true rfl, Nat.le_of_ble_eq_true rfl⟩ dX6_adds_38 (c_X6_put l E n M o0 a4 (0 : Int32) a1 _ hw) hk4 rfl rfl (Nat.le_of_ble_eq_true rfl) ⟨Nat.le_of_ble_eq_true rfl, Nat.le_of_ble_eq_true rfl⟩ qR qL) (fun M5 hw => ?_)
        refine g_aload_n X dX6_adds_41 0 rfl ?_
        refine g_iload X dX6_adds_42 4 rfl ?_
        refine g_iconst X (1 : Int32) dX6_adds_44 (by decide) ?_
        refine g_iload_n X dX6_adds_45 2 rfl ?_
        refine g_callv (pc' := 49) (rest := []) rfl (fun H locs ls d qR qL => g_runV X cw_X6_98 iv_X6_put ⟨Nat.le_of_ble_eq_true rfl, Nat.le_of_ble_eq_true rfl⟩ dX6_adds_46 (c_X6_put l E n M5 o0 a4 (1 : Int32) a2 _ hw) hk4 rfl rfl (Nat.le_of_ble_eq_true rfl) ⟨Nat.le_of_ble_eq_true rfl, Nat.le_of_ble_eq_true rfl⟩ qR qL) (fun M6 hw => ?_)
        refine g_aload_n X dX6_adds_49 0 rfl ?_
        refine g_iload X dX6_adds_50 4 rfl ?_
        refine g_iconst X (2 : Int32) dX6_adds_52 (by decide) ?_
        refine g_iload_n X dX6_adds_53 3 rfl ?_
        refine g_callv (pc' := 57) (rest := []) rfl (fun H locs ls d qR qL => g_runV X cw_X6_98 iv_X6_put ⟨Nat.le_of_ble_eq_true rfl, Nat.le_of_ble_eq_true rfl⟩ dX6_adds_54 (c_X6_put l E n M6 o0 a4 (2 : Int32) a3 _ hw) hk4 rfl rfl (Nat.le_of_ble_eq_true rfl) ⟨Nat.le_of_ble_eq_true rfl, Nat.le_of_ble_eq_true rfl⟩ qR qL) (fun M7 hw => ?_)
        refine g_aload_n X dX6_adds_57 0 rfl ?_
        refine g_get X (rV (gR M7 o0 0)) dX6_adds_58 fl_X6_7 (fun _ => rfl) ⟨hk4, hw⟩ (fun hw => ?_)
        refine g_topR (fun r8 hr8 => ?_)
        have hw := hw r8 hr8
        refine g_iconst X (2 : Int32) dX6_adds_61 (by decide) ?_
        refine g_dup2 X dX6_adds_62 rfl rfl ?_
        refine g_iald X dX6_adds_63 hw (fun hw => ?_)
        refine g_topI (fun x9 hx9 => ?_)
        have hw := hw x9 hx9
        refine g_iconst X (1 : Int32) dX6_adds_64 (by decide) ?_
        refine g_iadd X dX6_adds_65 ?_
        refine g_iast X dX6_adds_66 hw (fun hw => ?_)
        refine g_topM (fun M10 hM10 => ?_)
        have hw := hw M10 hM10
        refine g_aload_n X dX6_adds_67 0 rfl ?_
        refine g_iload X dX6_adds_68 4 rfl ?_
        refine g_callv (pc' := 73) (rest := []) rfl (fun H locs ls d qR qL => g_runV X cw_X6_102 iv_X6_toBack ⟨Nat.le_of_ble_eq_true rfl, Nat.le_of_ble_eq_true rfl⟩ dX6_adds_70 (c_X6_toBack l E n M10 o0 a4 _ hw) hk4 rfl rfl (Nat.le_of_ble_eq_true rfl) ⟨Nat.le_of_ble_eq_true rfl, Nat.le_of_ble_eq_true rfl⟩ qR qL) (fun M11 hw => ?_)
        exact g_vret X hr hlk hSz hOld (Nat.le_refl _) dX6_adds_73 hw
      · refine g_aload_n X dX6_adds_18 0 rfl ?_
        refine g_iload X dX6_adds_19 4 rfl ?_
        refine g_iload X dX6_adds_21 5 rfl ?_
        refine g_iconst X (0 : Int32) dX6_adds_23 (by decide) ?_
        obtain ⟨hk12, hw⟩ := hw
        refine g_callv (pc' := 27) (rest := []) rfl (fun H locs ls d qR qL => g_runV X cw_X6_98 iv_X6_put ⟨Nat.le_of_ble_eq_true rfl, Nat.le_of_ble_eq_true rfl⟩ dX6_adds_24 (c_X6_put l E n M o0 a4 a5 (0 : Int32) _ hw) hk12 rfl rfl (Nat.le_of_ble_eq_true rfl) ⟨Nat.le_of_ble_eq_true rfl, Nat.le_of_ble_eq_true rfl⟩ qR qL) (fun M13 hw => ?_)
        obtain ⟨x14, hx14⟩ : ∃ y : Int32, y = a5 + (1 : Int32) := ⟨_, rfl⟩
        have hw := hw x14 hx14
        refine g_iinc (lv' := [(5, iV x14), (0, rV o0), (1, iV a1), (2, iV a2), (3, iV a3), (4, iV a4)]) X x14 dX6_adds_27 5 rfl (by rw [hx14]; rfl) (by decide) rfl ?_
        refine g_goto X 11 dX6_adds_30 (by decide) ?_
        refine g_lvsub (lv' := [(0, rV o0), (1, iV a1), (2, iV a2), (3, iV a3), (4, iV a4), (5, iV x14)]) [1, 2, 3, 4, 5, 0] rfl ?_
        exact ih _ _ _ _ _ _ _ hw
  unfold w_X6_adds at hw
  refine g_aload_n X dX6_adds_0 0 rfl ?_
  obtain ⟨hk1, hw⟩ := hw
  refine g_get X (rV (gR M t 0)) dX6_adds_1 fl_X6_7 (fun _ => rfl) ⟨hk1, hw⟩ (fun hw => ?_)
  refine g_topR (fun r2 hr2 => ?_)
  have hw := hw r2 hr2
  refine g_iconst X (2 : Int32) dX6_adds_4 (by decide) ?_
  refine g_iald X dX6_adds_5 hw (fun hw => ?_)
  refine g_topI (fun x3 hx3 => ?_)
  have hw := hw x3 hx3
  refine g_istore (lv' := [(4, iV x3), (0, rV t), (1, iV p1), (2, iV p2), (3, iV p3)]) X dX6_adds_6 (by decide) rfl ?_
  refine g_iconst X (0 : Int32) dX6_adds_8 (by decide) ?_
  refine g_istore (lv' := [(5, iV (0 : Int32)), (4, iV x3), (0, rV t), (1, iV p1), (2, iV p2), (3, iV p3)]) X dX6_adds_9 (by decide) rfl ?_
  refine g_lvsub (lv' := [(0, rV t), (1, iV p1), (2, iV p2), (3, iV p3), (4, iV x3), (5, iV (0 : Int32))]) [2, 3, 4, 5, 1, 0] rfl ?_
  exact L11 _ _ _ _ _ _ _ _ hw
theorem dX6_add_0 : decode cX6_add 0 = .ok (.iload_n 2, 1) := by decide +kernel
theorem dX6_add_1 : decode cX6_add 1 = .ok (.iconst 0, 1) := by decide +kernel
theorem dX6_add_2 : decode cX6_add 2 = .ok (.ldc 81, 2) := by decide +kernel
theorem dX6_add_4 : decode cX6_add 4 = .ok (.invokestatic 50, 3) := by decide +kernel
theorem dX6_add_7 : decode cX6_add 7 = .ok (.ifCond .eq 14, 3) := by decide +kernel
theorem dX6_add_10 : decode cX6_add 10 = .ok (.iload_n 3, 1) := by decide +kernel
theorem dX6_add_11 : decode cX6_add 11 = .ok (.iconst 1, 1) := by decide +kernel
theorem dX6_add_12 : decode cX6_add 12 = .ok (.sipush 999, 3) := by decide +kernel
theorem dX6_add_15 : decode cX6_add 15 = .ok (.invokestatic 50, 3) := by decide +kernel
theorem dX6_add_18 : decode cX6_add 18 = .ok (.ifCond .ne 6, 3) := by decide +kernel
theorem dX6_add_21 : decode cX6_add 21 = .ok (.bipush (-2), 2) := by decide +kernel
theorem dX6_add_23 : decode cX6_add 23 = .ok (.ireturn, 1) := by decide +kernel
theorem dX6_add_24 : decode cX6_add 24 = .ok (.aload_n 0, 1) := by decide +kernel
theorem dX6_add_25 : decode cX6_add 25 = .ok (.getfield 7, 3) := by decide +kernel
theorem dX6_add_28 : decode cX6_add 28 = .ok (.iconst 2, 1) := by decide +kernel
theorem dX6_add_29 : decode cX6_add 29 = .ok (.iaload, 1) := by decide +kernel
theorem dX6_add_30 : decode cX6_add 30 = .ok (.bipush 60, 2) := by decide +kernel
theorem dX6_add_32 : decode cX6_add 32 = .ok (.if_icmp .ne 6, 3) := by decide +kernel
theorem dX6_add_35 : decode cX6_add 35 = .ok (.bipush (-3), 2) := by decide +kernel
theorem dX6_add_37 : decode cX6_add 37 = .ok (.ireturn, 1) := by decide +kernel
theorem dX6_add_38 : decode cX6_add 38 = .ok (.aload_n 0, 1) := by decide +kernel
theorem dX6_add_39 : decode cX6_add 39 = .ok (.invokevirtual 62, 3) := by decide +kernel
theorem dX6_add_42 : decode cX6_add 42 = .ok (.aload_n 0, 1) := by decide +kernel
theorem dX6_add_43 : decode cX6_add 43 = .ok (.iload_n 1, 1) := by decide +kernel
theorem dX6_add_44 : decode cX6_add 44 = .ok (.ifCond .eq 7, 3) := by decide +kernel
theorem dX6_add_47 : decode cX6_add 47 = .ok (.iconst 1, 1) := by decide +kernel
theorem dX6_add_48 : decode cX6_add 48 = .ok (.goto 4, 3) := by decide +kernel
theorem dX6_add_51 : decode cX6_add 51 = .ok (.iconst 0, 1) := by decide +kernel
theorem dX6_add_52 : decode cX6_add 52 = .ok (.iload_n 2, 1) := by decide +kernel
theorem dX6_add_53 : decode cX6_add 53 = .ok (.iload_n 3, 1) := by decide +kernel
theorem dX6_add_54 : decode cX6_add 54 = .ok (.invokevirtual 105, 3) := by decide +kernel
theorem dX6_add_57 : decode cX6_add 57 = .ok (.aload_n 0, 1) := by decide +kernel
theorem dX6_add_58 : decode cX6_add 58 = .ok (.getfield 7, 3) := by decide +kernel
theorem dX6_add_61 : decode cX6_add 61 = .ok (.iconst 2, 1) := by decide +kernel
theorem dX6_add_62 : decode cX6_add 62 = .ok (.iaload, 1) := by decide +kernel
theorem dX6_add_63 : decode cX6_add 63 = .ok (.iconst 1, 1) := by decide +kernel
theorem dX6_add_64 : decode cX6_add 64 = .ok (.isub, 1) := by decide +kernel
theorem dX6_add_65 : decode cX6_add 65 = .ok (.ireturn, 1) := by decide +kernel
abbrev rmX6_add : Room := { frames := 2, cells := 0, slots := 0, locals := 48 }
def w_X6_add (n : Nat) (M : Mem) (t : Nat) (p1 : Int32) (p2 : Int32) (p3 : Int32) (K : Int32 → Mem → Prop) : Prop := w_X6_in n M p2 (0 : Int32) (99999 : Int32) (fun x2 M1 => ((x2 = 0 → K (-2 : Int32) M1) ∧ (¬ x2 = 0 → w_X6_in n M1 p3 (1 : Int32) (999 : Int32) (fun x4 M3 => ((¬ x4 = 0 → ((t ≤ n ∧ kd t = (6, 0)) ∧ (∀ r6, r6 = gR M3 t 0 → ((r6 ≤ n ∧ (kd r6).1 = 7 ∧ vp_in (2 : Int32) (kd r6).2) ∧ (∀ x7, x7 = gI M3 r6 (Int32.toNatClampNeg (2 : Int32)) → ((¬ x7 = (60 : Int32) → w_X6_record n M3 t  (fun M8 => ((p1 = 0 → w_X6_adds n M8 t (0 : Int32) p2 p3 (fun M9 => (∀ r10, r10 = gR M9 t 0 → ((r10 ≤ n ∧ (kd r10).1 = 7 ∧ vp_in (2 : Int32) (kd r10).2) ∧ (∀ x11, x11 = gI M9 r10 (Int32.toNatClampNeg (2 : Int32)) → K (x11 - (1 : Int32)) M9))))) ∧ (¬ p1 = 0 → w_X6_adds n M8 t (1 : Int32) p2 p3 (fun M12 => (∀ r13, r13 = gR M12 t 0 → ((r13 ≤ n ∧ (kd r13).1 = 7 ∧ vp_in (2 : Int32) (kd r13).2) ∧ (∀ x14, x14 = gI M12 r13 (Int32.toNatClampNeg (2 : Int32)) → K (x14 - (1 : Int32)) M12)))))))) ∧ (x7 = (60 : Int32) → K (-3 : Int32) M3))))))) ∧ (x4 = 0 → K (-2 : Int32) M3))))))
set_option maxHeartbeats 4000000 in
set_option maxRecDepth 20000 in
theorem c_X6_add (l : Launch) (E : Gl) (n : Nat) (M : Mem) (t : Nat) (p1 : Int32) (p2 : Int32) (p3 : Int32) (K : Int32 → Mem → Prop) (hw : w_X6_add n M t p1 p2 p3 K) : CT E l yX6_add cX6_add 4 (some .int) rmX6_add n M [rV t, iV p1, iV p2, iV p3] (PI E n K) := by
  refine g_met l (by decide) (Nat.le_of_ble_eq_true rfl) ?_
  intro p e s m args below meth c X hr hlk hnm hSz hOld
  change CX E p s m c _ _ RX6 at X
  unfold w_X6_add at hw
  refine g_iload_n X dX6_add_0 2 rfl ?_
  refine g_iconst X (0 : Int32) dX6_add_1 (by decide) ?_
  refine g_ldc X (99999 : Int32) dX6_add_2 wk_X6_81 ?_
  refine g_calli (pc' := 7) (rest := []) rfl (fun H locs ls d qR qL => g_runS X cw_X6_50 wt_X6_in ⟨Nat.le_of_ble_eq_true rfl, Nat.le_of_ble_eq_true rfl⟩ dX6_add_4 (c_X6_in l E n M p2 (0 : Int32) (99999 : Int32) _ hw) rfl rfl (Nat.le_of_ble_eq_true rfl) ⟨Nat.le_of_ble_eq_true rfl, Nat.le_of_ble_eq_true rfl⟩ qR qL) (fun x2 M1 hw => ?_)
  refine g_if_eq X 21 dX6_add_7 (by decide) hw (fun hw => ?_) (fun hw => ?_)
  · refine g_bipush X (-2 : Int32) dX6_add_21 (by decide) ?_
    exact g_iret X hr hlk hSz hOld (Nat.le_refl _) dX6_add_23 hw
  · refine g_iload_n X dX6_add_10 3 rfl ?_
    refine g_iconst X (1 : Int32) dX6_add_11 (by decide) ?_
    refine g_sipush X (999 : Int32) dX6_add_12 (by decide) ?_
    refine g_calli (pc' := 18) (rest := []) rfl (fun H locs ls d qR qL => g_runS X cw_X6_50 wt_X6_in ⟨Nat.le_of_ble_eq_true rfl, Nat.le_of_ble_eq_true rfl⟩ dX6_add_15 (c_X6_in l E n M1 p3 (1 : Int32) (999 : Int32) _ hw) rfl rfl (Nat.le_of_ble_eq_true rfl) ⟨Nat.le_of_ble_eq_true rfl, Nat.le_of_ble_eq_true rfl⟩ qR qL) (fun x4 M3 hw => ?_)
    refine g_if_ne X 24 dX6_add_18 (by decide) hw (fun hw => ?_) (fun hw => ?_)
    · refine g_aload_n X dX6_add_24 0 rfl ?_
      obtain ⟨hk5, hw⟩ := hw
      refine g_get X (rV (gR M3 t 0)) dX6_add_25 fl_X6_7 (fun _ => rfl) ⟨hk5, hw⟩ (fun hw => ?_)
      refine g_topR (fun r6 hr6 => ?_)
      have hw := hw r6 hr6
      refine g_iconst X (2 : Int32) dX6_add_28 (by decide) ?_
      refine g_iald X dX6_add_29 hw (fun hw => ?_)
      refine g_topI (fun x7 hx7 => ?_)
      have hw := hw x7 hx7
      refine g_bipush X (60 : Int32) dX6_add_30 (by decide) ?_
      refine g_icmp_ne X 38 dX6_add_32 (by decide) hw (fun hw => ?_) (fun hw => ?_)
      · refine g_aload_n X dX6_add_38 0 rfl ?_
        refine g_callv (pc' := 42) (rest := []) rfl (fun H locs ls d qR qL => g_runV X cw_X6_62 iv_X6_record ⟨Nat.le_of_ble_eq_true rfl, Nat.le_of_ble_eq_true rfl⟩ dX6_add_39 (c_X6_record l E n M3 t  _ hw) hk5 rfl rfl (Nat.le_of_ble_eq_true rfl) ⟨Nat.le_of_ble_eq_true rfl, Nat.le_of_ble_eq_true rfl⟩ qR qL) (fun M8 hw => ?_)
        refine g_aload_n X dX6_add_42 0 rfl ?_
        refine g_iload_n X dX6_add_43 1 rfl ?_
        refine g_if_eq X 51 dX6_add_44 (by decide) hw (fun hw => ?_) (fun hw => ?_)
        · refine g_iconst X (0 : Int32) dX6_add_51 (by decide) ?_
          refine g_iload_n X dX6_add_52 2 rfl ?_
          refine g_iload_n X dX6_add_53 3 rfl ?_
          refine g_callv (pc' := 57) (rest := []) rfl (fun H locs ls d qR qL => g_runV X cw_X6_105 iv_X6_adds ⟨Nat.le_of_ble_eq_true rfl, Nat.le_of_ble_eq_true rfl⟩ dX6_add_54 (c_X6_adds l E n M8 t (0 : Int32) p2 p3 _ hw) hk5 rfl rfl (Nat.le_of_ble_eq_true rfl) ⟨Nat.le_of_ble_eq_true rfl, Nat.le_of_ble_eq_true rfl⟩ qR qL) (fun M9 hw => ?_)
          refine g_aload_n X dX6_add_57 0 rfl ?_
          refine g_get X (rV (gR M9 t 0)) dX6_add_58 fl_X6_7 (fun _ => rfl) ⟨hk5, hw⟩ (fun hw => ?_)
          refine g_topR (fun r10 hr10 => ?_)
          have hw := hw r10 hr10
          refine g_iconst X (2 : Int32) dX6_add_61 (by decide) ?_
          refine g_iald X dX6_add_62 hw (fun hw => ?_)
          refine g_topI (fun x11 hx11 => ?_)
          have hw := hw x11 hx11
          refine g_iconst X (1 : Int32) dX6_add_63 (by decide) ?_
          refine g_isub X dX6_add_64 ?_
          exact g_iret X hr hlk hSz hOld (Nat.le_refl _) dX6_add_65 hw
        · refine g_iconst X (1 : Int32) dX6_add_47 (by decide) ?_
          refine g_goto X 52 dX6_add_48 (by decide) ?_
          refine g_iload_n X dX6_add_52 2 rfl ?_
          refine g_iload_n X dX6_add_53 3 rfl ?_
          refine g_callv (pc' := 57) (rest := []) rfl (fun H locs ls d qR qL => g_runV X cw_X6_105 iv_X6_adds ⟨Nat.le_of_ble_eq_true rfl, Nat.le_of_ble_eq_true rfl⟩ dX6_add_54 (c_X6_adds l E n M8 t (1 : Int32) p2 p3 _ hw) hk5 rfl rfl (Nat.le_of_ble_eq_true rfl) ⟨Nat.le_of_ble_eq_true rfl, Nat.le_of_ble_eq_true rfl⟩ qR qL) (fun M12 hw => ?_)
          refine g_aload_n X dX6_add_57 0 rfl ?_
          refine g_get X (rV (gR M12 t 0)) dX6_add_58 fl_X6_7 (fun _ => rfl) ⟨hk5, hw⟩ (fun hw => ?_)
          refine g_topR (fun r13 hr13 => ?_)
          have hw := hw r13 hr13
          refine g_iconst X (2 : Int32) dX6_add_61 (by decide) ?_
          refine g_iald X dX6_add_62 hw (fun hw => ?_)
          refine g_topI (fun x14 hx14 => ?_)
          have hw := hw x14 hx14
          refine g_iconst X (1 : Int32) dX6_add_63 (by decide) ?_
          refine g_isub X dX6_add_64 ?_
          exact g_iret X hr hlk hSz hOld (Nat.le_refl _) dX6_add_65 hw
      · refine g_bipush X (-3 : Int32) dX6_add_35 (by decide) ?_
        exact g_iret X hr hlk hSz hOld (Nat.le_refl _) dX6_add_37 hw
    · refine g_bipush X (-2 : Int32) dX6_add_21 (by decide) ?_
      exact g_iret X hr hlk hSz hOld (Nat.le_refl _) dX6_add_23 hw
theorem dX6_takes_0 : decode cX6_takes 0 = .ok (.aload_n 0, 1) := by decide +kernel
theorem dX6_takes_1 : decode cX6_takes 1 = .ok (.iload_n 1, 1) := by decide +kernel
theorem dX6_takes_2 : decode cX6_takes 2 = .ok (.iconst 1, 1) := by decide +kernel
theorem dX6_takes_3 : decode cX6_takes 3 = .ok (.invokevirtual 54, 3) := by decide +kernel
theorem dX6_takes_6 : decode cX6_takes 6 = .ok (.istore_n 3, 1) := by decide +kernel
theorem dX6_takes_7 : decode cX6_takes 7 = .ok (.iload_n 3, 1) := by decide +kernel
theorem dX6_takes_8 : decode cX6_takes 8 = .ok (.ifCond .eq 15, 3) := by decide +kernel
theorem dX6_takes_11 : decode cX6_takes 11 = .ok (.iload_n 3, 1) := by decide +kernel
theorem dX6_takes_12 : decode cX6_takes 12 = .ok (.iconst 1, 1) := by decide +kernel
theorem dX6_takes_13 : decode cX6_takes 13 = .ok (.aload_n 0, 1) := by decide +kernel
theorem dX6_takes_14 : decode cX6_takes 14 = .ok (.iload_n 2, 1) := by decide +kernel
theorem dX6_takes_15 : decode cX6_takes 15 = .ok (.iconst 0, 1) := by decide +kernel
theorem dX6_takes_16 : decode cX6_takes 16 = .ok (.invokevirtual 108, 3) := by decide +kernel
theorem dX6_takes_19 : decode cX6_takes 19 = .ok (.iadd, 1) := by decide +kernel
theorem dX6_takes_20 : decode cX6_takes 20 = .ok (.if_icmp .ne 7, 3) := by decide +kernel
theorem dX6_takes_23 : decode cX6_takes 23 = .ok (.iconst 1, 1) := by decide +kernel
theorem dX6_takes_24 : decode cX6_takes 24 = .ok (.goto 4, 3) := by decide +kernel
theorem dX6_takes_27 : decode cX6_takes 27 = .ok (.iconst 0, 1) := by decide +kernel
theorem dX6_takes_28 : decode cX6_takes 28 = .ok (.ireturn, 1) := by decide +kernel
abbrev rmX6_takes : Room := { frames := 1, cells := 0, slots := 0, locals := 22 }
def w_X6_takes (n : Nat) (M : Mem) (t : Nat) (p1 : Int32) (p2 : Int32) (K : Int32 → Mem → Prop) : Prop := ((t ≤ n ∧ kd t = (6, 0)) ∧ w_X6_ofHead n M t p1 (1 : Int32) (fun x3 M2 => ((x3 = 0 → K (1 : Int32) M2) ∧ (¬ x3 = 0 → w_X6_ofPart n M2 t p2 (0 : Int32) (fun x5 M4 => ((¬ x3 = ((1 : Int32) + x5) → K (0 : Int32) M4) ∧ (x3 = ((1 : Int32) + x5) → K (1 : Int32) M4)))))))
set_option maxHeartbeats 4000000 in
set_option maxRecDepth 20000 in
theorem c_X6_takes (l : Launch) (E : Gl) (n : Nat) (M : Mem) (t : Nat) (p1 : Int32) (p2 : Int32) (K : Int32 → Mem → Prop) (hw : w_X6_takes n M t p1 p2 K) : CT E l yX6_takes cX6_takes 4 (some .boolean) rmX6_takes n M [rV t, iV p1, iV p2] (PI E n K) := by
  refine g_met l (by decide) (Nat.le_of_ble_eq_true rfl) ?_
  intro p e s m args below meth c X hr hlk hnm hSz hOld
  change CX E p s m c _ _ RX6 at X
  unfold w_X6_takes at hw
  refine g_aload_n X dX6_takes_0 0 rfl ?_
  refine g_iload_n X dX6_takes_1 1 rfl ?_
  refine g_iconst X (1 : Int32) dX6_takes_2 (by decide) ?_
  obtain ⟨hk1, hw⟩ := hw
  refine g_calli (pc' := 6) (rest := []) rfl (fun H locs ls d qR qL => g_runV X cw_X6_54 iv_X6_ofHead ⟨Nat.le_of_ble_eq_true rfl, Nat.le_of_ble_eq_true rfl⟩ dX6_takes_3 (c_X6_ofHead l E n M t p1 (1 : Int32) _ hw) hk1 rfl rfl (Nat.le_of_ble_eq_true rfl) ⟨Nat.le_of_ble_eq_true rfl, Nat.le_of_ble_eq_true rfl⟩ qR qL) (fun x3 M2 hw => ?_)
  refine g_istore_n (lv' := [(3, iV x3), (0, rV t), (1, iV p1), (2, iV p2)]) X dX6_takes_6 (by decide) rfl ?_
  refine g_iload_n X dX6_takes_7 0 rfl ?_
  refine g_if_eq X 23 dX6_takes_8 (by decide) hw (fun hw => ?_) (fun hw => ?_)
  · refine g_iconst X (1 : Int32) dX6_takes_23 (by decide) ?_
    refine g_goto X 28 dX6_takes_24 (by decide) ?_
    exact g_zret X hr hlk hSz hOld (Nat.le_refl _) dX6_takes_28 ⟨rfl, hw⟩
  · refine g_iload_n X dX6_takes_11 0 rfl ?_
    refine g_iconst X (1 : Int32) dX6_takes_12 (by decide) ?_
    refine g_aload_n X dX6_takes_13 1 rfl ?_
    refine g_iload_n X dX6_takes_14 3 rfl ?_
    refine g_iconst X (0 : Int32) dX6_takes_15 (by decide) ?_
    refine g_calli (pc' := 19) (rest := [iV (1 : Int32), iV x3]) rfl (fun H locs ls d qR qL => g_runV X cw_X6_108 iv_X6_ofPart ⟨Nat.le_of_ble_eq_true rfl, Nat.le_of_ble_eq_true rfl⟩ dX6_takes_16 (c_X6_ofPart l E n M2 t p2 (0 : Int32) _ hw) hk1 rfl rfl (Nat.le_of_ble_eq_true rfl) ⟨Nat.le_of_ble_eq_true rfl, Nat.le_of_ble_eq_true rfl⟩ qR qL) (fun x5 M4 hw => ?_)
    refine g_iadd X dX6_takes_19 ?_
    refine g_icmp_ne X 27 dX6_takes_20 (by decide) hw (fun hw => ?_) (fun hw => ?_)
    · refine g_iconst X (0 : Int32) dX6_takes_27 (by decide) ?_
      exact g_zret X hr hlk hSz hOld (Nat.le_refl _) dX6_takes_28 ⟨rfl, hw⟩
    · refine g_iconst X (1 : Int32) dX6_takes_23 (by decide) ?_
      refine g_goto X 28 dX6_takes_24 (by decide) ?_
      exact g_zret X hr hlk hSz hOld (Nat.le_refl _) dX6_takes_28 ⟨rfl, hw⟩
theorem dX6_rejects_0 : decode cX6_rejects 0 = .ok (.aload_n 0, 1) := by decide +kernel
theorem dX6_rejects_1 : decode cX6_rejects 1 = .ok (.iload_n 1, 1) := by decide +kernel
theorem dX6_rejects_2 : decode cX6_rejects 2 = .ok (.iconst 3, 1) := by decide +kernel
theorem dX6_rejects_3 : decode cX6_rejects 3 = .ok (.iconst 3, 1) := by decide +kernel
theorem dX6_rejects_4 : decode cX6_rejects 4 = .ok (.invokevirtual 98, 3) := by decide +kernel
theorem dX6_rejects_7 : decode cX6_rejects 7 = .ok (.aload_n 0, 1) := by decide +kernel
theorem dX6_rejects_8 : decode cX6_rejects 8 = .ok (.iload_n 1, 1) := by decide +kernel
theorem dX6_rejects_9 : decode cX6_rejects 9 = .ok (.bipush 7, 2) := by decide +kernel
theorem dX6_rejects_11 : decode cX6_rejects 11 = .ok (.iload_n 2, 1) := by decide +kernel
theorem dX6_rejects_12 : decode cX6_rejects 12 = .ok (.invokevirtual 98, 3) := by decide +kernel
theorem dX6_rejects_15 : decode cX6_rejects 15 = .ok (.aload_n 0, 1) := by decide +kernel
theorem dX6_rejects_16 : decode cX6_rejects 16 = .ok (.getfield 7, 3) := by decide +kernel
theorem dX6_rejects_19 : decode cX6_rejects 19 = .ok (.iconst 5, 1) := by decide +kernel
theorem dX6_rejects_20 : decode cX6_rejects 20 = .ok (.iload_n 2, 1) := by decide +kernel
theorem dX6_rejects_21 : decode cX6_rejects 21 = .ok (.iadd, 1) := by decide +kernel
theorem dX6_rejects_22 : decode cX6_rejects 22 = .ok (.dup2, 1) := by decide +kernel
theorem dX6_rejects_23 : decode cX6_rejects 23 = .ok (.iaload, 1) := by decide +kernel
theorem dX6_rejects_24 : decode cX6_rejects 24 = .ok (.iconst 1, 1) := by decide +kernel
theorem dX6_rejects_25 : decode cX6_rejects 25 = .ok (.iadd, 1) := by decide +kernel
theorem dX6_rejects_26 : decode cX6_rejects 26 = .ok (.iastore, 1) := by decide +kernel
theorem dX6_rejects_27 : decode cX6_rejects 27 = .ok (.return_, 1) := by decide +kernel
abbrev rmX6_rejects : Room := { frames := 1, cells := 0, slots := 0, locals := 23 }
def w_X6_rejects (n : Nat) (M : Mem) (t : Nat) (p1 : Int32) (p2 : Int32) (K : Mem → Prop) : Prop := ((t ≤ n ∧ kd t = (6, 0)) ∧ w_X6_put n M t p1 (3 : Int32) (3 : Int32) (fun M2 => w_X6_put n M2 t p1 (7 : Int32) p2 (fun M3 => (∀ r4, r4 = gR M3 t 0 → ((r4 ≤ n ∧ (kd r4).1 = 7 ∧ vp_in ((5 : Int32) + p2) (kd r4).2) ∧ (∀ x5, x5 = gI M3 r4 (Int32.toNatClampNeg ((5 : Int32) + p2)) → ((r4 ≤ n ∧ (kd r4).1 = 7 ∧ vp_in ((5 : Int32) + p2) (kd r4).2) ∧ (∀ M6, M6 = sI M3 r4 (Int32.toNatClampNeg ((5 : Int32) + p2)) (x5 + (1 : Int32)) → K M6))))))))
set_option maxHeartbeats 4000000 in
set_option maxRecDepth 20000 in
theorem c_X6_rejects (l : Launch) (E : Gl) (n : Nat) (M : Mem) (t : Nat) (p1 : Int32) (p2 : Int32) (K : Mem → Prop) (hw : w_X6_rejects n M t p1 p2 K) : CT E l yX6_rejects cX6_rejects 3 none rmX6_rejects n M [rV t, iV p1, iV p2] (PV E n K) := by
  refine g_met l (by decide) (Nat.le_of_ble_eq_true rfl) ?_
  intro p e s m args below meth c X hr hlk hnm hSz hOld
  change CX E p s m c _ _ RX6 at X
  unfold w_X6_rejects at hw
  refine g_aload_n X dX6_rejects_0 0 rfl ?_
  refine g_iload_n X dX6_rejects_1 1 rfl ?_
  refine g_iconst X (3 : Int32) dX6_rejects_2 (by decide) ?_
  refine g_iconst X (3 : Int32) dX6_rejects_3 (by decide) ?_
  obtain ⟨hk1, hw⟩ := hw
  refine g_callv (pc' := 7) (rest := []) rfl (fun H locs ls d qR qL => g_runV X cw_X6_98 iv_X6_put ⟨Nat.le_of_ble_eq_true rfl, Nat.le_of_ble_eq_true rfl⟩ dX6_rejects_4 (c_X6_put l E n M t p1 (3 : Int32) (3 : Int32) _ hw) hk1 rfl rfl (Nat.le_of_ble_eq_true rfl) ⟨Nat.le_of_ble_eq_true rfl, Nat.le_of_ble_eq_true rfl⟩ qR qL) (fun M2 hw => ?_)
  refine g_aload_n X dX6_rejects_7 0 rfl ?_
  refine g_iload_n X dX6_rejects_8 1 rfl ?_
  refine g_bipush X (7 : Int32) dX6_rejects_9 (by decide) ?_
  refine g_iload_n X dX6_rejects_11 2 rfl ?_
  refine g_callv (pc' := 15) (rest := []) rfl (fun H locs ls d qR qL => g_runV X cw_X6_98 iv_X6_put ⟨Nat.le_of_ble_eq_true rfl, Nat.le_of_ble_eq_true rfl⟩ dX6_rejects_12 (c_X6_put l E n M2 t p1 (7 : Int32) p2 _ hw) hk1 rfl rfl (Nat.le_of_ble_eq_true rfl) ⟨Nat.le_of_ble_eq_true rfl, Nat.le_of_ble_eq_true rfl⟩ qR qL) (fun M3 hw => ?_)
  refine g_aload_n X dX6_rejects_15 0 rfl ?_
  refine g_get X (rV (gR M3 t 0)) dX6_rejects_16 fl_X6_7 (fun _ => rfl) ⟨hk1, hw⟩ (fun hw => ?_)
  refine g_topR (fun r4 hr4 => ?_)
  have hw := hw r4 hr4
  refine g_iconst X (5 : Int32) dX6_rejects_19 (by decide) ?_
  refine g_iload_n X dX6_rejects_20 2 rfl ?_
  refine g_iadd X dX6_rejects_21 ?_
  refine g_dup2 X dX6_rejects_22 rfl rfl ?_
  refine g_iald X dX6_rejects_23 hw (fun hw => ?_)
  refine g_topI (fun x5 hx5 => ?_)
  have hw := hw x5 hx5
  refine g_iconst X (1 : Int32) dX6_rejects_24 (by decide) ?_
  refine g_iadd X dX6_rejects_25 ?_
  refine g_iast X dX6_rejects_26 hw (fun hw => ?_)
  refine g_topM (fun M6 hM6 => ?_)
  have hw := hw M6 hM6
  exact g_vret X hr hlk hSz hOld (Nat.le_refl _) dX6_rejects_27 hw
theorem dX6_judged_0 : decode cX6_judged 0 = .ok (.aload_n 0, 1) := by decide +kernel
theorem dX6_judged_1 : decode cX6_judged 1 = .ok (.iload_n 1, 1) := by decide +kernel
theorem dX6_judged_2 : decode cX6_judged 2 = .ok (.invokevirtual 111, 3) := by decide +kernel
theorem dX6_judged_5 : decode cX6_judged 5 = .ok (.aload_n 0, 1) := by decide +kernel
theorem dX6_judged_6 : decode cX6_judged 6 = .ok (.iload_n 1, 1) := by decide +kernel
theorem dX6_judged_7 : decode cX6_judged 7 = .ok (.iconst 0, 1) := by decide +kernel
theorem dX6_judged_8 : decode cX6_judged 8 = .ok (.invokevirtual 58, 3) := by decide +kernel
theorem dX6_judged_11 : decode cX6_judged 11 = .ok (.ldc2_w 114, 3) := by decide +kernel
theorem dX6_judged_14 : decode cX6_judged 14 = .ok (.ddiv, 1) := by decide +kernel
theorem dX6_judged_15 : decode cX6_judged 15 = .ok (.dcmp .g, 1) := by decide +kernel
theorem dX6_judged_16 : decode cX6_judged 16 = .ok (.ifCond .ge 5, 3) := by decide +kernel
theorem dX6_judged_19 : decode cX6_judged 19 = .ok (.iconst 1, 1) := by decide +kernel
theorem dX6_judged_20 : decode cX6_judged 20 = .ok (.ireturn, 1) := by decide +kernel
theorem dX6_judged_21 : decode cX6_judged 21 = .ok (.aload_n 0, 1) := by decide +kernel
theorem dX6_judged_22 : decode cX6_judged 22 = .ok (.iload_n 1, 1) := by decide +kernel
theorem dX6_judged_23 : decode cX6_judged 23 = .ok (.iconst 2, 1) := by decide +kernel
theorem dX6_judged_24 : decode cX6_judged 24 = .ok (.invokevirtual 54, 3) := by decide +kernel
theorem dX6_judged_27 : decode cX6_judged 27 = .ok (.aload_n 0, 1) := by decide +kernel
theorem dX6_judged_28 : decode cX6_judged 28 = .ok (.getfield 7, 3) := by decide +kernel
theorem dX6_judged_31 : decode cX6_judged 31 = .ok (.iconst 3, 1) := by decide +kernel
theorem dX6_judged_32 : decode cX6_judged 32 = .ok (.iaload, 1) := by decide +kernel
theorem dX6_judged_33 : decode cX6_judged 33 = .ok (.if_icmp .le 6, 3) := by decide +kernel
theorem dX6_judged_36 : decode cX6_judged 36 = .ok (.bipush 14, 2) := by decide +kernel
theorem dX6_judged_38 : decode cX6_judged 38 = .ok (.ireturn, 1) := by decide +kernel
theorem dX6_judged_39 : decode cX6_judged 39 = .ok (.dload_n 2, 1) := by decide +kernel
theorem dX6_judged_40 : decode cX6_judged 40 = .ok (.aload_n 0, 1) := by decide +kernel
theorem dX6_judged_41 : decode cX6_judged 41 = .ok (.getfield 19, 3) := by decide +kernel
theorem dX6_judged_44 : decode cX6_judged 44 = .ok (.iconst 1, 1) := by decide +kernel
theorem dX6_judged_45 : decode cX6_judged 45 = .ok (.daload, 1) := by decide +kernel
theorem dX6_judged_46 : decode cX6_judged 46 = .ok (.dcmp .g, 1) := by decide +kernel
theorem dX6_judged_47 : decode cX6_judged 47 = .ok (.ifCond .gt 7, 3) := by decide +kernel
theorem dX6_judged_50 : decode cX6_judged 50 = .ok (.iconst 0, 1) := by decide +kernel
theorem dX6_judged_51 : decode cX6_judged 51 = .ok (.goto 20, 3) := by decide +kernel
theorem dX6_judged_54 : decode cX6_judged 54 = .ok (.dload_n 2, 1) := by decide +kernel
theorem dX6_judged_55 : decode cX6_judged 55 = .ok (.aload_n 0, 1) := by decide +kernel
theorem dX6_judged_56 : decode cX6_judged 56 = .ok (.getfield 19, 3) := by decide +kernel
theorem dX6_judged_59 : decode cX6_judged 59 = .ok (.iconst 2, 1) := by decide +kernel
theorem dX6_judged_60 : decode cX6_judged 60 = .ok (.daload, 1) := by decide +kernel
theorem dX6_judged_61 : decode cX6_judged 61 = .ok (.dcmp .l, 1) := by decide +kernel
theorem dX6_judged_62 : decode cX6_judged 62 = .ok (.ifCond .le 7, 3) := by decide +kernel
theorem dX6_judged_65 : decode cX6_judged 65 = .ok (.iconst 2, 1) := by decide +kernel
theorem dX6_judged_66 : decode cX6_judged 66 = .ok (.goto 5, 3) := by decide +kernel
theorem dX6_judged_69 : decode cX6_judged 69 = .ok (.bipush 13, 2) := by decide +kernel
theorem dX6_judged_71 : decode cX6_judged 71 = .ok (.ireturn, 1) := by decide +kernel
abbrev rmX6_judged : Room := { frames := 2, cells := 0, slots := 0, locals := 43 }
def w_X6_judged (n : Nat) (M : Mem) (t : Nat) (p1 : Int32) (p2 : UInt64) (K : Int32 → Mem → Prop) : Prop := ((t ≤ n ∧ kd t = (6, 0)) ∧ w_X6_present n M t p1 (fun z3 M2 => w_X6_traced n M2 t p1 (0 : Int32) (fun z5 M4 => (vf_n64 (FP.ddiv z5 (4611686018427387904 : UInt64)) ∧ (∀ z6, z6 = FP.ddiv z5 (4611686018427387904 : UInt64) → ((0 ≤ (Op.cmpValue (FP.dcmp z3 z6) CmpOp.g) → w_X6_ofHead n M4 t p1 (2 : Int32) (fun x8 M7 => (∀ r9, r9 = gR M7 t 0 → ((r9 ≤ n ∧ (kd r9).1 = 7 ∧ vp_in (3 : Int32) (kd r9).2) ∧ (∀ x10, x10 = gI M7 r9 (Int32.toNatClampNeg (3 : Int32)) → ((x8 ≤ x10 → (∀ r11, r11 = gR M7 t 3 → ((r11 ≤ n ∧ (kd r11).1 = 8 ∧ vp_in (1 : Int32) (kd r11).2) ∧ (∀ z12, z12 = gD M7 r11 (Int32.toNatClampNeg (1 : Int32)) → ((0 < (Op.cmpValue (FP.dcmp p2 z12) CmpOp.g) → (∀ r13, r13 = gR M7 t 3 → ((r13 ≤ n ∧ (kd r13).1 = 8 ∧ vp_in (2 : Int32) (kd r13).2) ∧ (∀ z14, z14 = gD M7 r13 (Int32.toNatClampNeg (2 : Int32)) → (((Op.cmpValue (FP.dcmp p2 z14) CmpOp.l) ≤ 0 → K (13 : Int32) M7) ∧ (¬ (Op.cmpValue (FP.dcmp p2 z14) CmpOp.l) ≤ 0 → K (2 : Int32) M7)))))) ∧ (¬ 0 < (Op.cmpValue (FP.dcmp p2 z12) CmpOp.g) → K (0 : Int32) M7)))))) ∧ (¬ x8 ≤ x10 → K (14 : Int32) M7))))))) ∧ (¬ 0 ≤ (Op.cmpValue (FP.dcmp z3 z6) CmpOp.g) → K (1 : Int32) M4)))))))
set_option maxHeartbeats 4000000 in
set_option maxRecDepth 20000 in
theorem c_X6_judged (l : Launch) (E : Gl) (n : Nat) (M : Mem) (t : Nat) (p1 : Int32) (p2 : UInt64) (K : Int32 → Mem → Prop) (hw : w_X6_judged n M t p1 p2 K) : CT E l yX6_judged cX6_judged 4 (some .int) rmX6_judged n M [rV t, iV p1, dV p2] (PI E n K) := by
  refine g_met l (by decide) (Nat.le_of_ble_eq_true rfl) ?_
  intro p e s m args below meth c X hr hlk hnm hSz hOld
  change CX E p s m c _ _ RX6 at X
  unfold w_X6_judged at hw
  refine g_aload_n X dX6_judged_0 0 rfl ?_
  refine g_iload_n X dX6_judged_1 1 rfl ?_
  obtain ⟨hk1, hw⟩ := hw
  refine g_calld (pc' := 5) (rest := []) rfl (fun H locs ls d qR qL => g_runV X cw_X6_111 iv_X6_present ⟨Nat.le_of_ble_eq_true rfl, Nat.le_of_ble_eq_true rfl⟩ dX6_judged_2 (c_X6_present l E n M t p1 _ hw) hk1 rfl rfl (Nat.le_of_ble_eq_true rfl) ⟨Nat.le_of_ble_eq_true rfl, Nat.le_of_ble_eq_true rfl⟩ qR qL) (fun z3 M2 hw => ?_)
  refine g_aload_n X dX6_judged_5 0 rfl ?_
  refine g_iload_n X dX6_judged_6 1 rfl ?_
  refine g_iconst X (0 : Int32) dX6_judged_7 (by decide) ?_
  refine g_calld (pc' := 11) (rest := [dV z3]) rfl (fun H locs ls d qR qL => g_runV X cw_X6_58 iv_X6_traced ⟨Nat.le_of_ble_eq_true rfl, Nat.le_of_ble_eq_true rfl⟩ dX6_judged_8 (c_X6_traced l E n M2 t p1 (0 : Int32) _ hw) hk1 rfl rfl (Nat.le_of_ble_eq_true rfl) ⟨Nat.le_of_ble_eq_true rfl, Nat.le_of_ble_eq_true rfl⟩ qR qL) (fun z5 M4 hw => ?_)
  refine g_ldcD X (4611686018427387904 : UInt64) dX6_judged_11 wk_X6_114 ?_
  refine g_ddiv X dX6_judged_14 hw (fun hw => ?_)
  refine g_topD (fun z6 hz6 => ?_)
  have hw := hw z6 hz6
  refine g_dcmp X dX6_judged_15 ?_
  refine g_if_ge X 21 dX6_judged_16 (by decide) hw (fun hw => ?_) (fun hw => ?_)
  · refine g_aload_n X dX6_judged_21 0 rfl ?_
    refine g_iload_n X dX6_judged_22 1 rfl ?_
    refine g_iconst X (2 : Int32) dX6_judged_23 (by decide) ?_
    refine g_calli (pc' := 27) (rest := []) rfl (fun H locs ls d qR qL => g_runV X cw_X6_54 iv_X6_ofHead ⟨Nat.le_of_ble_eq_true rfl, Nat.le_of_ble_eq_true rfl⟩ dX6_judged_24 (c_X6_ofHead l E n M4 t p1 (2 : Int32) _ hw) hk1 rfl rfl (Nat.le_of_ble_eq_true rfl) ⟨Nat.le_of_ble_eq_true rfl, Nat.le_of_ble_eq_true rfl⟩ qR qL) (fun x8 M7 hw => ?_)
    refine g_aload_n X dX6_judged_27 0 rfl ?_
    refine g_get X (rV (gR M7 t 0)) dX6_judged_28 fl_X6_7 (fun _ => rfl) ⟨hk1, hw⟩ (fun hw => ?_)
    refine g_topR (fun r9 hr9 => ?_)
    have hw := hw r9 hr9
    refine g_iconst X (3 : Int32) dX6_judged_31 (by decide) ?_
    refine g_iald X dX6_judged_32 hw (fun hw => ?_)
    refine g_topI (fun x10 hx10 => ?_)
    have hw := hw x10 hx10
    refine g_icmp_le X 39 dX6_judged_33 (by decide) hw (fun hw => ?_) (fun hw => ?_)
    · refine g_dload_n X dX6_judged_39 2 rfl ?_
      refine g_aload_n X dX6_judged_40 0 rfl ?_
      refine g_get X (rV (gR M7 t 3)) dX6_judged_41 fl_X6_19 (fun _ => rfl) ⟨hk1, hw⟩ (fun hw => ?_)
      refine g_topR (fun r11 hr11 => ?_)
      have hw := hw r11 hr11
      refine g_iconst X (1 : Int32) dX6_judged_44 (by decide) ?_
      refine g_dald X dX6_judged_45 hw (fun hw => ?_)
      refine g_topD (fun z12 hz12 => ?_)
      have hw := hw z12 hz12
      refine g_dcmp X dX6_judged_46 ?_
      refine g_if_gt X 54 dX6_judged_47 (by decide) hw (fun hw => ?_) (fun hw => ?_)
      · refine g_dload_n X dX6_judged_54 2 rfl ?_
        refine g_aload_n X dX6_judged_55 0 rfl ?_
        refine g_get X (rV (gR M7 t 3)) dX6_judged_56 fl_X6_19 (fun _ => rfl) ⟨hk1, hw⟩ (fun hw => ?_)
        refine g_topR (fun r13 hr13 => ?_)
        have hw := hw r13 hr13
        refine g_iconst X (2 : Int32) dX6_judged_59 (by decide) ?_
        refine g_dald X dX6_judged_60 hw (fun hw => ?_)
        refine g_topD (fun z14 hz14 => ?_)
        have hw := hw z14 hz14
        refine g_dcmp X dX6_judged_61 ?_
        refine g_if_le X 69 dX6_judged_62 (by decide) hw (fun hw => ?_) (fun hw => ?_)
        · refine g_bipush X (13 : Int32) dX6_judged_69 (by decide) ?_
          exact g_iret X hr hlk hSz hOld (Nat.le_refl _) dX6_judged_71 hw
        · refine g_iconst X (2 : Int32) dX6_judged_65 (by decide) ?_
          refine g_goto X 71 dX6_judged_66 (by decide) ?_
          exact g_iret X hr hlk hSz hOld (Nat.le_refl _) dX6_judged_71 hw
      · refine g_iconst X (0 : Int32) dX6_judged_50 (by decide) ?_
        refine g_goto X 71 dX6_judged_51 (by decide) ?_
        exact g_iret X hr hlk hSz hOld (Nat.le_refl _) dX6_judged_71 hw
    · refine g_bipush X (14 : Int32) dX6_judged_36 (by decide) ?_
      exact g_iret X hr hlk hSz hOld (Nat.le_refl _) dX6_judged_38 hw
  · refine g_iconst X (1 : Int32) dX6_judged_19 (by decide) ?_
    exact g_iret X hr hlk hSz hOld (Nat.le_refl _) dX6_judged_20 hw
theorem dX6_ends_0 : decode cX6_ends 0 = .ok (.aload_n 0, 1) := by decide +kernel
theorem dX6_ends_1 : decode cX6_ends 1 = .ok (.iload_n 1, 1) := by decide +kernel
theorem dX6_ends_2 : decode cX6_ends 2 = .ok (.invokevirtual 82, 3) := by decide +kernel
theorem dX6_ends_5 : decode cX6_ends 5 = .ok (.istore_n 2, 1) := by decide +kernel
theorem dX6_ends_6 : decode cX6_ends 6 = .ok (.aload_n 0, 1) := by decide +kernel
theorem dX6_ends_7 : decode cX6_ends 7 = .ok (.iload_n 1, 1) := by decide +kernel
theorem dX6_ends_8 : decode cX6_ends 8 = .ok (.iconst 0, 1) := by decide +kernel
theorem dX6_ends_9 : decode cX6_ends 9 = .ok (.invokevirtual 58, 3) := by decide +kernel
theorem dX6_ends_12 : decode cX6_ends 12 = .ok (.aload_n 0, 1) := by decide +kernel
theorem dX6_ends_13 : decode cX6_ends 13 = .ok (.iload_n 1, 1) := by decide +kernel
theorem dX6_ends_14 : decode cX6_ends 14 = .ok (.invokevirtual 111, 3) := by decide +kernel
theorem dX6_ends_17 : decode cX6_ends 17 = .ok (.dsub, 1) := by decide +kernel
theorem dX6_ends_18 : decode cX6_ends 18 = .ok (.dstore_n 3, 1) := by decide +kernel
theorem dX6_ends_19 : decode cX6_ends 19 = .ok (.dload_n 3, 1) := by decide +kernel
theorem dX6_ends_20 : decode cX6_ends 20 = .ok (.aload_n 0, 1) := by decide +kernel
theorem dX6_ends_21 : decode cX6_ends 21 = .ok (.iload_n 2, 1) := by decide +kernel
theorem dX6_ends_22 : decode cX6_ends 22 = .ok (.iconst 2, 1) := by decide +kernel
theorem dX6_ends_23 : decode cX6_ends 23 = .ok (.invokevirtual 108, 3) := by decide +kernel
theorem dX6_ends_26 : decode cX6_ends 26 = .ok (.i2d, 1) := by decide +kernel
theorem dX6_ends_27 : decode cX6_ends 27 = .ok (.dmul, 1) := by decide +kernel
theorem dX6_ends_28 : decode cX6_ends 28 = .ok (.aload_n 0, 1) := by decide +kernel
theorem dX6_ends_29 : decode cX6_ends 29 = .ok (.getfield 7, 3) := by decide +kernel
theorem dX6_ends_32 : decode cX6_ends 32 = .ok (.iconst 0, 1) := by decide +kernel
theorem dX6_ends_33 : decode cX6_ends 33 = .ok (.iaload, 1) := by decide +kernel
theorem dX6_ends_34 : decode cX6_ends 34 = .ok (.iconst 1, 1) := by decide +kernel
theorem dX6_ends_35 : decode cX6_ends 35 = .ok (.isub, 1) := by decide +kernel
theorem dX6_ends_36 : decode cX6_ends 36 = .ok (.i2d, 1) := by decide +kernel
theorem dX6_ends_37 : decode cX6_ends 37 = .ok (.ddiv, 1) := by decide +kernel
theorem dX6_ends_38 : decode cX6_ends 38 = .ok (.aload_n 0, 1) := by decide +kernel
theorem dX6_ends_39 : decode cX6_ends 39 = .ok (.iload_n 1, 1) := by decide +kernel
theorem dX6_ends_40 : decode cX6_ends 40 = .ok (.invokevirtual 94, 3) := by decide +kernel
theorem dX6_ends_43 : decode cX6_ends 43 = .ok (.dmul, 1) := by decide +kernel
theorem dX6_ends_44 : decode cX6_ends 44 = .ok (.dstore 5, 2) := by decide +kernel
theorem dX6_ends_46 : decode cX6_ends 46 = .ok (.dload 5, 2) := by decide +kernel
theorem dX6_ends_48 : decode cX6_ends 48 = .ok (.aload_n 0, 1) := by decide +kernel
theorem dX6_ends_49 : decode cX6_ends 49 = .ok (.iload_n 1, 1) := by decide +kernel
theorem dX6_ends_50 : decode cX6_ends 50 = .ok (.invokevirtual 116, 3) := by decide +kernel
theorem dX6_ends_53 : decode cX6_ends 53 = .ok (.dmul, 1) := by decide +kernel
theorem dX6_ends_54 : decode cX6_ends 54 = .ok (.dstore 7, 2) := by decide +kernel
theorem dX6_ends_56 : decode cX6_ends 56 = .ok (.aload_n 0, 1) := by decide +kernel
theorem dX6_ends_57 : decode cX6_ends 57 = .ok (.iload_n 1, 1) := by decide +kernel
theorem dX6_ends_58 : decode cX6_ends 58 = .ok (.iconst 2, 1) := by decide +kernel
theorem dX6_ends_59 : decode cX6_ends 59 = .ok (.invokevirtual 119, 3) := by decide +kernel
theorem dX6_ends_62 : decode cX6_ends 62 = .ok (.aload_n 0, 1) := by decide +kernel
theorem dX6_ends_63 : decode cX6_ends 63 = .ok (.iload_n 1, 1) := by decide +kernel
theorem dX6_ends_64 : decode cX6_ends 64 = .ok (.iconst 4, 1) := by decide +kernel
theorem dX6_ends_65 : decode cX6_ends 65 = .ok (.invokevirtual 119, 3) := by decide +kernel
theorem dX6_ends_68 : decode cX6_ends 68 = .ok (.aload_n 0, 1) := by decide +kernel
theorem dX6_ends_69 : decode cX6_ends 69 = .ok (.getfield 7, 3) := by decide +kernel
theorem dX6_ends_72 : decode cX6_ends 72 = .ok (.iconst 4, 1) := by decide +kernel
theorem dX6_ends_73 : decode cX6_ends 73 = .ok (.dup2, 1) := by decide +kernel
theorem dX6_ends_74 : decode cX6_ends 74 = .ok (.iaload, 1) := by decide +kernel
theorem dX6_ends_75 : decode cX6_ends 75 = .ok (.iconst 1, 1) := by decide +kernel
theorem dX6_ends_76 : decode cX6_ends 76 = .ok (.iadd, 1) := by decide +kernel
theorem dX6_ends_77 : decode cX6_ends 77 = .ok (.iastore, 1) := by decide +kernel
theorem dX6_ends_78 : decode cX6_ends 78 = .ok (.aload_n 0, 1) := by decide +kernel
theorem dX6_ends_79 : decode cX6_ends 79 = .ok (.iload_n 2, 1) := by decide +kernel
theorem dX6_ends_80 : decode cX6_ends 80 = .ok (.iconst 4, 1) := by decide +kernel
theorem dX6_ends_81 : decode cX6_ends 81 = .ok (.aload_n 0, 1) := by decide +kernel
theorem dX6_ends_82 : decode cX6_ends 82 = .ok (.iload_n 2, 1) := by decide +kernel
theorem dX6_ends_83 : decode cX6_ends 83 = .ok (.iconst 4, 1) := by decide +kernel
theorem dX6_ends_84 : decode cX6_ends 84 = .ok (.invokevirtual 108, 3) := by decide +kernel
theorem dX6_ends_87 : decode cX6_ends 87 = .ok (.iconst 1, 1) := by decide +kernel
theorem dX6_ends_88 : decode cX6_ends 88 = .ok (.iadd, 1) := by decide +kernel
theorem dX6_ends_89 : decode cX6_ends 89 = .ok (.invokevirtual 98, 3) := by decide +kernel
theorem dX6_ends_92 : decode cX6_ends 92 = .ok (.aload_n 0, 1) := by decide +kernel
theorem dX6_ends_93 : decode cX6_ends 93 = .ok (.iload_n 2, 1) := by decide +kernel
theorem dX6_ends_94 : decode cX6_ends 94 = .ok (.bipush 6, 2) := by decide +kernel
theorem dX6_ends_96 : decode cX6_ends 96 = .ok (.iload_n 1, 1) := by decide +kernel
theorem dX6_ends_97 : decode cX6_ends 97 = .ok (.iconst 1, 1) := by decide +kernel
theorem dX6_ends_98 : decode cX6_ends 98 = .ok (.iadd, 1) := by decide +kernel
theorem dX6_ends_99 : decode cX6_ends 99 = .ok (.invokevirtual 98, 3) := by decide +kernel
theorem dX6_ends_102 : decode cX6_ends 102 = .ok (.aload_n 0, 1) := by decide +kernel
theorem dX6_ends_103 : decode cX6_ends 103 = .ok (.getfield 19, 3) := by decide +kernel
theorem dX6_ends_106 : decode cX6_ends 106 = .ok (.bipush 99, 2) := by decide +kernel
theorem dX6_ends_108 : decode cX6_ends 108 = .ok (.iload_n 2, 1) := by decide +kernel
theorem dX6_ends_109 : decode cX6_ends 109 = .ok (.iadd, 1) := by decide +kernel
theorem dX6_ends_110 : decode cX6_ends 110 = .ok (.dload 7, 2) := by decide +kernel
theorem dX6_ends_112 : decode cX6_ends 112 = .ok (.dastore, 1) := by decide +kernel
theorem dX6_ends_113 : decode cX6_ends 113 = .ok (.aload_n 0, 1) := by decide +kernel
theorem dX6_ends_114 : decode cX6_ends 114 = .ok (.iload_n 1, 1) := by decide +kernel
theorem dX6_ends_115 : decode cX6_ends 115 = .ok (.dload 7, 2) := by decide +kernel
theorem dX6_ends_117 : decode cX6_ends 117 = .ok (.invokevirtual 123, 3) := by decide +kernel
theorem dX6_ends_120 : decode cX6_ends 120 = .ok (.istore 9, 2) := by decide +kernel
theorem dX6_ends_122 : decode cX6_ends 122 = .ok (.aload_n 0, 1) := by decide +kernel
theorem dX6_ends_123 : decode cX6_ends 123 = .ok (.getfield 7, 3) := by decide +kernel
theorem dX6_ends_126 : decode cX6_ends 126 = .ok (.bipush 12, 2) := by decide +kernel
theorem dX6_ends_128 : decode cX6_ends 128 = .ok (.bipush 10, 2) := by decide +kernel
theorem dX6_ends_130 : decode cX6_ends 130 = .ok (.iload_n 1, 1) := by decide +kernel
theorem dX6_ends_131 : decode cX6_ends 131 = .ok (.imul, 1) := by decide +kernel
theorem dX6_ends_132 : decode cX6_ends 132 = .ok (.iadd, 1) := by decide +kernel
theorem dX6_ends_133 : decode cX6_ends 133 = .ok (.iconst 3, 1) := by decide +kernel
theorem dX6_ends_134 : decode cX6_ends 134 = .ok (.iadd, 1) := by decide +kernel
theorem dX6_ends_135 : decode cX6_ends 135 = .ok (.iconst 0, 1) := by decide +kernel
theorem dX6_ends_136 : decode cX6_ends 136 = .ok (.iastore, 1) := by decide +kernel
theorem dX6_ends_137 : decode cX6_ends 137 = .ok (.iload 9, 2) := by decide +kernel
theorem dX6_ends_139 : decode cX6_ends 139 = .ok (.ifCond .ne 19, 3) := by decide +kernel
theorem dX6_ends_142 : decode cX6_ends 142 = .ok (.aload_n 0, 1) := by decide +kernel
theorem dX6_ends_143 : decode cX6_ends 143 = .ok (.iload_n 2, 1) := by decide +kernel
theorem dX6_ends_144 : decode cX6_ends 144 = .ok (.iconst 3, 1) := by decide +kernel
theorem dX6_ends_145 : decode cX6_ends 145 = .ok (.iconst 2, 1) := by decide +kernel
theorem dX6_ends_146 : decode cX6_ends 146 = .ok (.invokevirtual 98, 3) := by decide +kernel
theorem dX6_ends_149 : decode cX6_ends 149 = .ok (.aload_n 0, 1) := by decide +kernel
theorem dX6_ends_150 : decode cX6_ends 150 = .ok (.iload_n 1, 1) := by decide +kernel
theorem dX6_ends_151 : decode cX6_ends 151 = .ok (.iconst 5, 1) := by decide +kernel
theorem dX6_ends_152 : decode cX6_ends 152 = .ok (.invokevirtual 119, 3) := by decide +kernel
theorem dX6_ends_155 : decode cX6_ends 155 = .ok (.goto 76, 3) := by decide +kernel
theorem dX6_ends_158 : decode cX6_ends 158 = .ok (.iload 9, 2) := by decide +kernel
theorem dX6_ends_160 : decode cX6_ends 160 = .ok (.bipush 10, 2) := by decide +kernel
theorem dX6_ends_162 : decode cX6_ends 162 = .ok (.if_icmp .lt 13, 3) := by decide +kernel
theorem dX6_ends_165 : decode cX6_ends 165 = .ok (.aload_n 0, 1) := by decide +kernel
theorem dX6_ends_166 : decode cX6_ends 166 = .ok (.iload_n 2, 1) := by decide +kernel
theorem dX6_ends_167 : decode cX6_ends 167 = .ok (.iconst 5, 1) := by decide +kernel
theorem dX6_ends_168 : decode cX6_ends 168 = .ok (.invokevirtual 108, 3) := by decide +kernel
theorem dX6_ends_171 : decode cX6_ends 171 = .ok (.iconst 2, 1) := by decide +kernel
theorem dX6_ends_172 : decode cX6_ends 172 = .ok (.if_icmp .ne 23, 3) := by decide +kernel
theorem dX6_ends_175 : decode cX6_ends 175 = .ok (.aload_n 0, 1) := by decide +kernel
theorem dX6_ends_176 : decode cX6_ends 176 = .ok (.iload_n 2, 1) := by decide +kernel
theorem dX6_ends_177 : decode cX6_ends 177 = .ok (.iload 9, 2) := by decide +kernel
theorem dX6_ends_179 : decode cX6_ends 179 = .ok (.bipush 10, 2) := by decide +kernel
theorem dX6_ends_181 : decode cX6_ends 181 = .ok (.irem, 1) := by decide +kernel
theorem dX6_ends_182 : decode cX6_ends 182 = .ok (.invokevirtual 127, 3) := by decide +kernel
theorem dX6_ends_185 : decode cX6_ends 185 = .ok (.aload_n 0, 1) := by decide +kernel
theorem dX6_ends_186 : decode cX6_ends 186 = .ok (.iload_n 1, 1) := by decide +kernel
theorem dX6_ends_187 : decode cX6_ends 187 = .ok (.bipush 6, 2) := by decide +kernel
theorem dX6_ends_189 : decode cX6_ends 189 = .ok (.invokevirtual 119, 3) := by decide +kernel
theorem dX6_ends_192 : decode cX6_ends 192 = .ok (.goto 39, 3) := by decide +kernel
theorem dX6_ends_195 : decode cX6_ends 195 = .ok (.aload_n 0, 1) := by decide +kernel
theorem dX6_ends_196 : decode cX6_ends 196 = .ok (.iload_n 2, 1) := by decide +kernel
theorem dX6_ends_197 : decode cX6_ends 197 = .ok (.iconst 5, 1) := by decide +kernel
theorem dX6_ends_198 : decode cX6_ends 198 = .ok (.aload_n 0, 1) := by decide +kernel
theorem dX6_ends_199 : decode cX6_ends 199 = .ok (.iload_n 2, 1) := by decide +kernel
theorem dX6_ends_200 : decode cX6_ends 200 = .ok (.iconst 5, 1) := by decide +kernel
theorem dX6_ends_201 : decode cX6_ends 201 = .ok (.invokevirtual 108, 3) := by decide +kernel
theorem dX6_ends_204 : decode cX6_ends 204 = .ok (.iconst 1, 1) := by decide +kernel
theorem dX6_ends_205 : decode cX6_ends 205 = .ok (.iadd, 1) := by decide +kernel
theorem dX6_ends_206 : decode cX6_ends 206 = .ok (.invokevirtual 98, 3) := by decide +kernel
theorem dX6_ends_209 : decode cX6_ends 209 = .ok (.aload_n 0, 1) := by decide +kernel
theorem dX6_ends_210 : decode cX6_ends 210 = .ok (.iload_n 1, 1) := by decide +kernel
theorem dX6_ends_211 : decode cX6_ends 211 = .ok (.bipush 7, 2) := by decide +kernel
theorem dX6_ends_213 : decode cX6_ends 213 = .ok (.invokevirtual 119, 3) := by decide +kernel
theorem dX6_ends_216 : decode cX6_ends 216 = .ok (.aload_n 0, 1) := by decide +kernel
theorem dX6_ends_217 : decode cX6_ends 217 = .ok (.getfield 7, 3) := by decide +kernel
theorem dX6_ends_220 : decode cX6_ends 220 = .ok (.iconst 5, 1) := by decide +kernel
theorem dX6_ends_221 : decode cX6_ends 221 = .ok (.dup2, 1) := by decide +kernel
theorem dX6_ends_222 : decode cX6_ends 222 = .ok (.iaload, 1) := by decide +kernel
theorem dX6_ends_223 : decode cX6_ends 223 = .ok (.iconst 1, 1) := by decide +kernel
theorem dX6_ends_224 : decode cX6_ends 224 = .ok (.iadd, 1) := by decide +kernel
theorem dX6_ends_225 : decode cX6_ends 225 = .ok (.iastore, 1) := by decide +kernel
theorem dX6_ends_226 : decode cX6_ends 226 = .ok (.aload_n 0, 1) := by decide +kernel
theorem dX6_ends_227 : decode cX6_ends 227 = .ok (.iload_n 2, 1) := by decide +kernel
theorem dX6_ends_228 : decode cX6_ends 228 = .ok (.invokevirtual 130, 3) := by decide +kernel
theorem dX6_ends_231 : decode cX6_ends 231 = .ok (.aload_n 0, 1) := by decide +kernel
theorem dX6_ends_232 : decode cX6_ends 232 = .ok (.getfield 19, 3) := by decide +kernel
theorem dX6_ends_235 : decode cX6_ends 235 = .ok (.iconst 3, 1) := by decide +kernel
theorem dX6_ends_236 : decode cX6_ends 236 = .ok (.bipush 12, 2) := by decide +kernel
theorem dX6_ends_238 : decode cX6_ends 238 = .ok (.iload_n 1, 1) := by decide +kernel
theorem dX6_ends_239 : decode cX6_ends 239 = .ok (.imul, 1) := by decide +kernel
theorem dX6_ends_240 : decode cX6_ends 240 = .ok (.iadd, 1) := by decide +kernel
theorem dX6_ends_241 : decode cX6_ends 241 = .ok (.iconst 0, 1) := by decide +kernel
theorem dX6_ends_242 : decode cX6_ends 242 = .ok (.iadd, 1) := by decide +kernel
theorem dX6_ends_243 : decode cX6_ends 243 = .ok (.aload_n 0, 1) := by decide +kernel
theorem dX6_ends_244 : decode cX6_ends 244 = .ok (.iload_n 1, 1) := by decide +kernel
theorem dX6_ends_245 : decode cX6_ends 245 = .ok (.invokevirtual 94, 3) := by decide +kernel
theorem dX6_ends_248 : decode cX6_ends 248 = .ok (.dconst 1, 1) := by decide +kernel
theorem dX6_ends_249 : decode cX6_ends 249 = .ok (.aload_n 0, 1) := by decide +kernel
theorem dX6_ends_250 : decode cX6_ends 250 = .ok (.iload_n 1, 1) := by decide +kernel
theorem dX6_ends_251 : decode cX6_ends 251 = .ok (.iconst 0, 1) := by decide +kernel
theorem dX6_ends_252 : decode cX6_ends 252 = .ok (.invokevirtual 54, 3) := by decide +kernel
theorem dX6_ends_255 : decode cX6_ends 255 = .ok (.i2d, 1) := by decide +kernel
theorem dX6_ends_256 : decode cX6_ends 256 = .ok (.ldc2_w 75, 3) := by decide +kernel
theorem dX6_ends_259 : decode cX6_ends 259 = .ok (.ddiv, 1) := by decide +kernel
theorem dX6_ends_260 : decode cX6_ends 260 = .ok (.dsub, 1) := by decide +kernel
theorem dX6_ends_261 : decode cX6_ends 261 = .ok (.dmul, 1) := by decide +kernel
theorem dX6_ends_262 : decode cX6_ends 262 = .ok (.dastore, 1) := by decide +kernel
theorem dX6_ends_263 : decode cX6_ends 263 = .ok (.return_, 1) := by decide +kernel
abbrev rmX6_ends : Room := { frames := 3, cells := 0, slots := 0, locals := 66 }
def w_X6_ends (n : Nat) (M : Mem) (t : Nat) (p1 : Int32) (K : Mem → Prop) : Prop := ((t ≤ n ∧ kd t = (6, 0)) ∧ w_X6_partOn n M t p1 (fun x3 M2 => w_X6_traced n M2 t p1 (0 : Int32) (fun z5 M4 => w_X6_present n M4 t p1 (fun z7 M6 => (vf_n64 (FP.dsub z5 z7) ∧ (∀ z8, z8 = FP.dsub z5 z7 → w_X6_ofPart n M6 t x3 (2 : Int32) (fun x10 M9 => (vf_n64 (FP.dmul z8 (FP.i2d x10)) ∧ (∀ z11, z11 = FP.dmul z8 (FP.i2d x10) → (∀ r12, r12 = gR M9 t 0 → ((r12 ≤ n ∧ (kd r12).1 = 7 ∧ vp_in (0 : Int32) (kd r12).2) ∧ (∀ x13, x13 = gI M9 r12 (Int32.toNatClampNeg (0 : Int32)) → (vf_n64 (FP.ddiv z11 (FP.i2d (x13 - (1 : Int32)))) ∧ (∀ z14, z14 = FP.ddiv z11 (FP.i2d (x13 - (1 : Int32))) → w_X6_gain n M9 t p1 (fun z16 M15 => (vf_n64 (FP.dmul z14 z16) ∧ (∀ z17, z17 = FP.dmul z14 z16 → w_X6_factor n M15 t p1 (fun z19 M18 => (vf_n64 (FP.dmul z17 z19) ∧ (∀ z20, z20 = FP.dmul z17 z19 → w_X6_more n M18 t p1 (2 : Int32) (fun M21 => w_X6_more n M21 t p1 (4 : Int32) (fun M22 => (∀ r23, r23 = gR M22 t 0 → ((r23 ≤ n ∧ (kd r23).1 = 7 ∧ vp_in (4 : Int32) (kd r23).2) ∧ (∀ x24, x24 = gI M22 r23 (Int32.toNatClampNeg (4 : Int32)) → ((r23 ≤ n ∧ (kd r23).1 = 7 ∧ vp_in (4 : Int32) (kd r23).2) ∧ (∀ M25, M25 = sI M22 r23 (Int32.toNatClampNeg (4 : Int32)) (x24 + (1 : Int32)) → w_X6_ofPart n M25 t x3 (4 : Int32) (fun x27 M26 => w_X6_put n M26 t x3 (4 : Int32) (x27 + (1 : Int32)) (fun M28 => w_X6_put n M28 t x3 (6 : Int32) (p1 + (1 : Int32)) (fun M29 => (∀ r30, r30 = gR M29 t 3 → ((r30 ≤ n ∧ (kd r30).1 = 8 ∧ vp_in ((99 : Int32) + x3) (kd r30).2) ∧ (∀ M31, M31 = sD M29 r30 (Int32.toNatClampNeg ((99 : Int32) + x3)) z20 → w_X6_judged n M31 t p1 z20 (fun x33 M32 => (∀ r34, r34 = gR M32 t 0 → ((r34 ≤ n ∧ (kd r34).1 = 7 ∧ vp_in (((12 : Int32) + ((10 : Int32) * p1)) + (3 : Int32)) (kd r34).2) ∧ (∀ M35, M35 = sI M32 r34 (Int32.toNatClampNeg (((12 : Int32) + ((10 : Int32) * p1)) + (3 : Int32))) (0 : Int32) → ((¬ x33 = 0 → ((x33 < (10 : Int32) → (¬ (10 : Int32) = 0 ∧ (∀ x36, x36 = x33 - x33 / (10 : Int32) * (10 : Int32) → w_X6_rejects n M35 t x3 x36 (fun M37 => w_X6_more n M37 t p1 (6 : Int32) (fun M38 => (∀ r39, r39 = gR M38 t 3 → w_X6_gain n M38 t p1 (fun z41 M40 => w_X6_ofHead n M40 t p1 (0 : Int32) (fun x43 M42 => (vf_n64 (FP.ddiv (FP.i2d x43) (4696837146684686336 : UInt64)) ∧ (∀ z44, z44 = FP.ddiv (FP.i2d x43) (4696837146684686336 : UInt64) → (vf_n64 (FP.dsub FP.dconst1 z44) ∧ (∀ z45, z45 = FP.dsub FP.dconst1 z44 → (vf_n64 (FP.dmul z41 z45) ∧ (∀ z46, z46 = FP.dmul z41 z45 → ((r39 ≤ n ∧ (kd r39).1 = 8 ∧ vp_in (((3 : Int32) + ((12 : Int32) * p1)) + (0 : Int32)) (kd r39).2) ∧ (∀ M47, M47 = sD M42 r39 (Int32.toNatClampNeg (((3 : Int32) + ((12 : Int32) * p1)) + (0 : Int32))) z46 → K M47)))))))))))))))) ∧ (¬ x33 < (10 : Int32) → w_X6_ofPart n M35 t x3 (5 : Int32) (fun x49 M48 => ((¬ x49 = (2 : Int32) → w_X6_ofPart n M48 t x3 (5 : Int32) (fun x51 M50 => w_X6_put n M50 t x3 (5 : Int32) (x51 + (1 : Int32)) (fun M52 => w_X6_more n M52 t p1 (7 : Int32) (fun M53 => (∀ r54, r54 = gR M53 t 0 → ((r54 ≤ n ∧ (kd r54).1 = 7 ∧ vp_in (5 : Int32) (kd r54).2) ∧ (∀ x55, x55 = gI M53 r54 (Int32.toNatClampNeg (5 : Int32)) → ((r54 ≤ n ∧ (kd r54).1 = 7 ∧ vp_in (5 : Int32) (kd r54).2) ∧ (∀ M56, M56 = sI M53 r54 (Int32.toNatClampNeg (5 : Int32)) (x55 + (1 : Int32)) → w_X6_toFront n M56 t x3 (fun M57 => (∀ r58, r58 = gR M57 t 3 → w_X6_gain n M57 t p1 (fun z60 M59 => w_X6_ofHead n M59 t p1 (0 : Int32) (fun x62 M61 => (vf_n64 (FP.ddiv (FP.i2d x62) (4696837146684686336 : UInt64)) ∧ (∀ z63, z63 = FP.ddiv (FP.i2d x62) (4696837146684686336 : UInt64) → (vf_n64 (FP.dsub FP.dconst1 z63) ∧ (∀ z64, z64 = FP.dsub FP.dconst1 z63 → (vf_n64 (FP.dmul z60 z64) ∧ (∀ z65, z65 = FP.dmul z60 z64 → ((r58 ≤ n ∧ (kd r58).1 = 8 ∧ vp_in (((3 : Int32) + ((12 : Int32) * p1)) + (0 : Int32)) (kd r58).2) ∧ (∀ M66, M66 = sD M61 r58 (Int32.toNatClampNeg (((3 : Int32) + ((12 : Int32) * p1)) + (0 : Int32))) z65 → K M66))))))))))))))))))))) ∧ (x49 = (2 : Int32) → (¬ (10 : Int32) = 0 ∧ (∀ x67, x67 = x33 - x33 / (10 : Int32) * (10 : Int32) → w_X6_rejects n M48 t x3 x67 (fun M68 => w_X6_more n M68 t p1 (6 : Int32) (fun M69 => (∀ r70, r70 = gR M69 t 3 → w_X6_gain n M69 t p1 (fun z72 M71 => w_X6_ofHead n M71 t p1 (0 : Int32) (fun x74 M73 => (vf_n64 (FP.ddiv (FP.i2d x74) (4696837146684686336 : UInt64)) ∧ (∀ z75, z75 = FP.ddiv (FP.i2d x74) (4696837146684686336 : UInt64) → (vf_n64 (FP.dsub FP.dconst1 z75) ∧ (∀ z76, z76 = FP.dsub FP.dconst1 z75 → (vf_n64 (FP.dmul z72 z76) ∧ (∀ z77, z77 = FP.dmul z72 z76 → ((r70 ≤ n ∧ (kd r70).1 = 8 ∧ vp_in (((3 : Int32) + ((12 : Int32) * p1)) + (0 : Int32)) (kd r70).2) ∧ (∀ M78, M78 = sD M73 r70 (Int32.toNatClampNeg (((3 : Int32) + ((12 : Int32) * p1)) + (0 : Int32))) z77 → K M78))))))))))))))))))))) ∧ (x33 = 0 → w_X6_put n M35 t x3 (3 : Int32) (2 : Int32) (fun M79 => w_X6_more n M79 t p1 (5 : Int32) (fun M80 => (∀ r81, r81 = gR M80 t 3 → w_X6_gain n M80 t p1 (fun z83 M82 => w_X6_ofHead n M82 t p1 (0 : Int32) (fun x85 M84 => (vf_n64 (FP.ddiv (FP.i2d x85) (4696837146684686336 : UInt64)) ∧ (∀ z86, z86 = FP.ddiv (FP.i2d x85) (4696837146684686336 : UInt64) → (vf_n64 (FP.dsub FP.dconst1 z86) ∧ (∀ z87, z87 = FP.dsub FP.dconst1 z86 → (vf_n64 (FP.dmul z83 z87) ∧ (∀ z88, z88 = FP.dmul z83 z87 → ((r81 ≤ n ∧ (kd r81).1 = 8 ∧ vp_in (((3 : Int32) + ((12 : Int32) * p1)) + (0 : Int32)) (kd r81).2) ∧ (∀ M89, M89 = sD M84 r81 (Int32.toNatClampNeg (((3 : Int32) + ((12 : Int32) * p1)) + (0 : Int32))) z88 → K M89))))))))))))))))))))))))))))))))))))))))))))))))))))
set_option maxHeartbeats 4000000 in
set_option maxRecDepth 20000 in
theorem c_X6_ends (l : Launch) (E : Gl) (n : Nat) (M : Mem) (t : Nat) (p1 : Int32) (K : Mem → Prop) (hw : w_X6_ends n M t p1 K) : CT E l yX6_ends cX6_ends 10 none rmX6_ends n M [rV t, iV p1] (PV E n K) := by
  refine g_met l (by decide) (Nat.le_of_ble_eq_true rfl) ?_
  intro p e s m args below meth c X hr hlk hnm hSz hOld
  change CX E p s m c _ _ RX6 at X
  unfold w_X6_ends at hw
  refine g_aload_n X dX6_ends_0 0 rfl ?_
  refine g_iload_n X dX6_ends_1 1 rfl ?_
  obtain ⟨hk1, hw⟩ := hw
  refine g_calli (pc' := 5) (rest := []) rfl (fun H locs ls d qR qL => g_runV X cw_X6_82 iv_X6_partOn ⟨Nat.le_of_ble_eq_true rfl, Nat.le_of_ble_eq_true rfl⟩ dX6_ends_2 (c_X6_partOn l E n M t p1 _ hw) hk1 rfl rfl (Nat.le_of_ble_eq_true rfl) ⟨Nat.le_of_ble_eq_true rfl, Nat.le_of_ble_eq_true rfl⟩ qR qL) (fun x3 M2 hw => ?_)
  refine g_istore_n (lv' := [(2, iV x3), (0, rV t), (1, iV p1)]) X dX6_ends_5 (by decide) rfl ?_
  refine g_aload_n X dX6_ends_6 1 rfl ?_
  refine g_iload_n X dX6_ends_7 2 rfl ?_
  refine g_iconst X (0 : Int32) dX6_ends_8 (by decide) ?_
  refine g_calld (pc' := 12) (rest := []) rfl (fun H locs ls d qR qL => g_runV X cw_X6_58 iv_X6_traced ⟨Nat.le_of_ble_eq_true rfl, Nat.le_of_ble_eq_true rfl⟩ dX6_ends_9 (c_X6_traced l E n M2 t p1 (0 : Int32) _ hw) hk1 rfl rfl (Nat.le_of_ble_eq_true rfl) ⟨Nat.le_of_ble_eq_true rfl, Nat.le_of_ble_eq_true rfl⟩ qR qL) (fun z5 M4 hw => ?_)
  refine g_aload_n X dX6_ends_12 1 rfl ?_
  refine g_iload_n X dX6_ends_13 2 rfl ?_
  refine g_calld (pc' := 17) (rest := [dV z5]) rfl (fun H locs ls d qR qL => g_runV X cw_X6_111 iv_X6_present ⟨Nat.le_of_ble_eq_true rfl, Nat.le_of_ble_eq_true rfl⟩ dX6_ends_14 (c_X6_present l E n M4 t p1 _ hw) hk1 rfl rfl (Nat.le_of_ble_eq_true rfl) ⟨Nat.le_of_ble_eq_true rfl, Nat.le_of_ble_eq_true rfl⟩ qR qL) (fun z7 M6 hw => ?_)
  refine g_dsub X dX6_ends_17 hw (fun hw => ?_)
  refine g_topD (fun z8 hz8 => ?_)
  have hw := hw z8 hz8
  refine g_dstore_n (lv' := [(3, dV z8), (2, iV x3), (0, rV t), (1, iV p1)]) X dX6_ends_18 (by decide) rfl ?_
  refine g_dload_n X dX6_ends_19 0 rfl ?_
  refine g_aload_n X dX6_ends_20 2 rfl ?_
  refine g_iload_n X dX6_ends_21 1 rfl ?_
  refine g_iconst X (2 : Int32) dX6_ends_22 (by decide) ?_
  refine g_calli (pc' := 26) (rest := [dV z8]) rfl (fun H locs ls d qR qL => g_runV X cw_X6_108 iv_X6_ofPart ⟨Nat.le_of_ble_eq_true rfl, Nat.le_of_ble_eq_true rfl⟩ dX6_ends_23 (c_X6_ofPart l E n M6 t x3 (2 : Int32) _ hw) hk1 rfl rfl (Nat.le_of_ble_eq_true rfl) ⟨Nat.le_of_ble_eq_true rfl, Nat.le_of_ble_eq_true rfl⟩ qR qL) (fun x10 M9 hw => ?_)
  refine g_i2d X dX6_ends_26 ?_
  refine g_dmul X dX6_ends_27 hw (fun hw => ?_)
  refine g_topD (fun z11 hz11 => ?_)
  have hw := hw z11 hz11
  refine g_aload_n X dX6_ends_28 2 rfl ?_
  refine g_get X (rV (gR M9 t 0)) dX6_ends_29 fl_X6_7 (fun _ => rfl) ⟨hk1, hw⟩ (fun hw => ?_)
  refine g_topR (fun r12 hr12 => ?_)
  have hw := hw r12 hr12
  refine g_iconst X (0 : Int32) dX6_ends_32 (by decide) ?_
  refine g_iald X dX6_ends_33 hw (fun hw => ?_)
  refine g_topI (fun x13 hx13 => ?_)
  have hw := hw x13 hx13
  refine g_iconst X (1 : Int32) dX6_ends_34 (by decide) ?_
  refine g_isub X dX6_ends_35 ?_
  refine g_i2d X dX6_ends_36 ?_
  refine g_ddiv X dX6_ends_37 hw (fun hw => ?_)
  refine g_topD (fun z14 hz14 => ?_)
  have hw := hw z14 hz14
  refine g_aload_n X dX6_ends_38 2 rfl ?_
  refine g_iload_n X dX6_ends_39 3 rfl ?_
  refine g_calld (pc' := 43) (rest := [dV z14]) rfl (fun H locs ls d qR qL => g_runV X cw_X6_94 iv_X6_gain ⟨Nat.le_of_ble_eq_true rfl, Nat.le_of_ble_eq_true rfl⟩ dX6_ends_40 (c_X6_gain l E n M9 t p1 _ hw) hk1 rfl rfl (Nat.le_of_ble_eq_true rfl) ⟨Nat.le_of_ble_eq_true rfl, Nat.le_of_ble_eq_true rfl⟩ qR qL) (fun z16 M15 hw => ?_)
  refine g_dmul X dX6_ends_43 hw (fun hw => ?_)
  refine g_topD (fun z17 hz17 => ?_)
  have hw := hw z17 hz17
  refine g_dstore (lv' := [(5, dV z17), (3, dV z8), (2, iV x3), (0, rV t), (1, iV p1)]) X dX6_ends_44 (by decide) rfl ?_
  refine g_dload X dX6_ends_46 0 rfl ?_
  refine g_aload_n X dX6_ends_48 3 rfl ?_
  refine g_iload_n X dX6_ends_49 4 rfl ?_
  refine g_calld (pc' := 53) (rest := [dV z17]) rfl (fun H locs ls d qR qL => g_runV X cw_X6_116 iv_X6_factor ⟨Nat.le_of_ble_eq_true rfl, Nat.le_of_ble_eq_true rfl⟩ dX6_ends_50 (c_X6_factor l E n M15 t p1 _ hw) hk1 rfl rfl (Nat.le_of_ble_eq_true rfl) ⟨Nat.le_of_ble_eq_true rfl, Nat.le_of_ble_eq_true rfl⟩ qR qL) (fun z19 M18 hw => ?_)
  refine g_dmul X dX6_ends_53 hw (fun hw => ?_)
  refine g_topD (fun z20 hz20 => ?_)
  have hw := hw z20 hz20
  refine g_dstore (lv' := [(7, dV z20), (5, dV z17), (3, dV z8), (2, iV x3), (0, rV t), (1, iV p1)]) X dX6_ends_54 (by decide) rfl ?_
  refine g_aload_n X dX6_ends_56 4 rfl ?_
  refine g_iload_n X dX6_ends_57 5 rfl ?_
  refine g_iconst X (2 : Int32) dX6_ends_58 (by decide) ?_
  refine g_callv (pc' := 62) (rest := []) rfl (fun H locs ls d qR qL => g_runV X cw_X6_119 iv_X6_more ⟨Nat.le_of_ble_eq_true rfl, Nat.le_of_ble_eq_true rfl⟩ dX6_ends_59 (c_X6_more l E n M18 t p1 (2 : Int32) _ hw) hk1 rfl rfl (Nat.le_of_ble_eq_true rfl) ⟨Nat.le_of_ble_eq_true rfl, Nat.le_of_ble_eq_true rfl⟩ qR qL) (fun M21 hw => ?_)
  refine g_aload_n X dX6_ends_62 4 rfl ?_
  refine g_iload_n X dX6_ends_63 5 rfl ?_
  refine g_iconst X (4 : Int32) dX6_ends_64 (by decide) ?_
  refine g_callv (pc' := 68) (rest := []) rfl (fun H locs ls d qR qL => g_runV X cw_X6_119 iv_X6_more ⟨Nat.le_of_ble_eq_true rfl, Nat.le_of_ble_eq_true rfl⟩ dX6_ends_65 (c_X6_more l E n M21 t p1 (4 : Int32) _ hw) hk1 rfl rfl (Nat.le_of_ble_eq_true rfl) ⟨Nat.le_of_ble_eq_true rfl, Nat.le_of_ble_eq_true rfl⟩ qR qL) (fun M22 hw => ?_)
  refine g_aload_n X dX6_ends_68 4 rfl ?_
  refine g_get X (rV (gR M22 t 0)) dX6_ends_69 fl_X6_7 (fun _ => rfl) ⟨hk1, hw⟩ (fun hw => ?_)
  refine g_topR (fun r23 hr23 => ?_)
  have hw := hw r23 hr23
  refine g_iconst X (4 : Int32) dX6_ends_72 (by decide) ?_
  refine g_dup2 X dX6_ends_73 rfl rfl ?_
  refine g_iald X dX6_ends_74 hw (fun hw => ?_)
  refine g_topI (fun x24 hx24 => ?_)
  have hw := hw x24 hx24
  refine g_iconst X (1 : Int32) dX6_ends_75 (by decide) ?_
  refine g_iadd X dX6_ends_76 ?_
  refine g_iast X dX6_ends_77 hw (fun hw => ?_)
  refine g_topM (fun M25 hM25 => ?_)
  have hw := hw M25 hM25
  refine g_aload_n X dX6_ends_78 4 rfl ?_
  refine g_iload_n X dX6_ends_79 3 rfl ?_
  refine g_iconst X (4 : Int32) dX6_ends_80 (by decide) ?_
  refine g_aload_n X dX6_ends_81 4 rfl ?_
  refine g_iload_n X dX6_ends_82 3 rfl ?_
  refine g_iconst X (4 : Int32) dX6_ends_83 (by decide) ?_
  refine g_calli (pc' := 87) (rest := [iV (4 : Int32), iV x3, rV t]) rfl (fun H locs ls d qR qL => g_runV X cw_X6_108 iv_X6_ofPart ⟨Nat.le_of_ble_eq_true rfl, Nat.le_of_ble_eq_true rfl⟩ dX6_ends_84 (c_X6_ofPart l E n M25 t x3 (4 : Int32) _ hw) hk1 rfl rfl (Nat.le_of_ble_eq_true rfl) ⟨Nat.le_of_ble_eq_true rfl, Nat.le_of_ble_eq_true rfl⟩ qR qL) (fun x27 M26 hw => ?_)
  refine g_iconst X (1 : Int32) dX6_ends_87 (by decide) ?_
  refine g_iadd X dX6_ends_88 ?_
  refine g_callv (pc' := 92) (rest := []) rfl (fun H locs ls d qR qL => g_runV X cw_X6_98 iv_X6_put ⟨Nat.le_of_ble_eq_true rfl, Nat.le_of_ble_eq_true rfl⟩ dX6_ends_89 (c_X6_put l E n M26 t x3 (4 : Int32) (x27 + (1 : Int32)) _ hw) hk1 rfl rfl (Nat.le_of_ble_eq_true rfl) ⟨Nat.le_of_ble_eq_true rfl, Nat.le_of_ble_eq_true rfl⟩ qR qL) (fun M28 hw => ?_)
  refine g_aload_n X dX6_ends_92 4 rfl ?_
  refine g_iload_n X dX6_ends_93 3 rfl ?_
  refine g_bipush X (6 : Int32) dX6_ends_94 (by decide) ?_
  refine g_iload_n X dX6_ends_96 5 rfl ?_
  refine g_iconst X (1 : Int32) dX6_ends_97 (by decide) ?_
  refine g_iadd X dX6_ends_98 ?_
  refine g_callv (pc' := 102) (rest := []) rfl (fun H locs ls d qR qL => g_runV X cw_X6_98 iv_X6_put ⟨Nat.le_of_ble_eq_true rfl, Nat.le_of_ble_eq_true rfl⟩ dX6_ends_99 (c_X6_put l E n M28 t x3 (6 : Int32) (p1 + (1 : Int32)) _ hw) hk1 rfl rfl (Nat.le_of_ble_eq_true rfl) ⟨Nat.le_of_ble_eq_true rfl, Nat.le_of_ble_eq_true rfl⟩ qR qL) (fun M29 hw => ?_)
  refine g_aload_n X dX6_ends_102 4 rfl ?_
  refine g_get X (rV (gR M29 t 3)) dX6_ends_103 fl_X6_19 (fun _ => rfl) ⟨hk1, hw⟩ (fun hw => ?_)
  refine g_topR (fun r30 hr30 => ?_)
  have hw := hw r30 hr30
  refine g_bipush X (99 : Int32) dX6_ends_106 (by decide) ?_
  refine g_iload_n X dX6_ends_108 3 rfl ?_
  refine g_iadd X dX6_ends_109 ?_
  refine g_dload X dX6_ends_110 0 rfl ?_
  refine g_dast X dX6_ends_112 hw (fun hw => ?_)
  refine g_topM (fun M31 hM31 => ?_)
  have hw := hw M31 hM31
  refine g_aload_n X dX6_ends_113 4 rfl ?_
  refine g_iload_n X dX6_ends_114 5 rfl ?_
  refine g_dload X dX6_ends_115 0 rfl ?_
  refine g_calli (pc' := 120) (rest := []) rfl (fun H locs ls d qR qL => g_runV X cw_X6_123 iv_X6_judged ⟨Nat.le_of_ble_eq_true rfl, Nat.le_of_ble_eq_true rfl⟩ dX6_ends_117 (c_X6_judged l E n M31 t p1 z20 _ hw) hk1 rfl rfl (Nat.le_of_ble_eq_true rfl) ⟨Nat.le_of_ble_eq_true rfl, Nat.le_of_ble_eq_true rfl⟩ qR qL) (fun x33 M32 hw => ?_)
  refine g_istore (lv' := [(9, iV x33), (7, dV z20), (5, dV z17), (3, dV z8), (2, iV x3), (0, rV t), (1, iV p1)]) X dX6_ends_120 (by decide) rfl ?_
  refine g_aload_n X dX6_ends_122 5 rfl ?_
  refine g_get X (rV (gR M32 t 0)) dX6_ends_123 fl_X6_7 (fun _ => rfl) ⟨hk1, hw⟩ (fun hw => ?_)
  refine g_topR (fun r34 hr34 => ?_)
  have hw := hw r34 hr34
  refine g_bipush X (12 : Int32) dX6_ends_126 (by decide) ?_
  refine g_bipush X (10 : Int32) dX6_ends_128 (by decide) ?_
  refine g_iload_n X dX6_ends_130 6 rfl ?_
  refine g_imul X dX6_ends_131 ?_
  refine g_iadd X dX6_ends_132 ?_
  refine g_iconst X (3 : Int32) dX6_ends_133 (by decide) ?_
  refine g_iadd X dX6_ends_134 ?_
  refine g_iconst X (0 : Int32) dX6_ends_135 (by decide) ?_
  refine g_iast X dX6_ends_136 hw (fun hw => ?_)
  refine g_topM (fun M35 hM35 => ?_)
  have hw := hw M35 hM35
  refine g_iload X dX6_ends_137 0 rfl ?_
  refine g_if_ne X 158 dX6_ends_139 (by decide) hw (fun hw => ?_) (fun hw => ?_)
  · refine g_iload X dX6_ends_158 0 rfl ?_
    refine g_bipush X (10 : Int32) dX6_ends_160 (by decide) ?_
    refine g_icmp_lt X 175 dX6_ends_162 (by decide) hw (fun hw => ?_) (fun hw => ?_)
    · refine g_aload_n X dX6_ends_175 5 rfl ?_
      refine g_iload_n X dX6_ends_176 4 rfl ?_
      refine g_iload X dX6_ends_177 0 rfl ?_
      refine g_bipush X (10 : Int32) dX6_ends_179 (by decide) ?_
      refine g_irem X dX6_ends_181 hw (fun hw => ?_)
      refine g_topI (fun x36 hx36 => ?_)
      have hw := hw x36 hx36
      refine g_callv (pc' := 185) (rest := []) rfl (fun H locs ls d qR qL => g_runV X cw_X6_127 iv_X6_rejects ⟨Nat.le_of_ble_eq_true rfl, Nat.le_of_ble_eq_true rfl⟩ dX6_ends_182 (c_X6_rejects l E n M35 t x3 x36 _ hw) hk1 rfl rfl (Nat.le_of_ble_eq_true rfl) ⟨Nat.le_of_ble_eq_true rfl, Nat.le_of_ble_eq_true rfl⟩ qR qL) (fun M37 hw => ?_)
      refine g_aload_n X dX6_ends_185 5 rfl ?_
      refine g_iload_n X dX6_ends_186 6 rfl ?_
      refine g_bipush X (6 : Int32) dX6_ends_187 (by decide) ?_
      refine g_callv (pc' := 192) (rest := []) rfl (fun H locs ls d qR qL => g_runV X cw_X6_119 iv_X6_more ⟨Nat.le_of_ble_eq_true rfl, Nat.le_of_ble_eq_true rfl⟩ dX6_ends_189 (c_X6_more l E n M37 t p1 (6 : Int32) _ hw) hk1 rfl rfl (Nat.le_of_ble_eq_true rfl) ⟨Nat.le_of_ble_eq_true rfl, Nat.le_of_ble_eq_true rfl⟩ qR qL) (fun M38 hw => ?_)
      refine g_goto X 231 dX6_ends_192 (by decide) ?_
      refine g_aload_n X dX6_ends_231 5 rfl ?_
      refine g_get X (rV (gR M38 t 3)) dX6_ends_232 fl_X6_19 (fun _ => rfl) ⟨hk1, hw⟩ (fun hw => ?_)
      refine g_topR (fun r39 hr39 => ?_)
      have hw := hw r39 hr39
      refine g_iconst X (3 : Int32) dX6_ends_235 (by decide) ?_
      refine g_bipush X (12 : Int32) dX6_ends_236 (by decide) ?_
      refine g_iload_n X dX6_ends_238 6 rfl ?_
      refine g_imul X dX6_ends_239 ?_
      refine g_iadd X dX6_ends_240 ?_
      refine g_iconst X (0 : Int32) dX6_ends_241 (by decide) ?_
      refine g_iadd X dX6_ends_242 ?_
      refine g_aload_n X dX6_ends_243 5 rfl ?_
      refine g_iload_n X dX6_ends_244 6 rfl ?_
      refine g_calld (pc' := 248) (rest := [iV (((3 : Int32) + ((12 : Int32) * p1)) + (0 : Int32)), rV r39]) rfl (fun H locs ls d qR qL => g_runV X cw_X6_94 iv_X6_gain ⟨Nat.le_of_ble_eq_true rfl, Nat.le_of_ble_eq_true rfl⟩ dX6_ends_245 (c_X6_gain l E n M38 t p1 _ hw) hk1 rfl rfl (Nat.le_of_ble_eq_true rfl) ⟨Nat.le_of_ble_eq_true rfl, Nat.le_of_ble_eq_true rfl⟩ qR qL) (fun z41 M40 hw => ?_)
      refine g_dconst1 X dX6_ends_248 ?_
      refine g_aload_n X dX6_ends_249 5 rfl ?_
      refine g_iload_n X dX6_ends_250 6 rfl ?_
      refine g_iconst X (0 : Int32) dX6_ends_251 (by decide) ?_
      refine g_calli (pc' := 255) (rest := [dV FP.dconst1, dV z41, iV (((3 : Int32) + ((12 : Int32) * p1)) + (0 : Int32)), rV r39]) rfl (fun H locs ls d qR qL => g_runV X cw_X6_54 iv_X6_ofHead ⟨Nat.le_of_ble_eq_true rfl, Nat.le_of_ble_eq_true rfl⟩ dX6_ends_252 (c_X6_ofHead l E n M40 t p1 (0 : Int32) _ hw) hk1 rfl rfl (Nat.le_of_ble_eq_true rfl) ⟨Nat.le_of_ble_eq_true rfl, Nat.le_of_ble_eq_true rfl⟩ qR qL) (fun x43 M42 hw => ?_)
      refine g_i2d X dX6_ends_255 ?_
      refine g_ldcD X (4696837146684686336 : UInt64) dX6_ends_256 wk_X6_75 ?_
      refine g_ddiv X dX6_ends_259 hw (fun hw => ?_)
      refine g_topD (fun z44 hz44 => ?_)
      have hw := hw z44 hz44
      refine g_dsub X dX6_ends_260 hw (fun hw => ?_)
      refine g_topD (fun z45 hz45 => ?_)
      have hw := hw z45 hz45
      refine g_dmul X dX6_ends_261 hw (fun hw => ?_)
      refine g_topD (fun z46 hz46 => ?_)
      have hw := hw z46 hz46
      refine g_dast X dX6_ends_262 hw (fun hw => ?_)
      refine g_topM (fun M47 hM47 => ?_)
      have hw := hw M47 hM47
      exact g_vret X hr hlk hSz hOld (Nat.le_refl _) dX6_ends_263 hw
    · refine g_aload_n X dX6_ends_165 5 rfl ?_
      refine g_iload_n X dX6_ends_166 4 rfl ?_
      refine g_iconst X (5 : Int32) dX6_ends_167 (by decide) ?_
      refine g_calli (pc' := 171) (rest := []) rfl (fun H locs ls d qR qL => g_runV X cw_X6_108 iv_X6_ofPart ⟨Nat.le_of_ble_eq_true rfl, Nat.le_of_ble_eq_true rfl⟩ dX6_ends_168 (c_X6_ofPart l E n M35 t x3 (5 : Int32) _ hw) hk1 rfl rfl (Nat.le_of_ble_eq_true rfl) ⟨Nat.le_of_ble_eq_true rfl, Nat.le_of_ble_eq_true rfl⟩ qR qL) (fun x49 M48 hw => ?_)
      refine g_iconst X (2 : Int32) dX6_ends_171 (by decide) ?_
      refine g_icmp_ne X 195 dX6_ends_172 (by decide) hw (fun hw => ?_) (fun hw => ?_)
      · refine g_aload_n X dX6_ends_195 5 rfl ?_
        refine g_iload_n X dX6_ends_196 4 rfl ?_
        refine g_iconst X (5 : Int32) dX6_ends_197 (by decide) ?_
        refine g_aload_n X dX6_ends_198 5 rfl ?_
        refine g_iload_n X dX6_ends_199 4 rfl ?_
        refine g_iconst X (5 : Int32) dX6_ends_200 (by decide) ?_
        refine g_calli (pc' := 204) (rest := [iV (5 : Int32), iV x3, rV t]) rfl (fun H locs ls d qR qL => g_runV X cw_X6_108 iv_X6_ofPart ⟨Nat.le_of_ble_eq_true rfl, Nat.le_of_ble_eq_true rfl⟩ dX6_ends_201 (c_X6_ofPart l E n M48 t x3 (5 : Int32) _ hw) hk1 rfl rfl (Nat.le_of_ble_eq_true rfl) ⟨Nat.le_of_ble_eq_true rfl, Nat.le_of_ble_eq_true rfl⟩ qR qL) (fun x51 M50 hw => ?_)
        refine g_iconst X (1 : Int32) dX6_ends_204 (by decide) ?_
        refine g_iadd X dX6_ends_205 ?_
        refine g_callv (pc' := 209) (rest := []) rfl (fun H locs ls d qR qL => g_runV X cw_X6_98 iv_X6_put ⟨Nat.le_of_ble_eq_true rfl, Nat.le_of_ble_eq_true rfl⟩ dX6_ends_206 (c_X6_put l E n M50 t x3 (5 : Int32) (x51 + (1 : Int32)) _ hw) hk1 rfl rfl (Nat.le_of_ble_eq_true rfl) ⟨Nat.le_of_ble_eq_true rfl, Nat.le_of_ble_eq_true rfl⟩ qR qL) (fun M52 hw => ?_)
        refine g_aload_n X dX6_ends_209 5 rfl ?_
        refine g_iload_n X dX6_ends_210 6 rfl ?_
        refine g_bipush X (7 : Int32) dX6_ends_211 (by decide) ?_
        refine g_callv (pc' := 216) (rest := []) rfl (fun H locs ls d qR qL => g_runV X cw_X6_119 iv_X6_more ⟨Nat.le_of_ble_eq_true rfl, Nat.le_of_ble_eq_true rfl⟩ dX6_ends_213 (c_X6_more l E n M52 t p1 (7 : Int32) _ hw) hk1 rfl rfl (Nat.le_of_ble_eq_true rfl) ⟨Nat.le_of_ble_eq_true rfl, Nat.le_of_ble_eq_true rfl⟩ qR qL) (fun M53 hw => ?_)
        refine g_aload_n X dX6_ends_216 5 rfl ?_
        refine g_get X (rV (gR M53 t 0)) dX6_ends_217 fl_X6_7 (fun _ => rfl) ⟨hk1, hw⟩ (fun hw => ?_)
        refine g_topR (fun r54 hr54 => ?_)
        have hw := hw r54 hr54
        refine g_iconst X (5 : Int32) dX6_ends_220 (by decide) ?_
        refine g_dup2 X dX6_ends_221 rfl rfl ?_
        refine g_iald X dX6_ends_222 hw (fun hw => ?_)
        refine g_topI (fun x55 hx55 => ?_)
        have hw := hw x55 hx55
        refine g_iconst X (1 : Int32) dX6_ends_223 (by decide) ?_
        refine g_iadd X dX6_ends_224 ?_
        refine g_iast X dX6_ends_225 hw (fun hw => ?_)
        refine g_topM (fun M56 hM56 => ?_)
        have hw := hw M56 hM56
        refine g_aload_n X dX6_ends_226 5 rfl ?_
        refine g_iload_n X dX6_ends_227 4 rfl ?_
        refine g_callv (pc' := 231) (rest := []) rfl (fun H locs ls d qR qL => g_runV X cw_X6_130 iv_X6_toFront ⟨Nat.le_of_ble_eq_true rfl, Nat.le_of_ble_eq_true rfl⟩ dX6_ends_228 (c_X6_toFront l E n M56 t x3 _ hw) hk1 rfl rfl (Nat.le_of_ble_eq_true rfl) ⟨Nat.le_of_ble_eq_true rfl, Nat.le_of_ble_eq_true rfl⟩ qR qL) (fun M57 hw => ?_)
        refine g_aload_n X dX6_ends_231 5 rfl ?_
        refine g_get X (rV (gR M57 t 3)) dX6_ends_232 fl_X6_19 (fun _ => rfl) ⟨hk1, hw⟩ (fun hw => ?_)
        refine g_topR (fun r58 hr58 => ?_)
        have hw := hw r58 hr58
        refine g_iconst X (3 : Int32) dX6_ends_235 (by decide) ?_
        refine g_bipush X (12 : Int32) dX6_ends_236 (by decide) ?_
        refine g_iload_n X dX6_ends_238 6 rfl ?_
        refine g_imul X dX6_ends_239 ?_
        refine g_iadd X dX6_ends_240 ?_
        refine g_iconst X (0 : Int32) dX6_ends_241 (by decide) ?_
        refine g_iadd X dX6_ends_242 ?_
        refine g_aload_n X dX6_ends_243 5 rfl ?_
        refine g_iload_n X dX6_ends_244 6 rfl ?_
        refine g_calld (pc' := 248) (rest := [iV (((3 : Int32) + ((12 : Int32) * p1)) + (0 : Int32)), rV r58]) rfl (fun H locs ls d qR qL => g_runV X cw_X6_94 iv_X6_gain ⟨Nat.le_of_ble_eq_true rfl, Nat.le_of_ble_eq_true rfl⟩ dX6_ends_245 (c_X6_gain l E n M57 t p1 _ hw) hk1 rfl rfl (Nat.le_of_ble_eq_true rfl) ⟨Nat.le_of_ble_eq_true rfl, Nat.le_of_ble_eq_true rfl⟩ qR qL) (fun z60 M59 hw => ?_)
        refine g_dconst1 X dX6_ends_248 ?_
        refine g_aload_n X dX6_ends_249 5 rfl ?_
        refine g_iload_n X dX6_ends_250 6 rfl ?_
        refine g_iconst X (0 : Int32) dX6_ends_251 (by decide) ?_
        refine g_calli (pc' := 255) (rest := [dV FP.dconst1, dV z60, iV (((3 : Int32) + ((12 : Int32) * p1)) + (0 : Int32)), rV r58]) rfl (fun H locs ls d qR qL => g_runV X cw_X6_54 iv_X6_ofHead ⟨Nat.le_of_ble_eq_true rfl, Nat.le_of_ble_eq_true rfl⟩ dX6_ends_252 (c_X6_ofHead l E n M59 t p1 (0 : Int32) _ hw) hk1 rfl rfl (Nat.le_of_ble_eq_true rfl) ⟨Nat.le_of_ble_eq_true rfl, Nat.le_of_ble_eq_true rfl⟩ qR qL) (fun x62 M61 hw => ?_)
        refine g_i2d X dX6_ends_255 ?_
        refine g_ldcD X (4696837146684686336 : UInt64) dX6_ends_256 wk_X6_75 ?_
        refine g_ddiv X dX6_ends_259 hw (fun hw => ?_)
        refine g_topD (fun z63 hz63 => ?_)
        have hw := hw z63 hz63
        refine g_dsub X dX6_ends_260 hw (fun hw => ?_)
        refine g_topD (fun z64 hz64 => ?_)
        have hw := hw z64 hz64
        refine g_dmul X dX6_ends_261 hw (fun hw => ?_)
        refine g_topD (fun z65 hz65 => ?_)
        have hw := hw z65 hz65
        refine g_dast X dX6_ends_262 hw (fun hw => ?_)
        refine g_topM (fun M66 hM66 => ?_)
        have hw := hw M66 hM66
        exact g_vret X hr hlk hSz hOld (Nat.le_refl _) dX6_ends_263 hw
      · refine g_aload_n X dX6_ends_175 5 rfl ?_
        refine g_iload_n X dX6_ends_176 4 rfl ?_
        refine g_iload X dX6_ends_177 0 rfl ?_
        refine g_bipush X (10 : Int32) dX6_ends_179 (by decide) ?_
        refine g_irem X dX6_ends_181 hw (fun hw => ?_)
        refine g_topI (fun x67 hx67 => ?_)
        have hw := hw x67 hx67
        refine g_callv (pc' := 185) (rest := []) rfl (fun H locs ls d qR qL => g_runV X cw_X6_127 iv_X6_rejects ⟨Nat.le_of_ble_eq_true rfl, Nat.le_of_ble_eq_true rfl⟩ dX6_ends_182 (c_X6_rejects l E n M48 t x3 x67 _ hw) hk1 rfl rfl (Nat.le_of_ble_eq_true rfl) ⟨Nat.le_of_ble_eq_true rfl, Nat.le_of_ble_eq_true rfl⟩ qR qL) (fun M68 hw => ?_)
        refine g_aload_n X dX6_ends_185 5 rfl ?_
        refine g_iload_n X dX6_ends_186 6 rfl ?_
        refine g_bipush X (6 : Int32) dX6_ends_187 (by decide) ?_
        refine g_callv (pc' := 192) (rest := []) rfl (fun H locs ls d qR qL => g_runV X cw_X6_119 iv_X6_more ⟨Nat.le_of_ble_eq_true rfl, Nat.le_of_ble_eq_true rfl⟩ dX6_ends_189 (c_X6_more l E n M68 t p1 (6 : Int32) _ hw) hk1 rfl rfl (Nat.le_of_ble_eq_true rfl) ⟨Nat.le_of_ble_eq_true rfl, Nat.le_of_ble_eq_true rfl⟩ qR qL) (fun M69 hw => ?_)
        refine g_goto X 231 dX6_ends_192 (by decide) ?_
        refine g_aload_n X dX6_ends_231 5 rfl ?_
        refine g_get X (rV (gR M69 t 3)) dX6_ends_232 fl_X6_19 (fun _ => rfl) ⟨hk1, hw⟩ (fun hw => ?_)
        refine g_topR (fun r70 hr70 => ?_)
        have hw := hw r70 hr70
        refine g_iconst X (3 : Int32) dX6_ends_235 (by decide) ?_
        refine g_bipush X (12 : Int32) dX6_ends_236 (by decide) ?_
        refine g_iload_n X dX6_ends_238 6 rfl ?_
        refine g_imul X dX6_ends_239 ?_
        refine g_iadd X dX6_ends_240 ?_
        refine g_iconst X (0 : Int32) dX6_ends_241 (by decide) ?_
        refine g_iadd X dX6_ends_242 ?_
        refine g_aload_n X dX6_ends_243 5 rfl ?_
        refine g_iload_n X dX6_ends_244 6 rfl ?_
        refine g_calld (pc' := 248) (rest := [iV (((3 : Int32) + ((12 : Int32) * p1)) + (0 : Int32)), rV r70]) rfl (fun H locs ls d qR qL => g_runV X cw_X6_94 iv_X6_gain ⟨Nat.le_of_ble_eq_true rfl, Nat.le_of_ble_eq_true rfl⟩ dX6_ends_245 (c_X6_gain l E n M69 t p1 _ hw) hk1 rfl rfl (Nat.le_of_ble_eq_true rfl) ⟨Nat.le_of_ble_eq_true rfl, Nat.le_of_ble_eq_true rfl⟩ qR qL) (fun z72 M71 hw => ?_)
        refine g_dconst1 X dX6_ends_248 ?_
        refine g_aload_n X dX6_ends_249 5 rfl ?_
        refine g_iload_n X dX6_ends_250 6 rfl ?_
        refine g_iconst X (0 : Int32) dX6_ends_251 (by decide) ?_
        refine g_calli (pc' := 255) (rest := [dV FP.dconst1, dV z72, iV (((3 : Int32) + ((12 : Int32) * p1)) + (0 : Int32)), rV r70]) rfl (fun H locs ls d qR qL => g_runV X cw_X6_54 iv_X6_ofHead ⟨Nat.le_of_ble_eq_true rfl, Nat.le_of_ble_eq_true rfl⟩ dX6_ends_252 (c_X6_ofHead l E n M71 t p1 (0 : Int32) _ hw) hk1 rfl rfl (Nat.le_of_ble_eq_true rfl) ⟨Nat.le_of_ble_eq_true rfl, Nat.le_of_ble_eq_true rfl⟩ qR qL) (fun x74 M73 hw => ?_)
        refine g_i2d X dX6_ends_255 ?_
        refine g_ldcD X (4696837146684686336 : UInt64) dX6_ends_256 wk_X6_75 ?_
        refine g_ddiv X dX6_ends_259 hw (fun hw => ?_)
        refine g_topD (fun z75 hz75 => ?_)
        have hw := hw z75 hz75
        refine g_dsub X dX6_ends_260 hw (fun hw => ?_)
        refine g_topD (fun z76 hz76 => ?_)
        have hw := hw z76 hz76
        refine g_dmul X dX6_ends_261 hw (fun hw => ?_)
        refine g_topD (fun z77 hz77 => ?_)
        have hw := hw z77 hz77
        refine g_dast X dX6_ends_262 hw (fun hw => ?_)
        refine g_topM (fun M78 hM78 => ?_)
        have hw := hw M78 hM78
        exact g_vret X hr hlk hSz hOld (Nat.le_refl _) dX6_ends_263 hw
  · refine g_aload_n X dX6_ends_142 5 rfl ?_
    refine g_iload_n X dX6_ends_143 4 rfl ?_
    refine g_iconst X (3 : Int32) dX6_ends_144 (by decide) ?_
    refine g_iconst X (2 : Int32) dX6_ends_145 (by decide) ?_
    refine g_callv (pc' := 149) (rest := []) rfl (fun H locs ls d qR qL => g_runV X cw_X6_98 iv_X6_put ⟨Nat.le_of_ble_eq_true rfl, Nat.le_of_ble_eq_true rfl⟩ dX6_ends_146 (c_X6_put l E n M35 t x3 (3 : Int32) (2 : Int32) _ hw) hk1 rfl rfl (Nat.le_of_ble_eq_true rfl) ⟨Nat.le_of_ble_eq_true rfl, Nat.le_of_ble_eq_true rfl⟩ qR qL) (fun M79 hw => ?_)
    refine g_aload_n X dX6_ends_149 5 rfl ?_
    refine g_iload_n X dX6_ends_150 6 rfl ?_
    refine g_iconst X (5 : Int32) dX6_ends_151 (by decide) ?_
    refine g_callv (pc' := 155) (rest := []) rfl (fun H locs ls d qR qL => g_runV X cw_X6_119 iv_X6_more ⟨Nat.le_of_ble_eq_true rfl, Nat.le_of_ble_eq_true rfl⟩ dX6_ends_152 (c_X6_more l E n M79 t p1 (5 : Int32) _ hw) hk1 rfl rfl (Nat.le_of_ble_eq_true rfl) ⟨Nat.le_of_ble_eq_true rfl, Nat.le_of_ble_eq_true rfl⟩ qR qL) (fun M80 hw => ?_)
    refine g_goto X 231 dX6_ends_155 (by decide) ?_
    refine g_aload_n X dX6_ends_231 5 rfl ?_
    refine g_get X (rV (gR M80 t 3)) dX6_ends_232 fl_X6_19 (fun _ => rfl) ⟨hk1, hw⟩ (fun hw => ?_)
    refine g_topR (fun r81 hr81 => ?_)
    have hw := hw r81 hr81
    refine g_iconst X (3 : Int32) dX6_ends_235 (by decide) ?_
    refine g_bipush X (12 : Int32) dX6_ends_236 (by decide) ?_
    refine g_iload_n X dX6_ends_238 6 rfl ?_
    refine g_imul X dX6_ends_239 ?_
    refine g_iadd X dX6_ends_240 ?_
    refine g_iconst X (0 : Int32) dX6_ends_241 (by decide) ?_
    refine g_iadd X dX6_ends_242 ?_
    refine g_aload_n X dX6_ends_243 5 rfl ?_
    refine g_iload_n X dX6_ends_244 6 rfl ?_
    refine g_calld (pc' := 248) (rest := [iV (((3 : Int32) + ((12 : Int32) * p1)) + (0 : Int32)), rV r81]) rfl (fun H locs ls d qR qL => g_runV X cw_X6_94 iv_X6_gain ⟨Nat.le_of_ble_eq_true rfl, Nat.le_of_ble_eq_true rfl⟩ dX6_ends_245 (c_X6_gain l E n M80 t p1 _ hw) hk1 rfl rfl (Nat.le_of_ble_eq_true rfl) ⟨Nat.le_of_ble_eq_true rfl, Nat.le_of_ble_eq_true rfl⟩ qR qL) (fun z83 M82 hw => ?_)
    refine g_dconst1 X dX6_ends_248 ?_
    refine g_aload_n X dX6_ends_249 5 rfl ?_
    refine g_iload_n X dX6_ends_250 6 rfl ?_
    refine g_iconst X (0 : Int32) dX6_ends_251 (by decide) ?_
    refine g_calli (pc' := 255) (rest := [dV FP.dconst1, dV z83, iV (((3 : Int32) + ((12 : Int32) * p1)) + (0 : Int32)), rV r81]) rfl (fun H locs ls d qR qL => g_runV X cw_X6_54 iv_X6_ofHead ⟨Nat.le_of_ble_eq_true rfl, Nat.le_of_ble_eq_true rfl⟩ dX6_ends_252 (c_X6_ofHead l E n M82 t p1 (0 : Int32) _ hw) hk1 rfl rfl (Nat.le_of_ble_eq_true rfl) ⟨Nat.le_of_ble_eq_true rfl, Nat.le_of_ble_eq_true rfl⟩ qR qL) (fun x85 M84 hw => ?_)
    refine g_i2d X dX6_ends_255 ?_
    refine g_ldcD X (4696837146684686336 : UInt64) dX6_ends_256 wk_X6_75 ?_
    refine g_ddiv X dX6_ends_259 hw (fun hw => ?_)
    refine g_topD (fun z86 hz86 => ?_)
    have hw := hw z86 hz86
    refine g_dsub X dX6_ends_260 hw (fun hw => ?_)
    refine g_topD (fun z87 hz87 => ?_)
    have hw := hw z87 hz87
    refine g_dmul X dX6_ends_261 hw (fun hw => ?_)
    refine g_topD (fun z88 hz88 => ?_)
    have hw := hw z88 hz88
    refine g_dast X dX6_ends_262 hw (fun hw => ?_)
    refine g_topM (fun M89 hM89 => ?_)
    have hw := hw M89 hM89
    exact g_vret X hr hlk hSz hOld (Nat.le_refl _) dX6_ends_263 hw
theorem dX6_fills_0 : decode cX6_fills 0 = .ok (.iconst 0, 1) := by decide +kernel
theorem dX6_fills_1 : decode cX6_fills 1 = .ok (.istore_n 2, 1) := by decide +kernel
theorem dX6_fills_2 : decode cX6_fills 2 = .ok (.iload_n 2, 1) := by decide +kernel
theorem dX6_fills_3 : decode cX6_fills 3 = .ok (.aload_n 0, 1) := by decide +kernel
theorem dX6_fills_4 : decode cX6_fills 4 = .ok (.getfield 7, 3) := by decide +kernel
theorem dX6_fills_7 : decode cX6_fills 7 = .ok (.bipush 11, 2) := by decide +kernel
theorem dX6_fills_9 : decode cX6_fills 9 = .ok (.iaload, 1) := by decide +kernel
theorem dX6_fills_10 : decode cX6_fills 10 = .ok (.if_icmp .ge 49, 3) := by decide +kernel
theorem dX6_fills_13 : decode cX6_fills 13 = .ok (.aload_n 0, 1) := by decide +kernel
theorem dX6_fills_14 : decode cX6_fills 14 = .ok (.iload_n 1, 1) := by decide +kernel
theorem dX6_fills_15 : decode cX6_fills 15 = .ok (.aload_n 0, 1) := by decide +kernel
theorem dX6_fills_16 : decode cX6_fills 16 = .ok (.getfield 7, 3) := by decide +kernel
theorem dX6_fills_19 : decode cX6_fills 19 = .ok (.sipush 572, 3) := by decide +kernel
theorem dX6_fills_22 : decode cX6_fills 22 = .ok (.iload_n 2, 1) := by decide +kernel
theorem dX6_fills_23 : decode cX6_fills 23 = .ok (.iadd, 1) := by decide +kernel
theorem dX6_fills_24 : decode cX6_fills 24 = .ok (.iaload, 1) := by decide +kernel
theorem dX6_fills_25 : decode cX6_fills 25 = .ok (.invokevirtual 133, 3) := by decide +kernel
theorem dX6_fills_28 : decode cX6_fills 28 = .ok (.ifCond .eq 25, 3) := by decide +kernel
theorem dX6_fills_31 : decode cX6_fills 31 = .ok (.aload_n 0, 1) := by decide +kernel
theorem dX6_fills_32 : decode cX6_fills 32 = .ok (.aload_n 0, 1) := by decide +kernel
theorem dX6_fills_33 : decode cX6_fills 33 = .ok (.getfield 7, 3) := by decide +kernel
theorem dX6_fills_36 : decode cX6_fills 36 = .ok (.sipush 572, 3) := by decide +kernel
theorem dX6_fills_39 : decode cX6_fills 39 = .ok (.iload_n 2, 1) := by decide +kernel
theorem dX6_fills_40 : decode cX6_fills 40 = .ok (.iadd, 1) := by decide +kernel
theorem dX6_fills_41 : decode cX6_fills 41 = .ok (.iaload, 1) := by decide +kernel
theorem dX6_fills_42 : decode cX6_fills 42 = .ok (.bipush 6, 2) := by decide +kernel
theorem dX6_fills_44 : decode cX6_fills 44 = .ok (.invokevirtual 108, 3) := by decide +kernel
theorem dX6_fills_47 : decode cX6_fills 47 = .ok (.iload_n 1, 1) := by decide +kernel
theorem dX6_fills_48 : decode cX6_fills 48 = .ok (.iconst 1, 1) := by decide +kernel
theorem dX6_fills_49 : decode cX6_fills 49 = .ok (.iadd, 1) := by decide +kernel
theorem dX6_fills_50 : decode cX6_fills 50 = .ok (.if_icmp .ne 9, 3) := by decide +kernel
theorem dX6_fills_53 : decode cX6_fills 53 = .ok (.iinc 2 1, 3) := by decide +kernel
theorem dX6_fills_56 : decode cX6_fills 56 = .ok (.goto (-54), 3) := by decide +kernel
theorem dX6_fills_59 : decode cX6_fills 59 = .ok (.iload_n 2, 1) := by decide +kernel
theorem dX6_fills_60 : decode cX6_fills 60 = .ok (.aload_n 0, 1) := by decide +kernel
theorem dX6_fills_61 : decode cX6_fills 61 = .ok (.getfield 7, 3) := by decide +kernel
theorem dX6_fills_64 : decode cX6_fills 64 = .ok (.bipush 11, 2) := by decide +kernel
theorem dX6_fills_66 : decode cX6_fills 66 = .ok (.iaload, 1) := by decide +kernel
theorem dX6_fills_67 : decode cX6_fills 67 = .ok (.if_icmp .ne 4, 3) := by decide +kernel
theorem dX6_fills_70 : decode cX6_fills 70 = .ok (.return_, 1) := by decide +kernel
theorem dX6_fills_71 : decode cX6_fills 71 = .ok (.aload_n 0, 1) := by decide +kernel
theorem dX6_fills_72 : decode cX6_fills 72 = .ok (.getfield 7, 3) := by decide +kernel
theorem dX6_fills_75 : decode cX6_fills 75 = .ok (.sipush 572, 3) := by decide +kernel
theorem dX6_fills_78 : decode cX6_fills 78 = .ok (.iload_n 2, 1) := by decide +kernel
theorem dX6_fills_79 : decode cX6_fills 79 = .ok (.iadd, 1) := by decide +kernel
theorem dX6_fills_80 : decode cX6_fills 80 = .ok (.iaload, 1) := by decide +kernel
theorem dX6_fills_81 : decode cX6_fills 81 = .ok (.istore_n 3, 1) := by decide +kernel
theorem dX6_fills_82 : decode cX6_fills 82 = .ok (.aload_n 0, 1) := by decide +kernel
theorem dX6_fills_83 : decode cX6_fills 83 = .ok (.getfield 7, 3) := by decide +kernel
theorem dX6_fills_86 : decode cX6_fills 86 = .ok (.bipush 11, 2) := by decide +kernel
theorem dX6_fills_88 : decode cX6_fills 88 = .ok (.dup2, 1) := by decide +kernel
theorem dX6_fills_89 : decode cX6_fills 89 = .ok (.iaload, 1) := by decide +kernel
theorem dX6_fills_90 : decode cX6_fills 90 = .ok (.iconst 1, 1) := by decide +kernel
theorem dX6_fills_91 : decode cX6_fills 91 = .ok (.isub, 1) := by decide +kernel
theorem dX6_fills_92 : decode cX6_fills 92 = .ok (.iastore, 1) := by decide +kernel
theorem dX6_fills_93 : decode cX6_fills 93 = .ok (.sipush 572, 3) := by decide +kernel
theorem dX6_fills_96 : decode cX6_fills 96 = .ok (.iload_n 2, 1) := by decide +kernel
theorem dX6_fills_97 : decode cX6_fills 97 = .ok (.iadd, 1) := by decide +kernel
theorem dX6_fills_98 : decode cX6_fills 98 = .ok (.istore 4, 2) := by decide +kernel
theorem dX6_fills_100 : decode cX6_fills 100 = .ok (.iload 4, 2) := by decide +kernel
theorem dX6_fills_102 : decode cX6_fills 102 = .ok (.sipush 572, 3) := by decide +kernel
theorem dX6_fills_105 : decode cX6_fills 105 = .ok (.aload_n 0, 1) := by decide +kernel
theorem dX6_fills_106 : decode cX6_fills 106 = .ok (.getfield 7, 3) := by decide +kernel
theorem dX6_fills_109 : decode cX6_fills 109 = .ok (.bipush 11, 2) := by decide +kernel
theorem dX6_fills_111 : decode cX6_fills 111 = .ok (.iaload, 1) := by decide +kernel
theorem dX6_fills_112 : decode cX6_fills 112 = .ok (.iadd, 1) := by decide +kernel
theorem dX6_fills_113 : decode cX6_fills 113 = .ok (.if_icmp .ge 25, 3) := by decide +kernel
theorem dX6_fills_116 : decode cX6_fills 116 = .ok (.aload_n 0, 1) := by decide +kernel
theorem dX6_fills_117 : decode cX6_fills 117 = .ok (.getfield 7, 3) := by decide +kernel
theorem dX6_fills_120 : decode cX6_fills 120 = .ok (.iload 4, 2) := by decide +kernel
theorem dX6_fills_122 : decode cX6_fills 122 = .ok (.aload_n 0, 1) := by decide +kernel
theorem dX6_fills_123 : decode cX6_fills 123 = .ok (.getfield 7, 3) := by decide +kernel
theorem dX6_fills_126 : decode cX6_fills 126 = .ok (.iload 4, 2) := by decide +kernel
theorem dX6_fills_128 : decode cX6_fills 128 = .ok (.iconst 1, 1) := by decide +kernel
theorem dX6_fills_129 : decode cX6_fills 129 = .ok (.iadd, 1) := by decide +kernel
theorem dX6_fills_130 : decode cX6_fills 130 = .ok (.iaload, 1) := by decide +kernel
theorem dX6_fills_131 : decode cX6_fills 131 = .ok (.iastore, 1) := by decide +kernel
theorem dX6_fills_132 : decode cX6_fills 132 = .ok (.iinc 4 1, 3) := by decide +kernel
theorem dX6_fills_135 : decode cX6_fills 135 = .ok (.goto (-35), 3) := by decide +kernel
theorem dX6_fills_138 : decode cX6_fills 138 = .ok (.aload_n 0, 1) := by decide +kernel
theorem dX6_fills_139 : decode cX6_fills 139 = .ok (.iload_n 3, 1) := by decide +kernel
theorem dX6_fills_140 : decode cX6_fills 140 = .ok (.iconst 3, 1) := by decide +kernel
theorem dX6_fills_141 : decode cX6_fills 141 = .ok (.iconst 1, 1) := by decide +kernel
theorem dX6_fills_142 : decode cX6_fills 142 = .ok (.invokevirtual 98, 3) := by decide +kernel
theorem dX6_fills_145 : decode cX6_fills 145 = .ok (.aload_n 0, 1) := by decide +kernel
theorem dX6_fills_146 : decode cX6_fills 146 = .ok (.getfield 7, 3) := by decide +kernel
theorem dX6_fills_149 : decode cX6_fills 149 = .ok (.bipush 12, 2) := by decide +kernel
theorem dX6_fills_151 : decode cX6_fills 151 = .ok (.bipush 10, 2) := by decide +kernel
theorem dX6_fills_153 : decode cX6_fills 153 = .ok (.iload_n 1, 1) := by decide +kernel
theorem dX6_fills_154 : decode cX6_fills 154 = .ok (.imul, 1) := by decide +kernel
theorem dX6_fills_155 : decode cX6_fills 155 = .ok (.iadd, 1) := by decide +kernel
theorem dX6_fills_156 : decode cX6_fills 156 = .ok (.iconst 3, 1) := by decide +kernel
theorem dX6_fills_157 : decode cX6_fills 157 = .ok (.iadd, 1) := by decide +kernel
theorem dX6_fills_158 : decode cX6_fills 158 = .ok (.iload_n 3, 1) := by decide +kernel
theorem dX6_fills_159 : decode cX6_fills 159 = .ok (.iconst 1, 1) := by decide +kernel
theorem dX6_fills_160 : decode cX6_fills 160 = .ok (.iadd, 1) := by decide +kernel
theorem dX6_fills_161 : decode cX6_fills 161 = .ok (.iastore, 1) := by decide +kernel
theorem dX6_fills_162 : decode cX6_fills 162 = .ok (.aload_n 0, 1) := by decide +kernel
theorem dX6_fills_163 : decode cX6_fills 163 = .ok (.getfield 7, 3) := by decide +kernel
theorem dX6_fills_166 : decode cX6_fills 166 = .ok (.bipush 12, 2) := by decide +kernel
theorem dX6_fills_168 : decode cX6_fills 168 = .ok (.bipush 10, 2) := by decide +kernel
theorem dX6_fills_170 : decode cX6_fills 170 = .ok (.iload_n 1, 1) := by decide +kernel
theorem dX6_fills_171 : decode cX6_fills 171 = .ok (.imul, 1) := by decide +kernel
theorem dX6_fills_172 : decode cX6_fills 172 = .ok (.iadd, 1) := by decide +kernel
theorem dX6_fills_173 : decode cX6_fills 173 = .ok (.bipush 8, 2) := by decide +kernel
theorem dX6_fills_175 : decode cX6_fills 175 = .ok (.iadd, 1) := by decide +kernel
theorem dX6_fills_176 : decode cX6_fills 176 = .ok (.iconst 1, 1) := by decide +kernel
theorem dX6_fills_177 : decode cX6_fills 177 = .ok (.iastore, 1) := by decide +kernel
theorem dX6_fills_178 : decode cX6_fills 178 = .ok (.aload_n 0, 1) := by decide +kernel
theorem dX6_fills_179 : decode cX6_fills 179 = .ok (.getfield 19, 3) := by decide +kernel
theorem dX6_fills_182 : decode cX6_fills 182 = .ok (.iconst 3, 1) := by decide +kernel
theorem dX6_fills_183 : decode cX6_fills 183 = .ok (.bipush 12, 2) := by decide +kernel
theorem dX6_fills_185 : decode cX6_fills 185 = .ok (.iload_n 1, 1) := by decide +kernel
theorem dX6_fills_186 : decode cX6_fills 186 = .ok (.imul, 1) := by decide +kernel
theorem dX6_fills_187 : decode cX6_fills 187 = .ok (.iadd, 1) := by decide +kernel
theorem dX6_fills_188 : decode cX6_fills 188 = .ok (.iconst 2, 1) := by decide +kernel
theorem dX6_fills_189 : decode cX6_fills 189 = .ok (.iadd, 1) := by decide +kernel
theorem dX6_fills_190 : decode cX6_fills 190 = .ok (.aload_n 0, 1) := by decide +kernel
theorem dX6_fills_191 : decode cX6_fills 191 = .ok (.getfield 19, 3) := by decide +kernel
theorem dX6_fills_194 : decode cX6_fills 194 = .ok (.iconst 0, 1) := by decide +kernel
theorem dX6_fills_195 : decode cX6_fills 195 = .ok (.daload, 1) := by decide +kernel
theorem dX6_fills_196 : decode cX6_fills 196 = .ok (.dastore, 1) := by decide +kernel
theorem dX6_fills_197 : decode cX6_fills 197 = .ok (.return_, 1) := by decide +kernel
abbrev rmX6_fills : Room := { frames := 2, cells := 0, slots := 0, locals := 45 }
def w_X6_fills_L100 (n : Nat) (K : Mem → Prop) : Nat → Mem → Nat → Int32 → Int32 → Int32 → Prop
  | 0, _, _, _, _, _ => False
  | fuel + 1, M, o0, a1, a3, a4 => ((o0 ≤ n ∧ kd o0 = (6, 0)) ∧ (∀ r13, r13 = gR M o0 0 → ((r13 ≤ n ∧ (kd r13).1 = 7 ∧ vp_in (11 : Int32) (kd r13).2) ∧ (∀ x14, x14 = gI M r13 (Int32.toNatClampNeg (11 : Int32)) → ((((572 : Int32) + x14) ≤ a4 → w_X6_put n M o0 a3 (3 : Int32) (1 : Int32) (fun M15 => (∀ r16, r16 = gR M15 o0 0 → ((r16 ≤ n ∧ (kd r16).1 = 7 ∧ vp_in (((12 : Int32) + ((10 : Int32) * a1)) + (3 : Int32)) (kd r16).2) ∧ (∀ M17, M17 = sI M15 r16 (Int32.toNatClampNeg (((12 : Int32) + ((10 : Int32) * a1)) + (3 : Int32))) (a3 + (1 : Int32)) → (∀ r18, r18 = gR M17 o0 0 → ((r18 ≤ n ∧ (kd r18).1 = 7 ∧ vp_in (((12 : Int32) + ((10 : Int32) * a1)) + (8 : Int32)) (kd r18).2) ∧ (∀ M19, M19 = sI M17 r18 (Int32.toNatClampNeg (((12 : Int32) + ((10 : Int32) * a1)) + (8 : Int32))) (1 : Int32) → (∀ r20, r20 = gR M19 o0 3 → (∀ r21, r21 = gR M19 o0 3 → ((r21 ≤ n ∧ (kd r21).1 = 8 ∧ vp_in (0 : Int32) (kd r21).2) ∧ (∀ z22, z22 = gD M19 r21 (Int32.toNatClampNeg (0 : Int32)) → ((r20 ≤ n ∧ (kd r20).1 = 8 ∧ vp_in (((3 : Int32) + ((12 : Int32) * a1)) + (2 : Int32)) (kd r20).2) ∧ (∀ M23, M23 = sD M19 r20 (Int32.toNatClampNeg (((3 : Int32) + ((12 : Int32) * a1)) + (2 : Int32))) z22 → K M23)))))))))))))) ∧ (¬ ((572 : Int32) + x14) ≤ a4 → (∀ r24, r24 = gR M o0 0 → (∀ r25, r25 = gR M o0 0 → ((r25 ≤ n ∧ (kd r25).1 = 7 ∧ vp_in (a4 + (1 : Int32)) (kd r25).2) ∧ (∀ x26, x26 = gI M r25 (Int32.toNatClampNeg (a4 + (1 : Int32))) → ((r24 ≤ n ∧ (kd r24).1 = 7 ∧ vp_in a4 (kd r24).2) ∧ (∀ M27, M27 = sI M r24 (Int32.toNatClampNeg a4) x26 → (∀ x28, x28 = a4 + (1 : Int32) → w_X6_fills_L100 n K fuel M27 o0 a1 a3 x28)))))))))))))
def w_X6_fills_L2 (n : Nat) (K : Mem → Prop) : Nat → Mem → Nat → Int32 → Int32 → Prop
  | 0, _, _, _, _ => False
  | fuel + 1, M, o0, a1, a2 => ((o0 ≤ n ∧ kd o0 = (6, 0)) ∧ (∀ r2, r2 = gR M o0 0 → ((r2 ≤ n ∧ (kd r2).1 = 7 ∧ vp_in (11 : Int32) (kd r2).2) ∧ (∀ x3, x3 = gI M r2 (Int32.toNatClampNeg (11 : Int32)) → ((x3 ≤ a2 → (∀ r4, r4 = gR M o0 0 → ((r4 ≤ n ∧ (kd r4).1 = 7 ∧ vp_in (11 : Int32) (kd r4).2) ∧ (∀ x5, x5 = gI M r4 (Int32.toNatClampNeg (11 : Int32)) → ((¬ a2 = x5 → (∀ r6, r6 = gR M o0 0 → ((r6 ≤ n ∧ (kd r6).1 = 7 ∧ vp_in ((572 : Int32) + a2) (kd r6).2) ∧ (∀ x7, x7 = gI M r6 (Int32.toNatClampNeg ((572 : Int32) + a2)) → (∀ r8, r8 = gR M o0 0 → ((r8 ≤ n ∧ (kd r8).1 = 7 ∧ vp_in (11 : Int32) (kd r8).2) ∧ (∀ x9, x9 = gI M r8 (Int32.toNatClampNeg (11 : Int32)) → ((r8 ≤ n ∧ (kd r8).1 = 7 ∧ vp_in (11 : Int32) (kd r8).2) ∧ (∀ M10, M10 = sI M r8 (Int32.toNatClampNeg (11 : Int32)) (x9 - (1 : Int32)) → (∀ x11, x11 = (572 : Int32) + a2 → w_X6_fills_L100 n K 4000 M10 o0 a1 x7 x11)))))))))) ∧ (a2 = x5 → K M)))))) ∧ (¬ x3 ≤ a2 → (∀ r29, r29 = gR M o0 0 → ((r29 ≤ n ∧ (kd r29).1 = 7 ∧ vp_in ((572 : Int32) + a2) (kd r29).2) ∧ (∀ x30, x30 = gI M r29 (Int32.toNatClampNeg ((572 : Int32) + a2)) → w_X6_takes n M o0 a1 x30 (fun x32 M31 => ((x32 = 0 → (∀ x33, x33 = a2 + (1 : Int32) → w_X6_fills_L2 n K fuel M31 o0 a1 x33)) ∧ (¬ x32 = 0 → (∀ r34, r34 = gR M31 o0 0 → ((r34 ≤ n ∧ (kd r34).1 = 7 ∧ vp_in ((572 : Int32) + a2) (kd r34).2) ∧ (∀ x35, x35 = gI M31 r34 (Int32.toNatClampNeg ((572 : Int32) + a2)) → w_X6_ofPart n M31 o0 x35 (6 : Int32) (fun x37 M36 => ((¬ x37 = (a1 + (1 : Int32)) → (∀ r38, r38 = gR M36 o0 0 → ((r38 ≤ n ∧ (kd r38).1 = 7 ∧ vp_in (11 : Int32) (kd r38).2) ∧ (∀ x39, x39 = gI M36 r38 (Int32.toNatClampNeg (11 : Int32)) → ((¬ a2 = x39 → (∀ r40, r40 = gR M36 o0 0 → ((r40 ≤ n ∧ (kd r40).1 = 7 ∧ vp_in ((572 : Int32) + a2) (kd r40).2) ∧ (∀ x41, x41 = gI M36 r40 (Int32.toNatClampNeg ((572 : Int32) + a2)) → (∀ r42, r42 = gR M36 o0 0 → ((r42 ≤ n ∧ (kd r42).1 = 7 ∧ vp_in (11 : Int32) (kd r42).2) ∧ (∀ x43, x43 = gI M36 r42 (Int32.toNatClampNeg (11 : Int32)) → ((r42 ≤ n ∧ (kd r42).1 = 7 ∧ vp_in (11 : Int32) (kd r42).2) ∧ (∀ M44, M44 = sI M36 r42 (Int32.toNatClampNeg (11 : Int32)) (x43 - (1 : Int32)) → (∀ x45, x45 = (572 : Int32) + a2 → w_X6_fills_L100 n K 4000 M44 o0 a1 x41 x45)))))))))) ∧ (a2 = x39 → K M36)))))) ∧ (x37 = (a1 + (1 : Int32)) → (∀ x46, x46 = a2 + (1 : Int32) → w_X6_fills_L2 n K fuel M36 o0 a1 x46)))))))))))))))))))
def w_X6_fills (n : Nat) (M : Mem) (t : Nat) (p1 : Int32) (K : Mem → Prop) : Prop := w_X6_fills_L2 n K 4000 M t p1 (0 : Int32)
set_option maxHeartbeats 4000000 in
set_option maxRecDepth 20000 in
theorem c_X6_fills (l : Launch) (E : Gl) (n : Nat) (M : Mem) (t : Nat) (p1 : Int32) (K : Mem → Prop) (hw : w_X6_fills n M t p1 K) : CT E l yX6_fills cX6_fills 5 none rmX6_fills n M [rV t, iV p1] (PV E n K) := by
  refine g_met l (by decide) (Nat.le_of_ble_eq_true rfl) ?_
  intro p e s m args below meth c X hr hlk hnm hSz hOld
  change CX E p s m c _ _ RX6 at X
  have L100 : ∀ (fuel : Nat) (M : Mem) (o0 : Nat) (a1 : Int32) (a3 : Int32) (a4 : Int32), w_X6_fills_L100 n K fuel M o0 a1 a3 a4 → G E p l e rmX6_fills s m args below meth c 5 n M 0 0 (MQD lw_cs below (PV E n K) args s rmX6_fills.cells rmX6_fills.slots (Ab E)) 100 [(0, rV o0), (1, iV a1), (3, iV a3), (4, iV a4)] [] := by
    intro fuel
    induction fuel with
    | zero => intro M o0 a1 a3 a4 hw; exact False.elim hw
    | succ fuel ih =>
      intro M o0 a1 a3 a4 hw
      unfold w_X6_fills_L100 at hw
      refine g_iload X dX6_fills_100 3 rfl ?_
      refine g_sipush X (572 : Int32) dX6_fills_102 (by decide) ?_
      refine g_aload_n X dX6_fills_105 0 rfl ?_
      obtain ⟨hk12, hw⟩ := hw
      refine g_get X (rV (gR M o0 0)) dX6_fills_106 fl_X6_7 (fun _ => rfl) ⟨hk12, hw⟩ (fun hw => ?_)
      refine g_topR (fun r13 hr13 => ?_)
      have hw := hw r13 hr13
      refine g_bipush X (11 : Int32) dX6_fills_109 (by decide) ?_
      refine g_iald X dX6_fills_111 hw (fun hw => ?_)
      refine g_topI (fun x14 hx14 => ?_)
      have hw := hw x14 hx14
      refine g_iadd X dX6_fills_112 ?_
      refine g_icmp_ge X 138 dX6_fills_113 (by decide) hw (fun hw => ?_) (fun hw => ?_)
      · refine g_aload_n X dX6_fills_138 0 rfl ?_
        refine g_iload_n X dX6_fills_139 2 rfl ?_
        refine g_iconst X (3 : Int32) dX6_fills_140 (by decide) ?_
        refine g_iconst X (1 : Int32) dX6_fills_141 (by decide) ?_
        refine g_callv (pc' := 145) (rest := []) rfl (fun H locs ls d qR qL => g_runV X cw_X6_98 iv_X6_put ⟨Nat.le_of_ble_eq_true rfl, Nat.le_of_ble_eq_true rfl⟩ dX6_fills_142 (c_X6_put l E n M o0 a3 (3 : Int32) (1 : Int32) _ hw) hk12 rfl rfl (Nat.le_of_ble_eq_true rfl) ⟨Nat.le_of_ble_eq_true rfl, Nat.le_of_ble_eq_true rfl⟩ qR qL) (fun M15 hw => ?_)
        refine g_aload_n X dX6_fills_145 0 rfl ?_
        refine g_get X (rV (gR M15 o0 0)) dX6_fills_146 fl_X6_7 (fun _ => rfl) ⟨hk12, hw⟩ (fun hw => ?_)
        refine g_topR (fun r16 hr16 => ?_)
        have hw := hw r16 hr16
        refine g_bipush X (12 : Int32) dX6_fills_149 (by decide) ?_
        refine g_bipush X (10 : Int32) dX6_fills_151 (by decide) ?_
        refine g_iload_n X dX6_fills_153 1 rfl ?_
        refine g_imul X dX6_fills_154 ?_
        refine g_iadd X dX6_fills_155 ?_
        refine g_iconst X (3 : Int32) dX6_fills_156 (by decide) ?_
        refine g_iadd X dX6_fills_157 ?_
        refine g_iload_n X dX6_fills_158 2 rfl ?_
        refine g_iconst X (1 : Int32) dX6_fills_159 (by decide) ?_
        refine g_iadd X dX6_fills_160 ?_
        refine g_iast X dX6_fills_161 hw (fun hw => ?_)
        refine g_topM (fun M17 hM17 => ?_)
        have hw := hw M17 hM17
        refine g_aload_n X dX6_fills_162 0 rfl ?_
        refine g_get X (rV (gR M17 o0 0)) dX6_fills_163 fl_X6_7 (fun _ => rfl) ⟨hk12, hw⟩ (fun hw => ?_)
        refine g_topR (fun r18 hr18 => ?_)
        have hw := hw r18 hr18
        refine g_bipush X (12 : Int32) dX6_fills_166 (by decide) ?_
        refine g_bipush X (10 : Int32) dX6_fills_168 (by decide) ?_
        refine g_iload_n X dX6_fills_170 1 rfl ?_
        refine g_imul X dX6_fills_171 ?_
        refine g_iadd X dX6_fills_172 ?_
        refine g_bipush X (8 : Int32) dX6_fills_173 (by decide) ?_
        refine g_iadd X dX6_fills_175 ?_
        refine g_iconst X (1 : Int32) dX6_fills_176 (by decide) ?_
        refine g_iast X dX6_fills_177 hw (fun hw => ?_)
        refine g_topM (fun M19 hM19 => ?_)
        have hw := hw M19 hM19
        refine g_aload_n X dX6_fills_178 0 rfl ?_
        refine g_get X (rV (gR M19 o0 3)) dX6_fills_179 fl_X6_19 (fun _ => rfl) ⟨hk12, hw⟩ (fun hw => ?_)
        refine g_topR (fun r20 hr20 => ?_)
        have hw := hw r20 hr20
        refine g_iconst X (3 : Int32) dX6_fills_182 (by decide) ?_
        refine g_bipush X (12 : Int32) dX6_fills_183 (by decide) ?_
        refine g_iload_n X dX6_fills_185 1 rfl ?_
        refine g_imul X dX6_fills_186 ?_
        refine g_iadd X dX6_fills_187 ?_
        refine g_iconst X (2 : Int32) dX6_fills_188 (by decide) ?_
        refine g_iadd X dX6_fills_189 ?_
        refine g_aload_n X dX6_fills_190 0 rfl ?_
        refine g_get X (rV (gR M19 o0 3)) dX6_fills_191 fl_X6_19 (fun _ => rfl) ⟨hk12, hw⟩ (fun hw => ?_)
        refine g_topR (fun r21 hr21 => ?_)
        have hw := hw r21 hr21
        refine g_iconst X (0 : Int32) dX6_fills_194 (by decide) ?_
        refine g_dald X dX6_fills_195 hw (fun hw => ?_)
        refine g_topD (fun z22 hz22 => ?_)
        have hw := hw z22 hz22
        refine g_dast X dX6_fills_196 hw (fun hw => ?_)
        refine g_topM (fun M23 hM23 => ?_)
        have hw := hw M23 hM23
        exact g_vret X hr hlk hSz hOld (Nat.le_refl _) dX6_fills_197 hw
      · refine g_aload_n X dX6_fills_116 0 rfl ?_
        refine g_get X (rV (gR M o0 0)) dX6_fills_117 fl_X6_7 (fun _ => rfl) ⟨hk12, hw⟩ (fun hw => ?_)
        refine g_topR (fun r24 hr24 => ?_)
        have hw := hw r24 hr24
        refine g_iload X dX6_fills_120 3 rfl ?_
        refine g_aload_n X dX6_fills_122 0 rfl ?_
        refine g_get X (rV (gR M o0 0)) dX6_fills_123 fl_X6_7 (fun _ => rfl) ⟨hk12, hw⟩ (fun hw => ?_)
        refine g_topR (fun r25 hr25 => ?_)
        have hw := hw r25 hr25
        refine g_iload X dX6_fills_126 3 rfl ?_
        refine g_iconst X (1 : Int32) dX6_fills_128 (by decide) ?_
        refine g_iadd X dX6_fills_129 ?_
        refine g_iald X dX6_fills_130 hw (fun hw => ?_)
        refine g_topI (fun x26 hx26 => ?_)
        have hw := hw x26 hx26
        refine g_iast X dX6_fills_131 hw (fun hw => ?_)
        refine g_topM (fun M27 hM27 => ?_)
        have hw := hw M27 hM27
        obtain ⟨x28, hx28⟩ : ∃ y : Int32, y = a4 + (1 : Int32) := ⟨_, rfl⟩
        have hw := hw x28 hx28
        refine g_iinc (lv' := [(4, iV x28), (0, rV o0), (1, iV a1), (3, iV a3)]) X x28 dX6_fills_132 3 rfl (by rw [hx28]; rfl) (by decide) rfl ?_
        refine g_goto X 100 dX6_fills_135 (by decide) ?_
        refine g_lvsub (lv' := [(0, rV o0), (1, iV a1), (3, iV a3), (4, iV x28)]) [1, 2, 3, 0] rfl ?_
        exact ih _ _ _ _ _ hw
  have L2 : ∀ (fuel : Nat) (M : Mem) (o0 : Nat) (a1 : Int32) (a2 : Int32), w_X6_fills_L2 n K fuel M o0 a1 a2 → G E p l e rmX6_fills s m args below meth c 5 n M 0 0 (MQD lw_cs below (PV E n K) args s rmX6_fills.cells rmX6_fills.slots (Ab E)) 2 [(0, rV o0), (1, iV a1), (2, iV a2)] [] := by
    intro fuel
    induction fuel with
    | zero => intro M o0 a1 a2 hw; exact False.elim hw
    | succ fuel ih =>
      intro M o0 a1 a2 hw
      unfold w_X6_fills_L2 at hw
      refine g_iload_n X dX6_fills_2 2 rfl ?_
      refine g_aload_n X dX6_fills_3 0 rfl ?_
      obtain ⟨hk1, hw⟩ := hw
      refine g_get X (rV (gR M o0 0)) dX6_fills_4 fl_X6_7 (fun _ => rfl) ⟨hk1, hw⟩ (fun hw => ?_)
      refine g_topR (fun r2 hr2 => ?_)
      have hw := hw r2 hr2
      refine g_bipush X (11 : Int32) dX6_fills_7 (by decide) ?_
      refine g_iald X dX6_fills_9 hw (fun hw => ?_)
      refine g_topI (fun x3 hx3 => ?_)
      have hw := hw x3 hx3
      refine g_icmp_ge X 59 dX6_fills_10 (by decide) hw (fun hw => ?_) (fun hw => ?_)
      · refine g_iload_n X dX6_fills_59 2 rfl ?_
        refine g_aload_n X dX6_fills_60 0 rfl ?_
        refine g_get X (rV (gR M o0 0)) dX6_fills_61 fl_X6_7 (fun _ => rfl) ⟨hk1, hw⟩ (fun hw => ?_)
        refine g_topR (fun r4 hr4 => ?_)
        have hw := hw r4 hr4
        refine g_bipush X (11 : Int32) dX6_fills_64 (by decide) ?_
        refine g_iald X dX6_fills_66 hw (fun hw => ?_)
        refine g_topI (fun x5 hx5 => ?_)
        have hw := hw x5 hx5
        refine g_icmp_ne X 71 dX6_fills_67 (by decide) hw (fun hw => ?_) (fun hw => ?_)
        · refine g_aload_n X dX6_fills_71 0 rfl ?_
          refine g_get X (rV (gR M o0 0)) dX6_fills_72 fl_X6_7 (fun _ => rfl) ⟨hk1, hw⟩ (fun hw => ?_)
          refine g_topR (fun r6 hr6 => ?_)
          have hw := hw r6 hr6
          refine g_sipush X (572 : Int32) dX6_fills_75 (by decide) ?_
          refine g_iload_n X dX6_fills_78 2 rfl ?_
          refine g_iadd X dX6_fills_79 ?_
          refine g_iald X dX6_fills_80 hw (fun hw => ?_)
          refine g_topI (fun x7 hx7 => ?_)
          have hw := hw x7 hx7
          refine g_istore_n (lv' := [(3, iV x7), (0, rV o0), (1, iV a1), (2, iV a2)]) X dX6_fills_81 (by decide) rfl ?_
          refine g_aload_n X dX6_fills_82 1 rfl ?_
          refine g_get X (rV (gR M o0 0)) dX6_fills_83 fl_X6_7 (fun _ => rfl) ⟨hk1, hw⟩ (fun hw => ?_)
          refine g_topR (fun r8 hr8 => ?_)
          have hw := hw r8 hr8
          refine g_bipush X (11 : Int32) dX6_fills_86 (by decide) ?_
          refine g_dup2 X dX6_fills_88 rfl rfl ?_
          refine g_iald X dX6_fills_89 hw (fun hw => ?_)
          refine g_topI (fun x9 hx9 => ?_)
          have hw := hw x9 hx9
          refine g_iconst X (1 : Int32) dX6_fills_90 (by decide) ?_
          refine g_isub X dX6_fills_91 ?_
          refine g_iast X dX6_fills_92 hw (fun hw => ?_)
          refine g_topM (fun M10 hM10 => ?_)
          have hw := hw M10 hM10
          refine g_sipush X (572 : Int32) dX6_fills_93 (by decide) ?_
          refine g_iload_n X dX6_fills_96 3 rfl ?_
          refine g_iadd X dX6_fills_97 ?_
          refine g_topI (fun x11 hx11 => ?_)
          have hw := hw x11 hx11
          refine g_istore (lv' := [(4, iV x11), (3, iV x7), (0, rV o0), (1, iV a1), (2, iV a2)]) X dX6_fills_98 (by decide) rfl ?_
          refine g_lvsub (lv' := [(0, rV o0), (1, iV a1), (3, iV x7), (4, iV x11)]) [2, 3, 1, 0] rfl ?_
          exact L100 _ _ _ _ _ _ hw
        · exact g_vret X hr hlk hSz hOld (Nat.le_refl _) dX6_fills_70 hw
      · refine g_aload_n X dX6_fills_13 0 rfl ?_
        refine g_iload_n X dX6_fills_14 1 rfl ?_
        refine g_aload_n X dX6_fills_15 0 rfl ?_
        refine g_get X (rV (gR M o0 0)) dX6_fills_16 fl_X6_7 (fun _ => rfl) ⟨hk1, hw⟩ (fun hw => ?_)
        refine g_topR (fun r29 hr29 => ?_)
        have hw := hw r29 hr29
        refine g_sipush X (572 : Int32) dX6_fills_19 (by decide) ?_
        refine g_iload_n X dX6_fills_22 2 rfl ?_
        refine g_iadd X dX6_fills_23 ?_
        refine g_iald X dX6_fills_24 hw (fun hw => ?_)
        refine g_topI (fun x30 hx30 => ?_)
        have hw := hw x30 hx30
        refine g_calli (pc' := 28) (rest := []) rfl (fun H locs ls d qR qL => g_runV X cw_X6_133 iv_X6_takes ⟨Nat.le_of_ble_eq_true rfl, Nat.le_of_ble_eq_true rfl⟩ dX6_fills_25 (c_X6_takes l E n M o0 a1 x30 _ hw) hk1 rfl rfl (Nat.le_of_ble_eq_true rfl) ⟨Nat.le_of_ble_eq_true rfl, Nat.le_of_ble_eq_true rfl⟩ qR qL) (fun x32 M31 hw => ?_)
        refine g_if_eq X 53 dX6_fills_28 (by decide) hw (fun hw => ?_) (fun hw => ?_)
        · obtain ⟨x33, hx33⟩ : ∃ y : Int32, y = a2 + (1 : Int32) := ⟨_, rfl⟩
          have hw := hw x33 hx33
          refine g_iinc (lv' := [(2, iV x33), (0, rV o0), (1, iV a1)]) X x33 dX6_fills_53 2 rfl (by rw [hx33]; rfl) (by decide) rfl ?_
          refine g_goto X 2 dX6_fills_56 (by decide) ?_
          refine g_lvsub (lv' := [(0, rV o0), (1, iV a1), (2, iV x33)]) [1, 2, 0] rfl ?_
          exact ih _ _ _ _ hw
        · refine g_aload_n X dX6_fills_31 0 rfl ?_
          refine g_aload_n X dX6_fills_32 0 rfl ?_
          refine g_get X (rV (gR M31 o0 0)) dX6_fills_33 fl_X6_7 (fun _ => rfl) ⟨hk1, hw⟩ (fun hw => ?_)
          refine g_topR (fun r34 hr34 => ?_)
          have hw := hw r34 hr34
          refine g_sipush X (572 : Int32) dX6_fills_36 (by decide) ?_
          refine g_iload_n X dX6_fills_39 2 rfl ?_
          refine g_iadd X dX6_fills_40 ?_
          refine g_iald X dX6_fills_41 hw (fun hw => ?_)
          refine g_topI (fun x35 hx35 => ?_)
          have hw := hw x35 hx35
          refine g_bipush X (6 : Int32) dX6_fills_42 (by decide) ?_
          refine g_calli (pc' := 47) (rest := []) rfl (fun H locs ls d qR qL => g_runV X cw_X6_108 iv_X6_ofPart ⟨Nat.le_of_ble_eq_true rfl, Nat.le_of_ble_eq_true rfl⟩ dX6_fills_44 (c_X6_ofPart l E n M31 o0 x35 (6 : Int32) _ hw) hk1 rfl rfl (Nat.le_of_ble_eq_true rfl) ⟨Nat.le_of_ble_eq_true rfl, Nat.le_of_ble_eq_true rfl⟩ qR qL) (fun x37 M36 hw => ?_)
          refine g_iload_n X dX6_fills_47 1 rfl ?_
          refine g_iconst X (1 : Int32) dX6_fills_48 (by decide) ?_
          refine g_iadd X dX6_fills_49 ?_
          refine g_icmp_ne X 59 dX6_fills_50 (by decide) hw (fun hw => ?_) (fun hw => ?_)
          · refine g_iload_n X dX6_fills_59 2 rfl ?_
            refine g_aload_n X dX6_fills_60 0 rfl ?_
            refine g_get X (rV (gR M36 o0 0)) dX6_fills_61 fl_X6_7 (fun _ => rfl) ⟨hk1, hw⟩ (fun hw => ?_)
            refine g_topR (fun r38 hr38 => ?_)
            have hw := hw r38 hr38
            refine g_bipush X (11 : Int32) dX6_fills_64 (by decide) ?_
            refine g_iald X dX6_fills_66 hw (fun hw => ?_)
            refine g_topI (fun x39 hx39 => ?_)
            have hw := hw x39 hx39
            refine g_icmp_ne X 71 dX6_fills_67 (by decide) hw (fun hw => ?_) (fun hw => ?_)
            · refine g_aload_n X dX6_fills_71 0 rfl ?_
              refine g_get X (rV (gR M36 o0 0)) dX6_fills_72 fl_X6_7 (fun _ => rfl) ⟨hk1, hw⟩ (fun hw => ?_)
              refine g_topR (fun r40 hr40 => ?_)
              have hw := hw r40 hr40
              refine g_sipush X (572 : Int32) dX6_fills_75 (by decide) ?_
              refine g_iload_n X dX6_fills_78 2 rfl ?_
              refine g_iadd X dX6_fills_79 ?_
              refine g_iald X dX6_fills_80 hw (fun hw => ?_)
              refine g_topI (fun x41 hx41 => ?_)
              have hw := hw x41 hx41
              refine g_istore_n (lv' := [(3, iV x41), (0, rV o0), (1, iV a1), (2, iV a2)]) X dX6_fills_81 (by decide) rfl ?_
              refine g_aload_n X dX6_fills_82 1 rfl ?_
              refine g_get X (rV (gR M36 o0 0)) dX6_fills_83 fl_X6_7 (fun _ => rfl) ⟨hk1, hw⟩ (fun hw => ?_)
              refine g_topR (fun r42 hr42 => ?_)
              have hw := hw r42 hr42
              refine g_bipush X (11 : Int32) dX6_fills_86 (by decide) ?_
              refine g_dup2 X dX6_fills_88 rfl rfl ?_
              refine g_iald X dX6_fills_89 hw (fun hw => ?_)
              refine g_topI (fun x43 hx43 => ?_)
              have hw := hw x43 hx43
              refine g_iconst X (1 : Int32) dX6_fills_90 (by decide) ?_
              refine g_isub X dX6_fills_91 ?_
              refine g_iast X dX6_fills_92 hw (fun hw => ?_)
              refine g_topM (fun M44 hM44 => ?_)
              have hw := hw M44 hM44
              refine g_sipush X (572 : Int32) dX6_fills_93 (by decide) ?_
              refine g_iload_n X dX6_fills_96 3 rfl ?_
              refine g_iadd X dX6_fills_97 ?_
              refine g_topI (fun x45 hx45 => ?_)
              have hw := hw x45 hx45
              refine g_istore (lv' := [(4, iV x45), (3, iV x41), (0, rV o0), (1, iV a1), (2, iV a2)]) X dX6_fills_98 (by decide) rfl ?_
              refine g_lvsub (lv' := [(0, rV o0), (1, iV a1), (3, iV x41), (4, iV x45)]) [2, 3, 1, 0] rfl ?_
              exact L100 _ _ _ _ _ _ hw
            · exact g_vret X hr hlk hSz hOld (Nat.le_refl _) dX6_fills_70 hw
          · obtain ⟨x46, hx46⟩ : ∃ y : Int32, y = a2 + (1 : Int32) := ⟨_, rfl⟩
            have hw := hw x46 hx46
            refine g_iinc (lv' := [(2, iV x46), (0, rV o0), (1, iV a1)]) X x46 dX6_fills_53 2 rfl (by rw [hx46]; rfl) (by decide) rfl ?_
            refine g_goto X 2 dX6_fills_56 (by decide) ?_
            refine g_lvsub (lv' := [(0, rV o0), (1, iV a1), (2, iV x46)]) [1, 2, 0] rfl ?_
            exact ih _ _ _ _ hw
  unfold w_X6_fills at hw
  refine g_iconst X (0 : Int32) dX6_fills_0 (by decide) ?_
  refine g_istore_n (lv' := [(2, iV (0 : Int32)), (0, rV t), (1, iV p1)]) X dX6_fills_1 (by decide) rfl ?_
  refine g_lvsub (lv' := [(0, rV t), (1, iV p1), (2, iV (0 : Int32))]) [1, 2, 0] rfl ?_
  exact L2 _ _ _ _ _ hw
theorem dX6_step_0 : decode cX6_step 0 = .ok (.aload_n 0, 1) := by decide +kernel
theorem dX6_step_1 : decode cX6_step 1 = .ok (.getfield 7, 3) := by decide +kernel
theorem dX6_step_4 : decode cX6_step 4 = .ok (.iconst 1, 1) := by decide +kernel
theorem dX6_step_5 : decode cX6_step 5 = .ok (.iaload, 1) := by decide +kernel
theorem dX6_step_6 : decode cX6_step 6 = .ok (.aload_n 0, 1) := by decide +kernel
theorem dX6_step_7 : decode cX6_step 7 = .ok (.getfield 7, 3) := by decide +kernel
theorem dX6_step_10 : decode cX6_step 10 = .ok (.iconst 0, 1) := by decide +kernel
theorem dX6_step_11 : decode cX6_step 11 = .ok (.iaload, 1) := by decide +kernel
theorem dX6_step_12 : decode cX6_step 12 = .ok (.irem, 1) := by decide +kernel
theorem dX6_step_13 : decode cX6_step 13 = .ok (.istore_n 1, 1) := by decide +kernel
theorem dX6_step_14 : decode cX6_step 14 = .ok (.aload_n 0, 1) := by decide +kernel
theorem dX6_step_15 : decode cX6_step 15 = .ok (.iload_n 1, 1) := by decide +kernel
theorem dX6_step_16 : decode cX6_step 16 = .ok (.invokevirtual 82, 3) := by decide +kernel
theorem dX6_step_19 : decode cX6_step 19 = .ok (.ifCond .lt 7, 3) := by decide +kernel
theorem dX6_step_22 : decode cX6_step 22 = .ok (.iconst 1, 1) := by decide +kernel
theorem dX6_step_23 : decode cX6_step 23 = .ok (.goto 4, 3) := by decide +kernel
theorem dX6_step_26 : decode cX6_step 26 = .ok (.iconst 0, 1) := by decide +kernel
theorem dX6_step_27 : decode cX6_step 27 = .ok (.istore_n 2, 1) := by decide +kernel
theorem dX6_step_28 : decode cX6_step 28 = .ok (.iload_n 2, 1) := by decide +kernel
theorem dX6_step_29 : decode cX6_step 29 = .ok (.iconst 1, 1) := by decide +kernel
theorem dX6_step_30 : decode cX6_step 30 = .ok (.if_icmp .ne 8, 3) := by decide +kernel
theorem dX6_step_33 : decode cX6_step 33 = .ok (.aload_n 0, 1) := by decide +kernel
theorem dX6_step_34 : decode cX6_step 34 = .ok (.iload_n 1, 1) := by decide +kernel
theorem dX6_step_35 : decode cX6_step 35 = .ok (.invokevirtual 137, 3) := by decide +kernel
theorem dX6_step_38 : decode cX6_step 38 = .ok (.aload_n 0, 1) := by decide +kernel
theorem dX6_step_39 : decode cX6_step 39 = .ok (.iload_n 1, 1) := by decide +kernel
theorem dX6_step_40 : decode cX6_step 40 = .ok (.invokevirtual 140, 3) := by decide +kernel
theorem dX6_step_43 : decode cX6_step 43 = .ok (.iconst 0, 1) := by decide +kernel
theorem dX6_step_44 : decode cX6_step 44 = .ok (.istore_n 3, 1) := by decide +kernel
theorem dX6_step_45 : decode cX6_step 45 = .ok (.iload_n 3, 1) := by decide +kernel
theorem dX6_step_46 : decode cX6_step 46 = .ok (.aload_n 0, 1) := by decide +kernel
theorem dX6_step_47 : decode cX6_step 47 = .ok (.getfield 7, 3) := by decide +kernel
theorem dX6_step_50 : decode cX6_step 50 = .ok (.iconst 0, 1) := by decide +kernel
theorem dX6_step_51 : decode cX6_step 51 = .ok (.iaload, 1) := by decide +kernel
theorem dX6_step_52 : decode cX6_step 52 = .ok (.if_icmp .ge 91, 3) := by decide +kernel
theorem dX6_step_55 : decode cX6_step 55 = .ok (.aload_n 0, 1) := by decide +kernel
theorem dX6_step_56 : decode cX6_step 56 = .ok (.iload_n 3, 1) := by decide +kernel
theorem dX6_step_57 : decode cX6_step 57 = .ok (.invokevirtual 82, 3) := by decide +kernel
theorem dX6_step_60 : decode cX6_step 60 = .ok (.istore 4, 2) := by decide +kernel
theorem dX6_step_62 : decode cX6_step 62 = .ok (.iload_n 3, 1) := by decide +kernel
theorem dX6_step_63 : decode cX6_step 63 = .ok (.iload_n 1, 1) := by decide +kernel
theorem dX6_step_64 : decode cX6_step 64 = .ok (.if_icmp .eq 73, 3) := by decide +kernel
theorem dX6_step_67 : decode cX6_step 67 = .ok (.iload 4, 2) := by decide +kernel
theorem dX6_step_69 : decode cX6_step 69 = .ok (.ifCond .lt 68, 3) := by decide +kernel
theorem dX6_step_72 : decode cX6_step 72 = .ok (.aload_n 0, 1) := by decide +kernel
theorem dX6_step_73 : decode cX6_step 73 = .ok (.iload_n 3, 1) := by decide +kernel
theorem dX6_step_74 : decode cX6_step 74 = .ok (.bipush 8, 2) := by decide +kernel
theorem dX6_step_76 : decode cX6_step 76 = .ok (.invokevirtual 54, 3) := by decide +kernel
theorem dX6_step_79 : decode cX6_step 79 = .ok (.istore 5, 2) := by decide +kernel
theorem dX6_step_81 : decode cX6_step 81 = .ok (.aload_n 0, 1) := by decide +kernel
theorem dX6_step_82 : decode cX6_step 82 = .ok (.getfield 19, 3) := by decide +kernel
theorem dX6_step_85 : decode cX6_step 85 = .ok (.iconst 3, 1) := by decide +kernel
theorem dX6_step_86 : decode cX6_step 86 = .ok (.bipush 12, 2) := by decide +kernel
theorem dX6_step_88 : decode cX6_step 88 = .ok (.iload_n 3, 1) := by decide +kernel
theorem dX6_step_89 : decode cX6_step 89 = .ok (.imul, 1) := by decide +kernel
theorem dX6_step_90 : decode cX6_step 90 = .ok (.iadd, 1) := by decide +kernel
theorem dX6_step_91 : decode cX6_step 91 = .ok (.iconst 2, 1) := by decide +kernel
theorem dX6_step_92 : decode cX6_step 92 = .ok (.iadd, 1) := by decide +kernel
theorem dX6_step_93 : decode cX6_step 93 = .ok (.iload 5, 2) := by decide +kernel
theorem dX6_step_95 : decode cX6_step 95 = .ok (.iadd, 1) := by decide +kernel
theorem dX6_step_96 : decode cX6_step 96 = .ok (.aload_n 0, 1) := by decide +kernel
theorem dX6_step_97 : decode cX6_step 97 = .ok (.aload_n 0, 1) := by decide +kernel
theorem dX6_step_98 : decode cX6_step 98 = .ok (.iload_n 3, 1) := by decide +kernel
theorem dX6_step_99 : decode cX6_step 99 = .ok (.iload 5, 2) := by decide +kernel
theorem dX6_step_101 : decode cX6_step 101 = .ok (.iconst 1, 1) := by decide +kernel
theorem dX6_step_102 : decode cX6_step 102 = .ok (.isub, 1) := by decide +kernel
theorem dX6_step_103 : decode cX6_step 103 = .ok (.invokevirtual 58, 3) := by decide +kernel
theorem dX6_step_106 : decode cX6_step 106 = .ok (.aload_n 0, 1) := by decide +kernel
theorem dX6_step_107 : decode cX6_step 107 = .ok (.iload 4, 2) := by decide +kernel
theorem dX6_step_109 : decode cX6_step 109 = .ok (.iconst 1, 1) := by decide +kernel
theorem dX6_step_110 : decode cX6_step 110 = .ok (.invokevirtual 108, 3) := by decide +kernel
theorem dX6_step_113 : decode cX6_step 113 = .ok (.ldc2_w 73, 3) := by decide +kernel
theorem dX6_step_116 : decode cX6_step 116 = .ok (.aload_n 0, 1) := by decide +kernel
theorem dX6_step_117 : decode cX6_step 117 = .ok (.iload 4, 2) := by decide +kernel
theorem dX6_step_119 : decode cX6_step 119 = .ok (.iconst 2, 1) := by decide +kernel
theorem dX6_step_120 : decode cX6_step 120 = .ok (.invokevirtual 108, 3) := by decide +kernel
theorem dX6_step_123 : decode cX6_step 123 = .ok (.i2d, 1) := by decide +kernel
theorem dX6_step_124 : decode cX6_step 124 = .ok (.dmul, 1) := by decide +kernel
theorem dX6_step_125 : decode cX6_step 125 = .ok (.iconst 1, 1) := by decide +kernel
theorem dX6_step_126 : decode cX6_step 126 = .ok (.invokevirtual 88, 3) := by decide +kernel
theorem dX6_step_129 : decode cX6_step 129 = .ok (.dastore, 1) := by decide +kernel
theorem dX6_step_130 : decode cX6_step 130 = .ok (.aload_n 0, 1) := by decide +kernel
theorem dX6_step_131 : decode cX6_step 131 = .ok (.iload_n 3, 1) := by decide +kernel
theorem dX6_step_132 : decode cX6_step 132 = .ok (.bipush 8, 2) := by decide +kernel
theorem dX6_step_134 : decode cX6_step 134 = .ok (.invokevirtual 119, 3) := by decide +kernel
theorem dX6_step_137 : decode cX6_step 137 = .ok (.iinc 3 1, 3) := by decide +kernel
theorem dX6_step_140 : decode cX6_step 140 = .ok (.goto (-95), 3) := by decide +kernel
theorem dX6_step_143 : decode cX6_step 143 = .ok (.aload_n 0, 1) := by decide +kernel
theorem dX6_step_144 : decode cX6_step 144 = .ok (.getfield 7, 3) := by decide +kernel
theorem dX6_step_147 : decode cX6_step 147 = .ok (.iconst 1, 1) := by decide +kernel
theorem dX6_step_148 : decode cX6_step 148 = .ok (.dup2, 1) := by decide +kernel
theorem dX6_step_149 : decode cX6_step 149 = .ok (.iaload, 1) := by decide +kernel
theorem dX6_step_150 : decode cX6_step 150 = .ok (.iconst 1, 1) := by decide +kernel
theorem dX6_step_151 : decode cX6_step 151 = .ok (.iadd, 1) := by decide +kernel
theorem dX6_step_152 : decode cX6_step 152 = .ok (.iastore, 1) := by decide +kernel
theorem dX6_step_153 : decode cX6_step 153 = .ok (.iload_n 2, 1) := by decide +kernel
theorem dX6_step_154 : decode cX6_step 154 = .ok (.ireturn, 1) := by decide +kernel
abbrev rmX6_step : Room := { frames := 4, cells := 0, slots := 0, locals := 95 }
def w_X6_step_L45 (n : Nat) (K : Int32 → Mem → Prop) : Nat → Mem → Nat → Int32 → Int32 → Int32 → Prop
  | 0, _, _, _, _, _ => False
  | fuel + 1, M, o0, a1, a2, a3 => ((o0 ≤ n ∧ kd o0 = (6, 0)) ∧ (∀ r11, r11 = gR M o0 0 → ((r11 ≤ n ∧ (kd r11).1 = 7 ∧ vp_in (0 : Int32) (kd r11).2) ∧ (∀ x12, x12 = gI M r11 (Int32.toNatClampNeg (0 : Int32)) → ((x12 ≤ a3 → (∀ r13, r13 = gR M o0 0 → ((r13 ≤ n ∧ (kd r13).1 = 7 ∧ vp_in (1 : Int32) (kd r13).2) ∧ (∀ x14, x14 = gI M r13 (Int32.toNatClampNeg (1 : Int32)) → ((r13 ≤ n ∧ (kd r13).1 = 7 ∧ vp_in (1 : Int32) (kd r13).2) ∧ (∀ M15, M15 = sI M r13 (Int32.toNatClampNeg (1 : Int32)) (x14 + (1 : Int32)) → K a2 M15)))))) ∧ (¬ x12 ≤ a3 → w_X6_partOn n M o0 a3 (fun x17 M16 => ((a3 = a1 → (∀ x18, x18 = a3 + (1 : Int32) → w_X6_step_L45 n K fuel M16 o0 a1 a2 x18)) ∧ (¬ a3 = a1 → ((x17 < 0 → (∀ x19, x19 = a3 + (1 : Int32) → w_X6_step_L45 n K fuel M16 o0 a1 a2 x19)) ∧ (¬ x17 < 0 → w_X6_ofHead n M16 o0 a3 (8 : Int32) (fun x21 M20 => (∀ r22, r22 = gR M20 o0 3 → w_X6_traced n M20 o0 a3 (x21 - (1 : Int32)) (fun z24 M23 => w_X6_ofPart n M23 o0 x17 (1 : Int32) (fun x26 M25 => w_X6_ofPart n M25 o0 x17 (2 : Int32) (fun x28 M27 => (vf_n64 (FP.dmul (4652007308841189376 : UInt64) (FP.i2d x28)) ∧ (∀ z29, z29 = FP.dmul (4652007308841189376 : UInt64) (FP.i2d x28) → w_X6_decayed n M27 o0 z24 x26 z29 (1 : Int32) (fun z31 M30 => ((r22 ≤ n ∧ (kd r22).1 = 8 ∧ vp_in ((((3 : Int32) + ((12 : Int32) * a3)) + (2 : Int32)) + x21) (kd r22).2) ∧ (∀ M32, M32 = sD M30 r22 (Int32.toNatClampNeg ((((3 : Int32) + ((12 : Int32) * a3)) + (2 : Int32)) + x21)) z31 → w_X6_more n M32 o0 a3 (8 : Int32) (fun M33 => (∀ x34, x34 = a3 + (1 : Int32) → w_X6_step_L45 n K fuel M33 o0 a1 a2 x34)))))))))))))))))))))))
def w_X6_step (n : Nat) (M : Mem) (t : Nat) (K : Int32 → Mem → Prop) : Prop := ((t ≤ n ∧ kd t = (6, 0)) ∧ (∀ r2, r2 = gR M t 0 → ((r2 ≤ n ∧ (kd r2).1 = 7 ∧ vp_in (1 : Int32) (kd r2).2) ∧ (∀ x3, x3 = gI M r2 (Int32.toNatClampNeg (1 : Int32)) → (∀ r4, r4 = gR M t 0 → ((r4 ≤ n ∧ (kd r4).1 = 7 ∧ vp_in (0 : Int32) (kd r4).2) ∧ (∀ x5, x5 = gI M r4 (Int32.toNatClampNeg (0 : Int32)) → (¬ x5 = 0 ∧ (∀ x6, x6 = x3 - x3 / x5 * x5 → w_X6_partOn n M t x6 (fun x8 M7 => ((x8 < 0 → w_X6_fills n M7 t x6 (fun M9 => w_X6_step_L45 n K 4000 M9 t x6 (0 : Int32) (0 : Int32))) ∧ (¬ x8 < 0 → w_X6_ends n M7 t x6 (fun M35 => w_X6_fills n M35 t x6 (fun M36 => w_X6_step_L45 n K 4000 M36 t x6 (1 : Int32) (0 : Int32)))))))))))))))
set_option maxHeartbeats 4000000 in
set_option maxRecDepth 20000 in
theorem c_X6_step (l : Launch) (E : Gl) (n : Nat) (M : Mem) (t : Nat) (K : Int32 → Mem → Prop) (hw : w_X6_step n M t K) : CT E l yX6_step cX6_step 6 (some .int) rmX6_step n M [rV t] (PI E n K) := by
  refine g_met l (by decide) (Nat.le_of_ble_eq_true rfl) ?_
  intro p e s m args below meth c X hr hlk hnm hSz hOld
  change CX E p s m c _ _ RX6 at X
  have L45 : ∀ (fuel : Nat) (M : Mem) (o0 : Nat) (a1 : Int32) (a2 : Int32) (a3 : Int32), w_X6_step_L45 n K fuel M o0 a1 a2 a3 → G E p l e rmX6_step s m args below meth c 6 n M 0 0 (MQD lw_cs below (PI E n K) args s rmX6_step.cells rmX6_step.slots (Ab E)) 45 [(0, rV o0), (1, iV a1), (2, iV a2), (3, iV a3)] [] := by
    intro fuel
    induction fuel with
    | zero => intro M o0 a1 a2 a3 hw; exact False.elim hw
    | succ fuel ih =>
      intro M o0 a1 a2 a3 hw
      unfold w_X6_step_L45 at hw
      refine g_iload_n X dX6_step_45 3 rfl ?_
      refine g_aload_n X dX6_step_46 0 rfl ?_
      obtain ⟨hk10, hw⟩ := hw
      refine g_get X (rV (gR M o0 0)) dX6_step_47 fl_X6_7 (fun _ => rfl) ⟨hk10, hw⟩ (fun hw => ?_)
      refine g_topR (fun r11 hr11 => ?_)
      have hw := hw r11 hr11
      refine g_iconst X (0 : Int32) dX6_step_50 (by decide) ?_
      refine g_iald X dX6_step_51 hw (fun hw => ?_)
      refine g_topI (fun x12 hx12 => ?_)
      have hw := hw x12 hx12
      refine g_icmp_ge X 143 dX6_step_52 (by decide) hw (fun hw => ?_) (fun hw => ?_)
      · refine g_aload_n X dX6_step_143 0 rfl ?_
        refine g_get X (rV (gR M o0 0)) dX6_step_144 fl_X6_7 (fun _ => rfl) ⟨hk10, hw⟩ (fun hw => ?_)
        refine g_topR (fun r13 hr13 => ?_)
        have hw := hw r13 hr13
        refine g_iconst X (1 : Int32) dX6_step_147 (by decide) ?_
        refine g_dup2 X dX6_step_148 rfl rfl ?_
        refine g_iald X dX6_step_149 hw (fun hw => ?_)
        refine g_topI (fun x14 hx14 => ?_)
        have hw := hw x14 hx14
        refine g_iconst X (1 : Int32) dX6_step_150 (by decide) ?_
        refine g_iadd X dX6_step_151 ?_
        refine g_iast X dX6_step_152 hw (fun hw => ?_)
        refine g_topM (fun M15 hM15 => ?_)
        have hw := hw M15 hM15
        refine g_iload_n X dX6_step_153 2 rfl ?_
        exact g_iret X hr hlk hSz hOld (Nat.le_refl _) dX6_step_154 hw
      · refine g_aload_n X dX6_step_55 0 rfl ?_
        refine g_iload_n X dX6_step_56 3 rfl ?_
        refine g_calli (pc' := 60) (rest := []) rfl (fun H locs ls d qR qL => g_runV X cw_X6_82 iv_X6_partOn ⟨Nat.le_of_ble_eq_true rfl, Nat.le_of_ble_eq_true rfl⟩ dX6_step_57 (c_X6_partOn l E n M o0 a3 _ hw) hk10 rfl rfl (Nat.le_of_ble_eq_true rfl) ⟨Nat.le_of_ble_eq_true rfl, Nat.le_of_ble_eq_true rfl⟩ qR qL) (fun x17 M16 hw => ?_)
        refine g_istore (lv' := [(4, iV x17), (0, rV o0), (1, iV a1), (2, iV a2), (3, iV a3)]) X dX6_step_60 (by decide) rfl ?_
        refine g_iload_n X dX6_step_62 4 rfl ?_
        refine g_iload_n X dX6_step_63 2 rfl ?_
        refine g_icmp_eq X 137 dX6_step_64 (by decide) hw (fun hw => ?_) (fun hw => ?_)
        · obtain ⟨x18, hx18⟩ : ∃ y : Int32, y = a3 + (1 : Int32) := ⟨_, rfl⟩
          have hw := hw x18 hx18
          refine g_iinc (lv' := [(3, iV x18), (4, iV x17), (0, rV o0), (1, iV a1), (2, iV a2)]) X x18 dX6_step_137 4 rfl (by rw [hx18]; rfl) (by decide) rfl ?_
          refine g_goto X 45 dX6_step_140 (by decide) ?_
          refine g_lvsub (lv' := [(0, rV o0), (1, iV a1), (2, iV a2), (3, iV x18)]) [2, 3, 4, 0] rfl ?_
          exact ih _ _ _ _ _ hw
        · refine g_iload X dX6_step_67 0 rfl ?_
          refine g_if_lt X 137 dX6_step_69 (by decide) hw (fun hw => ?_) (fun hw => ?_)
          · obtain ⟨x19, hx19⟩ : ∃ y : Int32, y = a3 + (1 : Int32) := ⟨_, rfl⟩
            have hw := hw x19 hx19
            refine g_iinc (lv' := [(3, iV x19), (4, iV x17), (0, rV o0), (1, iV a1), (2, iV a2)]) X x19 dX6_step_137 4 rfl (by rw [hx19]; rfl) (by decide) rfl ?_
            refine g_goto X 45 dX6_step_140 (by decide) ?_
            refine g_lvsub (lv' := [(0, rV o0), (1, iV a1), (2, iV a2), (3, iV x19)]) [2, 3, 4, 0] rfl ?_
            exact ih _ _ _ _ _ hw
          · refine g_aload_n X dX6_step_72 1 rfl ?_
            refine g_iload_n X dX6_step_73 4 rfl ?_
            refine g_bipush X (8 : Int32) dX6_step_74 (by decide) ?_
            refine g_calli (pc' := 79) (rest := []) rfl (fun H locs ls d qR qL => g_runV X cw_X6_54 iv_X6_ofHead ⟨Nat.le_of_ble_eq_true rfl, Nat.le_of_ble_eq_true rfl⟩ dX6_step_76 (c_X6_ofHead l E n M16 o0 a3 (8 : Int32) _ hw) hk10 rfl rfl (Nat.le_of_ble_eq_true rfl) ⟨Nat.le_of_ble_eq_true rfl, Nat.le_of_ble_eq_true rfl⟩ qR qL) (fun x21 M20 hw => ?_)
            refine g_istore (lv' := [(5, iV x21), (4, iV x17), (0, rV o0), (1, iV a1), (2, iV a2), (3, iV a3)]) X dX6_step_79 (by decide) rfl ?_
            refine g_aload_n X dX6_step_81 2 rfl ?_
            refine g_get X (rV (gR M20 o0 3)) dX6_step_82 fl_X6_19 (fun _ => rfl) ⟨hk10, hw⟩ (fun hw => ?_)
            refine g_topR (fun r22 hr22 => ?_)
            have hw := hw r22 hr22
            refine g_iconst X (3 : Int32) dX6_step_85 (by decide) ?_
            refine g_bipush X (12 : Int32) dX6_step_86 (by decide) ?_
            refine g_iload_n X dX6_step_88 5 rfl ?_
            refine g_imul X dX6_step_89 ?_
            refine g_iadd X dX6_step_90 ?_
            refine g_iconst X (2 : Int32) dX6_step_91 (by decide) ?_
            refine g_iadd X dX6_step_92 ?_
            refine g_iload X dX6_step_93 0 rfl ?_
            refine g_iadd X dX6_step_95 ?_
            refine g_aload_n X dX6_step_96 2 rfl ?_
            refine g_aload_n X dX6_step_97 2 rfl ?_
            refine g_iload_n X dX6_step_98 5 rfl ?_
            refine g_iload X dX6_step_99 0 rfl ?_
            refine g_iconst X (1 : Int32) dX6_step_101 (by decide) ?_
            refine g_isub X dX6_step_102 ?_
            refine g_calld (pc' := 106) (rest := [rV o0, iV ((((3 : Int32) + ((12 : Int32) * a3)) + (2 : Int32)) + x21), rV r22]) rfl (fun H locs ls d qR qL => g_runV X cw_X6_58 iv_X6_traced ⟨Nat.le_of_ble_eq_true rfl, Nat.le_of_ble_eq_true rfl⟩ dX6_step_103 (c_X6_traced l E n M20 o0 a3 (x21 - (1 : Int32)) _ hw) hk10 rfl rfl (Nat.le_of_ble_eq_true rfl) ⟨Nat.le_of_ble_eq_true rfl, Nat.le_of_ble_eq_true rfl⟩ qR qL) (fun z24 M23 hw => ?_)
            refine g_aload_n X dX6_step_106 2 rfl ?_
            refine g_iload X dX6_step_107 1 rfl ?_
            refine g_iconst X (1 : Int32) dX6_step_109 (by decide) ?_
            refine g_calli (pc' := 113) (rest := [dV z24, rV o0, iV ((((3 : Int32) + ((12 : Int32) * a3)) + (2 : Int32)) + x21), rV r22]) rfl (fun H locs ls d qR qL => g_runV X cw_X6_108 iv_X6_ofPart ⟨Nat.le_of_ble_eq_true rfl, Nat.le_of_ble_eq_true rfl⟩ dX6_step_110 (c_X6_ofPart l E n M23 o0 x17 (1 : Int32) _ hw) hk10 rfl rfl (Nat.le_of_ble_eq_true rfl) ⟨Nat.le_of_ble_eq_true rfl, Nat.le_of_ble_eq_true rfl⟩ qR qL) (fun x26 M25 hw => ?_)
            refine g_ldcD X (4652007308841189376 : UInt64) dX6_step_113 wk_X6_73 ?_
            refine g_aload_n X dX6_step_116 2 rfl ?_
            refine g_iload X dX6_step_117 1 rfl ?_
            refine g_iconst X (2 : Int32) dX6_step_119 (by decide) ?_
            refine g_calli (pc' := 123) (rest := [dV (4652007308841189376 : UInt64), iV x26, dV z24, rV o0, iV ((((3 : Int32) + ((12 : Int32) * a3)) + (2 : Int32)) + x21), rV r22]) rfl (fun H locs ls d qR qL => g_runV X cw_X6_108 iv_X6_ofPart ⟨Nat.le_of_ble_eq_true rfl, Nat.le_of_ble_eq_true rfl⟩ dX6_step_120 (c_X6_ofPart l E n M25 o0 x17 (2 : Int32) _ hw) hk10 rfl rfl (Nat.le_of_ble_eq_true rfl) ⟨Nat.le_of_ble_eq_true rfl, Nat.le_of_ble_eq_true rfl⟩ qR qL) (fun x28 M27 hw => ?_)
            refine g_i2d X dX6_step_123 ?_
            refine g_dmul X dX6_step_124 hw (fun hw => ?_)
            refine g_topD (fun z29 hz29 => ?_)
            have hw := hw z29 hz29
            refine g_iconst X (1 : Int32) dX6_step_125 (by decide) ?_
            refine g_calld (pc' := 129) (rest := [iV ((((3 : Int32) + ((12 : Int32) * a3)) + (2 : Int32)) + x21), rV r22]) rfl (fun H locs ls d qR qL => g_runV X cw_X6_88 iv_X6_decayed ⟨Nat.le_of_ble_eq_true rfl, Nat.le_of_ble_eq_true rfl⟩ dX6_step_126 (c_X6_decayed l E n M27 o0 z24 x26 z29 (1 : Int32) _ hw) hk10 rfl rfl (Nat.le_of_ble_eq_true rfl) ⟨Nat.le_of_ble_eq_true rfl, Nat.le_of_ble_eq_true rfl⟩ qR qL) (fun z31 M30 hw => ?_)
            refine g_dast X dX6_step_129 hw (fun hw => ?_)
            refine g_topM (fun M32 hM32 => ?_)
            have hw := hw M32 hM32
            refine g_aload_n X dX6_step_130 2 rfl ?_
            refine g_iload_n X dX6_step_131 5 rfl ?_
            refine g_bipush X (8 : Int32) dX6_step_132 (by decide) ?_
            refine g_callv (pc' := 137) (rest := []) rfl (fun H locs ls d qR qL => g_runV X cw_X6_119 iv_X6_more ⟨Nat.le_of_ble_eq_true rfl, Nat.le_of_ble_eq_true rfl⟩ dX6_step_134 (c_X6_more l E n M32 o0 a3 (8 : Int32) _ hw) hk10 rfl rfl (Nat.le_of_ble_eq_true rfl) ⟨Nat.le_of_ble_eq_true rfl, Nat.le_of_ble_eq_true rfl⟩ qR qL) (fun M33 hw => ?_)
            obtain ⟨x34, hx34⟩ : ∃ y : Int32, y = a3 + (1 : Int32) := ⟨_, rfl⟩
            have hw := hw x34 hx34
            refine g_iinc (lv' := [(3, iV x34), (5, iV x21), (4, iV x17), (0, rV o0), (1, iV a1), (2, iV a2)]) X x34 dX6_step_137 5 rfl (by rw [hx34]; rfl) (by decide) rfl ?_
            refine g_goto X 45 dX6_step_140 (by decide) ?_
            refine g_lvsub (lv' := [(0, rV o0), (1, iV a1), (2, iV a2), (3, iV x34)]) [3, 4, 5, 0] rfl ?_
            exact ih _ _ _ _ _ hw
  unfold w_X6_step at hw
  refine g_aload_n X dX6_step_0 0 rfl ?_
  obtain ⟨hk1, hw⟩ := hw
  refine g_get X (rV (gR M t 0)) dX6_step_1 fl_X6_7 (fun _ => rfl) ⟨hk1, hw⟩ (fun hw => ?_)
  refine g_topR (fun r2 hr2 => ?_)
  have hw := hw r2 hr2
  refine g_iconst X (1 : Int32) dX6_step_4 (by decide) ?_
  refine g_iald X dX6_step_5 hw (fun hw => ?_)
  refine g_topI (fun x3 hx3 => ?_)
  have hw := hw x3 hx3
  refine g_aload_n X dX6_step_6 0 rfl ?_
  refine g_get X (rV (gR M t 0)) dX6_step_7 fl_X6_7 (fun _ => rfl) ⟨hk1, hw⟩ (fun hw => ?_)
  refine g_topR (fun r4 hr4 => ?_)
  have hw := hw r4 hr4
  refine g_iconst X (0 : Int32) dX6_step_10 (by decide) ?_
  refine g_iald X dX6_step_11 hw (fun hw => ?_)
  refine g_topI (fun x5 hx5 => ?_)
  have hw := hw x5 hx5
  refine g_irem X dX6_step_12 hw (fun hw => ?_)
  refine g_topI (fun x6 hx6 => ?_)
  have hw := hw x6 hx6
  refine g_istore_n (lv' := [(1, iV x6), (0, rV t)]) X dX6_step_13 (by decide) rfl ?_
  refine g_aload_n X dX6_step_14 1 rfl ?_
  refine g_iload_n X dX6_step_15 0 rfl ?_
  refine g_calli (pc' := 19) (rest := []) rfl (fun H locs ls d qR qL => g_runV X cw_X6_82 iv_X6_partOn ⟨Nat.le_of_ble_eq_true rfl, Nat.le_of_ble_eq_true rfl⟩ dX6_step_16 (c_X6_partOn l E n M t x6 _ hw) hk1 rfl rfl (Nat.le_of_ble_eq_true rfl) ⟨Nat.le_of_ble_eq_true rfl, Nat.le_of_ble_eq_true rfl⟩ qR qL) (fun x8 M7 hw => ?_)
  refine g_if_lt X 26 dX6_step_19 (by decide) hw (fun hw => ?_) (fun hw => ?_)
  · refine g_iconst X (0 : Int32) dX6_step_26 (by decide) ?_
    refine g_istore_n (lv' := [(2, iV (0 : Int32)), (1, iV x6), (0, rV t)]) X dX6_step_27 (by decide) rfl ?_
    refine g_iload_n X dX6_step_28 0 rfl ?_
    refine g_iconst X (1 : Int32) dX6_step_29 (by decide) ?_
    refine g_icmp_ne (B := False) X 38 dX6_step_30 (by decide) ⟨fun _ => hw, fun h => absurd h (by decide)⟩ (fun hw => ?_) (fun h => h.elim)
    refine g_aload_n X dX6_step_38 2 rfl ?_
    refine g_iload_n X dX6_step_39 1 rfl ?_
    refine g_callv (pc' := 43) (rest := []) rfl (fun H locs ls d qR qL => g_runV X cw_X6_140 iv_X6_fills ⟨Nat.le_of_ble_eq_true rfl, Nat.le_of_ble_eq_true rfl⟩ dX6_step_40 (c_X6_fills l E n M7 t x6 _ hw) hk1 rfl rfl (Nat.le_of_ble_eq_true rfl) ⟨Nat.le_of_ble_eq_true rfl, Nat.le_of_ble_eq_true rfl⟩ qR qL) (fun M9 hw => ?_)
    refine g_iconst X (0 : Int32) dX6_step_43 (by decide) ?_
    refine g_istore_n (lv' := [(3, iV (0 : Int32)), (2, iV (0 : Int32)), (1, iV x6), (0, rV t)]) X dX6_step_44 (by decide) rfl ?_
    refine g_lvsub (lv' := [(0, rV t), (1, iV x6), (2, iV (0 : Int32)), (3, iV (0 : Int32))]) [3, 2, 1, 0] rfl ?_
    exact L45 _ _ _ _ _ _ hw
  · refine g_iconst X (1 : Int32) dX6_step_22 (by decide) ?_
    refine g_goto X 27 dX6_step_23 (by decide) ?_
    refine g_istore_n (lv' := [(2, iV (1 : Int32)), (1, iV x6), (0, rV t)]) X dX6_step_27 (by decide) rfl ?_
    refine g_iload_n X dX6_step_28 0 rfl ?_
    refine g_iconst X (1 : Int32) dX6_step_29 (by decide) ?_
    refine g_icmp_ne (A := False) X 38 dX6_step_30 (by decide) ⟨fun h => absurd h (by decide), fun _ => hw⟩ (fun h => h.elim) (fun hw => ?_)
    refine g_aload_n X dX6_step_33 2 rfl ?_
    refine g_iload_n X dX6_step_34 1 rfl ?_
    refine g_callv (pc' := 38) (rest := []) rfl (fun H locs ls d qR qL => g_runV X cw_X6_137 iv_X6_ends ⟨Nat.le_of_ble_eq_true rfl, Nat.le_of_ble_eq_true rfl⟩ dX6_step_35 (c_X6_ends l E n M7 t x6 _ hw) hk1 rfl rfl (Nat.le_of_ble_eq_true rfl) ⟨Nat.le_of_ble_eq_true rfl, Nat.le_of_ble_eq_true rfl⟩ qR qL) (fun M35 hw => ?_)
    refine g_aload_n X dX6_step_38 2 rfl ?_
    refine g_iload_n X dX6_step_39 1 rfl ?_
    refine g_callv (pc' := 43) (rest := []) rfl (fun H locs ls d qR qL => g_runV X cw_X6_140 iv_X6_fills ⟨Nat.le_of_ble_eq_true rfl, Nat.le_of_ble_eq_true rfl⟩ dX6_step_40 (c_X6_fills l E n M35 t x6 _ hw) hk1 rfl rfl (Nat.le_of_ble_eq_true rfl) ⟨Nat.le_of_ble_eq_true rfl, Nat.le_of_ble_eq_true rfl⟩ qR qL) (fun M36 hw => ?_)
    refine g_iconst X (0 : Int32) dX6_step_43 (by decide) ?_
    refine g_istore_n (lv' := [(3, iV (0 : Int32)), (2, iV (1 : Int32)), (1, iV x6), (0, rV t)]) X dX6_step_44 (by decide) rfl ?_
    refine g_lvsub (lv' := [(0, rV t), (1, iV x6), (2, iV (1 : Int32)), (3, iV (0 : Int32))]) [3, 2, 1, 0] rfl ?_
    exact L45 _ _ _ _ _ _ hw
theorem dX6_goes_0 : decode cX6_goes 0 = .ok (.iconst 0, 1) := by decide +kernel
theorem dX6_goes_1 : decode cX6_goes 1 = .ok (.istore_n 2, 1) := by decide +kernel
theorem dX6_goes_2 : decode cX6_goes 2 = .ok (.iconst 0, 1) := by decide +kernel
theorem dX6_goes_3 : decode cX6_goes 3 = .ok (.istore_n 3, 1) := by decide +kernel
theorem dX6_goes_4 : decode cX6_goes 4 = .ok (.iload_n 3, 1) := by decide +kernel
theorem dX6_goes_5 : decode cX6_goes 5 = .ok (.iload_n 1, 1) := by decide +kernel
theorem dX6_goes_6 : decode cX6_goes 6 = .ok (.if_icmp .ge 16, 3) := by decide +kernel
theorem dX6_goes_9 : decode cX6_goes 9 = .ok (.iload_n 2, 1) := by decide +kernel
theorem dX6_goes_10 : decode cX6_goes 10 = .ok (.aload_n 0, 1) := by decide +kernel
theorem dX6_goes_11 : decode cX6_goes 11 = .ok (.invokevirtual 143, 3) := by decide +kernel
theorem dX6_goes_14 : decode cX6_goes 14 = .ok (.iadd, 1) := by decide +kernel
theorem dX6_goes_15 : decode cX6_goes 15 = .ok (.istore_n 2, 1) := by decide +kernel
theorem dX6_goes_16 : decode cX6_goes 16 = .ok (.iinc 3 1, 3) := by decide +kernel
theorem dX6_goes_19 : decode cX6_goes 19 = .ok (.goto (-15), 3) := by decide +kernel
theorem dX6_goes_22 : decode cX6_goes 22 = .ok (.iload_n 2, 1) := by decide +kernel
theorem dX6_goes_23 : decode cX6_goes 23 = .ok (.ireturn, 1) := by decide +kernel
abbrev rmX6_goes : Room := { frames := 5, cells := 0, slots := 0, locals := 120 }
def w_X6_goes_L4 (n : Nat) (K : Int32 → Mem → Prop) : Nat → Mem → Nat → Int32 → Int32 → Int32 → Prop
  | 0, _, _, _, _, _ => False
  | fuel + 1, M, o0, a1, a2, a3 => ((a1 ≤ a3 → K a2 M) ∧ (¬ a1 ≤ a3 → ((o0 ≤ n ∧ kd o0 = (6, 0)) ∧ w_X6_step n M o0  (fun x3 M2 => (∀ x4, x4 = a2 + x3 → (∀ x5, x5 = a3 + (1 : Int32) → w_X6_goes_L4 n K fuel M2 o0 a1 x4 x5))))))
def w_X6_goes (n : Nat) (M : Mem) (t : Nat) (p1 : Int32) (K : Int32 → Mem → Prop) : Prop := w_X6_goes_L4 n K 4000 M t p1 (0 : Int32) (0 : Int32)
set_option maxHeartbeats 4000000 in
set_option maxRecDepth 20000 in
theorem c_X6_goes (l : Launch) (E : Gl) (n : Nat) (M : Mem) (t : Nat) (p1 : Int32) (K : Int32 → Mem → Prop) (hw : w_X6_goes n M t p1 K) : CT E l yX6_goes cX6_goes 4 (some .int) rmX6_goes n M [rV t, iV p1] (PI E n K) := by
  refine g_met l (by decide) (Nat.le_of_ble_eq_true rfl) ?_
  intro p e s m args below meth c X hr hlk hnm hSz hOld
  change CX E p s m c _ _ RX6 at X
  have L4 : ∀ (fuel : Nat) (M : Mem) (o0 : Nat) (a1 : Int32) (a2 : Int32) (a3 : Int32), w_X6_goes_L4 n K fuel M o0 a1 a2 a3 → G E p l e rmX6_goes s m args below meth c 4 n M 0 0 (MQD lw_cs below (PI E n K) args s rmX6_goes.cells rmX6_goes.slots (Ab E)) 4 [(0, rV o0), (1, iV a1), (2, iV a2), (3, iV a3)] [] := by
    intro fuel
    induction fuel with
    | zero => intro M o0 a1 a2 a3 hw; exact False.elim hw
    | succ fuel ih =>
      intro M o0 a1 a2 a3 hw
      unfold w_X6_goes_L4 at hw
      refine g_iload_n X dX6_goes_4 3 rfl ?_
      refine g_iload_n X dX6_goes_5 1 rfl ?_
      refine g_icmp_ge X 22 dX6_goes_6 (by decide) hw (fun hw => ?_) (fun hw => ?_)
      · refine g_iload_n X dX6_goes_22 2 rfl ?_
        exact g_iret X hr hlk hSz hOld (Nat.le_refl _) dX6_goes_23 hw
      · refine g_iload_n X dX6_goes_9 2 rfl ?_
        refine g_aload_n X dX6_goes_10 0 rfl ?_
        obtain ⟨hk1, hw⟩ := hw
        refine g_calli (pc' := 14) (rest := [iV a2]) rfl (fun H locs ls d qR qL => g_runV X cw_X6_143 iv_X6_step ⟨Nat.le_of_ble_eq_true rfl, Nat.le_of_ble_eq_true rfl⟩ dX6_goes_11 (c_X6_step l E n M o0  _ hw) hk1 rfl rfl (Nat.le_of_ble_eq_true rfl) ⟨Nat.le_of_ble_eq_true rfl, Nat.le_of_ble_eq_true rfl⟩ qR qL) (fun x3 M2 hw => ?_)
        refine g_iadd X dX6_goes_14 ?_
        refine g_topI (fun x4 hx4 => ?_)
        have hw := hw x4 hx4
        refine g_istore_n (lv' := [(2, iV x4), (0, rV o0), (1, iV a1), (3, iV a3)]) X dX6_goes_15 (by decide) rfl ?_
        obtain ⟨x5, hx5⟩ : ∃ y : Int32, y = a3 + (1 : Int32) := ⟨_, rfl⟩
        have hw := hw x5 hx5
        refine g_iinc (lv' := [(3, iV x5), (2, iV x4), (0, rV o0), (1, iV a1)]) X x5 dX6_goes_16 3 rfl (by rw [hx5]; rfl) (by decide) rfl ?_
        refine g_goto X 4 dX6_goes_19 (by decide) ?_
        refine g_lvsub (lv' := [(0, rV o0), (1, iV a1), (2, iV x4), (3, iV x5)]) [2, 3, 1, 0] rfl ?_
        exact ih _ _ _ _ _ hw
  unfold w_X6_goes at hw
  refine g_iconst X (0 : Int32) dX6_goes_0 (by decide) ?_
  refine g_istore_n (lv' := [(2, iV (0 : Int32)), (0, rV t), (1, iV p1)]) X dX6_goes_1 (by decide) rfl ?_
  refine g_iconst X (0 : Int32) dX6_goes_2 (by decide) ?_
  refine g_istore_n (lv' := [(3, iV (0 : Int32)), (2, iV (0 : Int32)), (0, rV t), (1, iV p1)]) X dX6_goes_3 (by decide) rfl ?_
  refine g_lvsub (lv' := [(0, rV t), (1, iV p1), (2, iV (0 : Int32)), (3, iV (0 : Int32))]) [2, 3, 1, 0] rfl ?_
  exact L4 _ _ _ _ _ _ hw
