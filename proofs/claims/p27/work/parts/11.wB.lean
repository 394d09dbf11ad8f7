/-! written by wip/p27/gen out of the bytecode -/
theorem wm_X0_3 : Cond.methodLink RX0 3 objectInit ∈ lwG := lwG_of (tb1 _ (List.mem_of_getElem? (i := 24) (by decide +kernel))) (by decide +kernel)
theorem wl_X0_9 : Cond.classLink RX0 9 RX3 ∈ lwG := lwG_of (tb1 _ (List.mem_of_getElem? (i := 25) (by decide +kernel))) (by decide +kernel)
theorem wx_X3 : Cond.instantiable RX3 4 ∈ lwG := lwG_of (tb1 _ (List.mem_of_getElem? (i := 26) (by decide +kernel))) (by decide +kernel)
theorem wi_X3 : Cond.initialized RX3 ∈ lwG := lwG_of (tb1 _ (List.mem_of_getElem? (i := 3) (by decide +kernel))) (by decide +kernel)
theorem wk_X0_11 : Cond.constantLong RX0 11 (4607182418800017408) ∈ lwG := lwG_of (tb1 _ (List.mem_of_getElem? (i := 27) (by decide +kernel))) (by decide +kernel)
theorem wk_X0_13 : Cond.constantLong RX0 13 (4652007308841189376) ∈ lwG := lwG_of (tb1 _ (List.mem_of_getElem? (i := 28) (by decide +kernel))) (by decide +kernel)
theorem wk_X0_15 : Cond.constantLong RX0 15 (4647503709213818880) ∈ lwG := lwG_of (tb1 _ (List.mem_of_getElem? (i := 29) (by decide +kernel))) (by decide +kernel)
theorem wc_X3_init : Cond.code yX3_init cX3_init 7 none ∈ lwG := lwG_of (tb1 _ (List.mem_of_getElem? (i := 32) (by decide +kernel))) (by decide +kernel)
theorem wm_X0_17 : Cond.methodLink RX0 17 yX3_init ∈ lwG := lwG_of (tb1 _ (List.mem_of_getElem? (i := 30) (by decide +kernel))) (by decide +kernel)
theorem cw_X0_17 : CW RX0 17 yX3_init cX3_init 7 none 3 := ⟨by decide +kernel, by decide +kernel, wc_X3_init, wi_X3, wm_X0_17⟩
theorem wn_X3_init : Cond.instanceMethod yX3_init ∈ lwG := lwG_of (tb1 _ (List.mem_of_getElem? (i := 31) (by decide +kernel))) (by decide +kernel)
theorem wfl_X0_20 : Cond.fieldLink RX0 20 RX0 "filling" "LLeakCarousel$Pressure;" ∈ lwG := lwG_of (tb1 _ (List.mem_of_getElem? (i := 211) (by decide +kernel))) (by decide +kernel)
theorem fl_X0_20 : FL RX0 20 0 0 := ⟨by decide, by decide, rfl, wfl_X0_20⟩
theorem wk_X0_26 : Cond.constantLong RX0 26 (4696837146684686336) ∈ lwG := lwG_of (tb1 _ (List.mem_of_getElem? (i := 58) (by decide +kernel))) (by decide +kernel)
theorem wk_X0_28 : Cond.constantLong RX0 28 (4626322717216342016) ∈ lwG := lwG_of (tb1 _ (List.mem_of_getElem? (i := 59) (by decide +kernel))) (by decide +kernel)
theorem wfl_X0_30 : Cond.fieldLink RX0 30 RX0 "lower" "LLeakCarousel$Pressure;" ∈ lwG := lwG_of (tb1 _ (List.mem_of_getElem? (i := 212) (by decide +kernel))) (by decide +kernel)
theorem fl_X0_30 : FL RX0 30 0 1 := ⟨by decide, by decide, rfl, wfl_X0_30⟩
theorem wk_X0_33 : Cond.constantLong RX0 33 (4629137466983448576) ∈ lwG := lwG_of (tb1 _ (List.mem_of_getElem? (i := 60) (by decide +kernel))) (by decide +kernel)
theorem wfl_X0_35 : Cond.fieldLink RX0 35 RX0 "upper" "LLeakCarousel$Pressure;" ∈ lwG := lwG_of (tb1 _ (List.mem_of_getElem? (i := 213) (by decide +kernel))) (by decide +kernel)
theorem fl_X0_35 : FL RX0 35 0 2 := ⟨by decide, by decide, rfl, wfl_X0_35⟩
theorem wfl_X0_38 : Cond.fieldLink RX0 38 RX0 "interval" "I" ∈ lwG := lwG_of (tb1 _ (List.mem_of_getElem? (i := 216) (by decide +kernel))) (by decide +kernel)
theorem fl_X0_38 : FL RX0 38 0 5 := ⟨by decide, by decide, rfl, wfl_X0_38⟩
theorem wl_X0_42 : Cond.classLink RX0 42 RX1 ∈ lwG := lwG_of (tb1 _ (List.mem_of_getElem? (i := 61) (by decide +kernel))) (by decide +kernel)
theorem wfl_X0_44 : Cond.fieldLink RX0 44 RX0 "heads" "[LLeakCarousel$Head;" ∈ lwG := lwG_of (tb1 _ (List.mem_of_getElem? (i := 214) (by decide +kernel))) (by decide +kernel)
theorem fl_X0_44 : FL RX0 44 0 3 := ⟨by decide, by decide, rfl, wfl_X0_44⟩
theorem wl_X0_51 : Cond.classLink RX0 51 RX2 ∈ lwG := lwG_of (tb1 _ (List.mem_of_getElem? (i := 141) (by decide +kernel))) (by decide +kernel)
theorem wfl_X0_53 : Cond.fieldLink RX0 53 RX0 "parts" "[LLeakCarousel$Part;" ∈ lwG := lwG_of (tb1 _ (List.mem_of_getElem? (i := 215) (by decide +kernel))) (by decide +kernel)
theorem fl_X0_53 : FL RX0 53 0 4 := ⟨by decide, by decide, rfl, wfl_X0_53⟩
theorem wfl_X0_58 : Cond.fieldLink RX0 58 RX0 "headCount" "I" ∈ lwG := lwG_of (tb1 _ (List.mem_of_getElem? (i := 218) (by decide +kernel))) (by decide +kernel)
theorem fl_X0_58 : FL RX0 58 0 6 := ⟨by decide, by decide, rfl, wfl_X0_58⟩
theorem wfl_X0_61 : Cond.fieldLink RX0 61 RX0 "partCount" "I" ∈ lwG := lwG_of (tb1 _ (List.mem_of_getElem? (i := 220) (by decide +kernel))) (by decide +kernel)
theorem fl_X0_61 : FL RX0 61 0 7 := ⟨by decide, by decide, rfl, wfl_X0_61⟩
theorem wfl_X0_64 : Cond.fieldLink RX0 64 RX0 "steps" "I" ∈ lwG := lwG_of (tb1 _ (List.mem_of_getElem? (i := 222) (by decide +kernel))) (by decide +kernel)
theorem fl_X0_64 : FL RX0 64 0 8 := ⟨by decide, by decide, rfl, wfl_X0_64⟩
theorem wfl_X0_67 : Cond.fieldLink RX0 67 RX0 "station" "I" ∈ lwG := lwG_of (tb1 _ (List.mem_of_getElem? (i := 224) (by decide +kernel))) (by decide +kernel)
theorem fl_X0_67 : FL RX0 67 0 9 := ⟨by decide, by decide, rfl, wfl_X0_67⟩
theorem wx_X2 : Cond.instantiable RX2 11 ∈ lwG := lwG_of (tb1 _ (List.mem_of_getElem? (i := 143) (by decide +kernel))) (by decide +kernel)
theorem wc_X2_init : Cond.code yX2_init cX2_init 2 none ∈ lwG := lwG_of (tb1 _ (List.mem_of_getElem? (i := 146) (by decide +kernel))) (by decide +kernel)
theorem wm_X0_57 : Cond.methodLink RX0 57 yX2_init ∈ lwG := lwG_of (tb1 _ (List.mem_of_getElem? (i := 144) (by decide +kernel))) (by decide +kernel)
theorem cw_X0_57 : CW RX0 57 yX2_init cX2_init 2 none 1 := ⟨by decide +kernel, by decide +kernel, wc_X2_init, wi_X2, wm_X0_57⟩
theorem wn_X2_init : Cond.instanceMethod yX2_init ∈ lwG := lwG_of (tb1 _ (List.mem_of_getElem? (i := 145) (by decide +kernel))) (by decide +kernel)
theorem wx_X1 : Cond.instantiable RX1 14 ∈ lwG := lwG_of (tb1 _ (List.mem_of_getElem? (i := 63) (by decide +kernel))) (by decide +kernel)
theorem wc_X1_init : Cond.code yX1_init cX1_init 2 none ∈ lwG := lwG_of (tb1 _ (List.mem_of_getElem? (i := 66) (by decide +kernel))) (by decide +kernel)
theorem wm_X0_48 : Cond.methodLink RX0 48 yX1_init ∈ lwG := lwG_of (tb1 _ (List.mem_of_getElem? (i := 64) (by decide +kernel))) (by decide +kernel)
theorem cw_X0_48 : CW RX0 48 yX1_init cX1_init 2 none 1 := ⟨by decide +kernel, by decide +kernel, wc_X1_init, wi_X1, wm_X0_48⟩
theorem wn_X1_init : Cond.instanceMethod yX1_init ∈ lwG := lwG_of (tb1 _ (List.mem_of_getElem? (i := 65) (by decide +kernel))) (by decide +kernel)
theorem wm_X0_73 : Cond.methodLink RX0 73 yX2_beAbsent ∈ lwG := lwG_of (tb2 _ (List.mem_of_getElem? (i := 74) (by decide +kernel))) (by decide +kernel)
theorem cw_X0_73 : CW RX0 73 yX2_beAbsent cX2_beAbsent 1 none 0 := ⟨by decide +kernel, by decide +kernel, wc_X2_beAbsent, wi_X2, wm_X0_73⟩
theorem wm_X0_70 : Cond.methodLink RX0 70 yX1_begin ∈ lwG := lwG_of (tb2 _ (List.mem_of_getElem? (i := 73) (by decide +kernel))) (by decide +kernel)
theorem cw_X0_70 : CW RX0 70 yX1_begin cX1_begin 1 none 0 := ⟨by decide +kernel, by decide +kernel, wc_X1_begin, wi_X1, wm_X0_70⟩
theorem wc_X3_copyOf : Cond.code yX3_copyOf cX3_copyOf 2 none ∈ lwG := lwG_of (tb2 _ (List.mem_of_getElem? (i := 60) (by decide +kernel))) (by decide +kernel)
theorem wm_X0_76 : Cond.methodLink RX0 76 yX3_copyOf ∈ lwG := lwG_of (tb2 _ (List.mem_of_getElem? (i := 57) (by decide +kernel))) (by decide +kernel)
theorem cw_X0_76 : CW RX0 76 yX3_copyOf cX3_copyOf 2 none 1 := ⟨by decide +kernel, by decide +kernel, wc_X3_copyOf, wi_X3, wm_X0_76⟩
theorem wn_X3_copyOf : Cond.instanceMethod yX3_copyOf ∈ lwG := lwG_of (tb2 _ (List.mem_of_getElem? (i := 58) (by decide +kernel))) (by decide +kernel)
theorem ws_X3_copyOf : Cond.selects RX3 yX3_copyOf yX3_copyOf ∈ lwG := lwG_of (tb2 _ (List.mem_of_getElem? (i := 59) (by decide +kernel))) (by decide +kernel)
theorem iv_X3_copyOf : Cond.instanceMethod yX3_copyOf ∈ lwG ∧ Cond.selects (fC 3) yX3_copyOf yX3_copyOf ∈ lwG ∧ 3 < 7 := ⟨wn_X3_copyOf, ws_X3_copyOf, by decide⟩
theorem wc_X2_copyOf : Cond.code yX2_copyOf cX2_copyOf 2 none ∈ lwG := lwG_of (tb2 _ (List.mem_of_getElem? (i := 68) (by decide +kernel))) (by decide +kernel)
theorem wm_X0_83 : Cond.methodLink RX0 83 yX2_copyOf ∈ lwG := lwG_of (tb2 _ (List.mem_of_getElem? (i := 65) (by decide +kernel))) (by decide +kernel)
theorem cw_X0_83 : CW RX0 83 yX2_copyOf cX2_copyOf 2 none 1 := ⟨by decide +kernel, by decide +kernel, wc_X2_copyOf, wi_X2, wm_X0_83⟩
theorem wn_X2_copyOf : Cond.instanceMethod yX2_copyOf ∈ lwG := lwG_of (tb2 _ (List.mem_of_getElem? (i := 66) (by decide +kernel))) (by decide +kernel)
theorem ws_X2_copyOf : Cond.selects RX2 yX2_copyOf yX2_copyOf ∈ lwG := lwG_of (tb2 _ (List.mem_of_getElem? (i := 67) (by decide +kernel))) (by decide +kernel)
theorem iv_X2_copyOf : Cond.instanceMethod yX2_copyOf ∈ lwG ∧ Cond.selects (fC 2) yX2_copyOf yX2_copyOf ∈ lwG ∧ 2 < 7 := ⟨wn_X2_copyOf, ws_X2_copyOf, by decide⟩
theorem wc_X1_copyOf : Cond.code yX1_copyOf cX1_copyOf 2 none ∈ lwG := lwG_of (tb2 _ (List.mem_of_getElem? (i := 64) (by decide +kernel))) (by decide +kernel)
theorem wm_X0_80 : Cond.methodLink RX0 80 yX1_copyOf ∈ lwG := lwG_of (tb2 _ (List.mem_of_getElem? (i := 61) (by decide +kernel))) (by decide +kernel)
theorem cw_X0_80 : CW RX0 80 yX1_copyOf cX1_copyOf 2 none 1 := ⟨by decide +kernel, by decide +kernel, wc_X1_copyOf, wi_X1, wm_X0_80⟩
theorem wn_X1_copyOf : Cond.instanceMethod yX1_copyOf ∈ lwG := lwG_of (tb2 _ (List.mem_of_getElem? (i := 62) (by decide +kernel))) (by decide +kernel)
theorem ws_X1_copyOf : Cond.selects RX1 yX1_copyOf yX1_copyOf ∈ lwG := lwG_of (tb2 _ (List.mem_of_getElem? (i := 63) (by decide +kernel))) (by decide +kernel)
theorem iv_X1_copyOf : Cond.instanceMethod yX1_copyOf ∈ lwG ∧ Cond.selects (fC 1) yX1_copyOf yX1_copyOf ∈ lwG ∧ 1 < 7 := ⟨wn_X1_copyOf, ws_X1_copyOf, by decide⟩
theorem wfl_X0_93 : Cond.fieldLink RX0 93 RX2 "state" "I" ∈ lwG := lwG_of (tb1 _ (List.mem_of_getElem? (i := 168) (by decide +kernel))) (by decide +kernel)
theorem fl_X0_93 : FL RX0 93 2 4 := ⟨by decide, by decide, rfl, wfl_X0_93⟩
theorem wc_X0_partsIn : Cond.code yX0_partsIn cX0_partsIn 7 (some .int) ∈ lwG := lwG_of (tb2 _ (List.mem_of_getElem? (i := 141) (by decide +kernel))) (by decide +kernel)
theorem wi_X0 : Cond.initialized RX0 ∈ lwG := lwG_of (tb1 _ (List.mem_of_getElem? (i := 2) (by decide +kernel))) (by decide +kernel)
theorem wm_X0_86 : Cond.methodLink RX0 86 yX0_partsIn ∈ lwG := lwG_of (tb2 _ (List.mem_of_getElem? (i := 138) (by decide +kernel))) (by decide +kernel)
theorem cw_X0_86 : CW RX0 86 yX0_partsIn cX0_partsIn 7 (some .int) 1 := ⟨by decide +kernel, by decide +kernel, wc_X0_partsIn, wi_X0, wm_X0_86⟩
theorem wn_X0_partsIn : Cond.instanceMethod yX0_partsIn ∈ lwG := lwG_of (tb2 _ (List.mem_of_getElem? (i := 139) (by decide +kernel))) (by decide +kernel)
theorem ws_X0_partsIn : Cond.selects RX0 yX0_partsIn yX0_partsIn ∈ lwG := lwG_of (tb2 _ (List.mem_of_getElem? (i := 140) (by decide +kernel))) (by decide +kernel)
theorem iv_X0_partsIn : Cond.instanceMethod yX0_partsIn ∈ lwG ∧ Cond.selects (fC 0) yX0_partsIn yX0_partsIn ∈ lwG ∧ 0 < 7 := ⟨wn_X0_partsIn, ws_X0_partsIn, by decide⟩
theorem wm_X0_90 : Cond.methodLink RX0 90 yX2_begin ∈ lwG := lwG_of (tb2 _ (List.mem_of_getElem? (i := 142) (by decide +kernel))) (by decide +kernel)
theorem cw_X0_90 : CW RX0 90 yX2_begin cX2_begin 5 none 4 := ⟨by decide +kernel, by decide +kernel, wc_X2_begin, wi_X2, wm_X0_90⟩
theorem wfl_X0_96 : Cond.fieldLink RX0 96 RX2 "place" "I" ∈ lwG := lwG_of (tb1 _ (List.mem_of_getElem? (i := 171) (by decide +kernel))) (by decide +kernel)
theorem fl_X0_96 : FL RX0 96 2 5 := ⟨by decide, by decide, rfl, wfl_X0_96⟩
theorem wc_X2_rejectFor : Cond.code yX2_rejectFor cX2_rejectFor 2 none ∈ lwG := lwG_of (tb2 _ (List.mem_of_getElem? (i := 237) (by decide +kernel))) (by decide +kernel)
theorem wm_X0_99 : Cond.methodLink RX0 99 yX2_rejectFor ∈ lwG := lwG_of (tb2 _ (List.mem_of_getElem? (i := 234) (by decide +kernel))) (by decide +kernel)
theorem cw_X0_99 : CW RX0 99 yX2_rejectFor cX2_rejectFor 2 none 1 := ⟨by decide +kernel, by decide +kernel, wc_X2_rejectFor, wi_X2, wm_X0_99⟩
theorem wn_X2_rejectFor : Cond.instanceMethod yX2_rejectFor ∈ lwG := lwG_of (tb2 _ (List.mem_of_getElem? (i := 235) (by decide +kernel))) (by decide +kernel)
theorem ws_X2_rejectFor : Cond.selects RX2 yX2_rejectFor yX2_rejectFor ∈ lwG := lwG_of (tb2 _ (List.mem_of_getElem? (i := 236) (by decide +kernel))) (by decide +kernel)
theorem iv_X2_rejectFor : Cond.instanceMethod yX2_rejectFor ∈ lwG ∧ Cond.selects (fC 2) yX2_rejectFor yX2_rejectFor ∈ lwG ∧ 2 < 7 := ⟨wn_X2_rejectFor, ws_X2_rejectFor, by decide⟩
theorem wfl_X0_102 : Cond.fieldLink RX0 102 RX1 "part" "I" ∈ lwG := lwG_of (tb1 _ (List.mem_of_getElem? (i := 90) (by decide +kernel))) (by decide +kernel)
theorem fl_X0_102 : FL RX0 102 1 6 := ⟨by decide, by decide, rfl, wfl_X0_102⟩
theorem wc_X0_partAt : Cond.code yX0_partAt cX0_partAt 3 (some (.object "LeakCarousel$Part")) ∈ lwG := lwG_of (tb2 _ (List.mem_of_getElem? (i := 216) (by decide +kernel))) (by decide +kernel)
theorem wm_X0_105 : Cond.methodLink RX0 105 yX0_partAt ∈ lwG := lwG_of (tb2 _ (List.mem_of_getElem? (i := 213) (by decide +kernel))) (by decide +kernel)
theorem cw_X0_105 : CW RX0 105 yX0_partAt cX0_partAt 3 (some (.object "LeakCarousel$Part")) 1 := ⟨by decide +kernel, by decide +kernel, wc_X0_partAt, wi_X0, wm_X0_105⟩
theorem wn_X0_partAt : Cond.instanceMethod yX0_partAt ∈ lwG := lwG_of (tb2 _ (List.mem_of_getElem? (i := 214) (by decide +kernel))) (by decide +kernel)
theorem ws_X0_partAt : Cond.selects RX0 yX0_partAt yX0_partAt ∈ lwG := lwG_of (tb2 _ (List.mem_of_getElem? (i := 215) (by decide +kernel))) (by decide +kernel)
theorem iv_X0_partAt : Cond.instanceMethod yX0_partAt ∈ lwG ∧ Cond.selects (fC 0) yX0_partAt yX0_partAt ∈ lwG ∧ 0 < 7 := ⟨wn_X0_partAt, ws_X0_partAt, by decide⟩
theorem wc_X0_putInFront : Cond.code yX0_putInFront cX0_putInFront 6 none ∈ lwG := lwG_of (tb2 _ (List.mem_of_getElem? (i := 233) (by decide +kernel))) (by decide +kernel)
theorem wm_X0_109 : Cond.methodLink RX0 109 yX0_putInFront ∈ lwG := lwG_of (tb2 _ (List.mem_of_getElem? (i := 230) (by decide +kernel))) (by decide +kernel)
theorem cw_X0_109 : CW RX0 109 yX0_putInFront cX0_putInFront 6 none 1 := ⟨by decide +kernel, by decide +kernel, wc_X0_putInFront, wi_X0, wm_X0_109⟩
theorem wn_X0_putInFront : Cond.instanceMethod yX0_putInFront ∈ lwG := lwG_of (tb2 _ (List.mem_of_getElem? (i := 232) (by decide +kernel))) (by decide +kernel)
theorem ws_X0_putInFront : Cond.selects RX0 yX0_putInFront yX0_putInFront ∈ lwG := lwG_of (tb0 _ (List.mem_of_getElem? (i := 13) (by decide +kernel))) (by decide +kernel)
theorem iv_X0_putInFront : Cond.instanceMethod yX0_putInFront ∈ lwG ∧ Cond.selects (fC 0) yX0_putInFront yX0_putInFront ∈ lwG ∧ 0 < 7 := ⟨wn_X0_putInFront, ws_X0_putInFront, by decide⟩
theorem wfl_X0_133 : Cond.fieldLink RX0 133 RX1 "pressure" "D" ∈ lwG := lwG_of (tb1 _ (List.mem_of_getElem? (i := 95) (by decide +kernel))) (by decide +kernel)
theorem fl_X0_133 : FL RX0 133 1 8 := ⟨by decide, by decide, rfl, wfl_X0_133⟩
theorem wfl_X0_129 : Cond.fieldLink RX0 129 RX1 "filled" "D" ∈ lwG := lwG_of (tb1 _ (List.mem_of_getElem? (i := 92) (by decide +kernel))) (by decide +kernel)
theorem fl_X0_129 : FL RX0 129 1 7 := ⟨by decide, by decide, rfl, wfl_X0_129⟩
theorem wk_X0_179 : Cond.constantDouble RX0 179 (4611686018427387904) ∈ lwG := lwG_of (tb2 _ (List.mem_of_getElem? (i := 229) (by decide +kernel))) (by decide +kernel)
theorem wfl_X0_150 : Cond.fieldLink RX0 150 RX1 "testsSince" "I" ∈ lwG := lwG_of (tb1 _ (List.mem_of_getElem? (i := 87) (by decide +kernel))) (by decide +kernel)
theorem fl_X0_150 : FL RX0 150 1 5 := ⟨by decide, by decide, rfl, wfl_X0_150⟩
theorem wfl_X0_140 : Cond.fieldLink RX0 140 RX2 "latestValue" "D" ∈ lwG := lwG_of (tb1 _ (List.mem_of_getElem? (i := 183) (by decide +kernel))) (by decide +kernel)
theorem fl_X0_140 : FL RX0 140 2 9 := ⟨by decide, by decide, rfl, wfl_X0_140⟩
theorem wfl_X0_181 : Cond.fieldLink RX0 181 RX3 "number" "D" ∈ lwG := lwG_of (tb1 _ (List.mem_of_getElem? (i := 48) (by decide +kernel))) (by decide +kernel)
theorem fl_X0_181 : FL RX0 181 3 3 := ⟨by decide, by decide, rfl, wfl_X0_181⟩
theorem wc_X0_causeAgainst : Cond.code yX0_causeAgainst cX0_causeAgainst 3 (some .int) ∈ lwG := lwG_of (tb2 _ (List.mem_of_getElem? (i := 228) (by decide +kernel))) (by decide +kernel)
theorem wm_X0_165 : Cond.methodLink RX0 165 yX0_causeAgainst ∈ lwG := lwG_of (tb2 _ (List.mem_of_getElem? (i := 225) (by decide +kernel))) (by decide +kernel)
theorem cw_X0_165 : CW RX0 165 yX0_causeAgainst cX0_causeAgainst 3 (some .int) 2 := ⟨by decide +kernel, by decide +kernel, wc_X0_causeAgainst, wi_X0, wm_X0_165⟩
theorem wn_X0_causeAgainst : Cond.instanceMethod yX0_causeAgainst ∈ lwG := lwG_of (tb2 _ (List.mem_of_getElem? (i := 227) (by decide +kernel))) (by decide +kernel)
theorem ws_X0_causeAgainst : Cond.selects RX0 yX0_causeAgainst yX0_causeAgainst ∈ lwG := lwG_of (tb0 _ (List.mem_of_getElem? (i := 12) (by decide +kernel))) (by decide +kernel)
theorem iv_X0_causeAgainst : Cond.instanceMethod yX0_causeAgainst ∈ lwG ∧ Cond.selects (fC 0) yX0_causeAgainst yX0_causeAgainst ∈ lwG ∧ 0 < 7 := ⟨wn_X0_causeAgainst, ws_X0_causeAgainst, by decide⟩
theorem wfl_X0_172 : Cond.fieldLink RX0 172 RX2 "retests" "I" ∈ lwG := lwG_of (tb1 _ (List.mem_of_getElem? (i := 177) (by decide +kernel))) (by decide +kernel)
theorem fl_X0_172 : FL RX0 172 2 7 := ⟨by decide, by decide, rfl, wfl_X0_172⟩
theorem wfl_X0_176 : Cond.fieldLink RX0 176 RX1 "rejected" "I" ∈ lwG := lwG_of (tb1 _ (List.mem_of_getElem? (i := 107) (by decide +kernel))) (by decide +kernel)
theorem fl_X0_176 : FL RX0 176 1 12 := ⟨by decide, by decide, rfl, wfl_X0_176⟩
theorem wfl_X0_175 : Cond.fieldLink RX0 175 RX1 "retests" "I" ∈ lwG := lwG_of (tb1 _ (List.mem_of_getElem? (i := 110) (by decide +kernel))) (by decide +kernel)
theorem fl_X0_175 : FL RX0 175 1 13 := ⟨by decide, by decide, rfl, wfl_X0_175⟩
theorem wfl_X0_169 : Cond.fieldLink RX0 169 RX1 "accepted" "I" ∈ lwG := lwG_of (tb1 _ (List.mem_of_getElem? (i := 104) (by decide +kernel))) (by decide +kernel)
theorem fl_X0_169 : FL RX0 169 1 11 := ⟨by decide, by decide, rfl, wfl_X0_169⟩
theorem wfl_X0_197 : Cond.fieldLink RX0 197 RX2 "volume" "I" ∈ lwG := lwG_of (tb1 _ (List.mem_of_getElem? (i := 165) (by decide +kernel))) (by decide +kernel)
theorem fl_X0_197 : FL RX0 197 2 3 := ⟨by decide, by decide, rfl, wfl_X0_197⟩
theorem wfl_X0_157 : Cond.fieldLink RX0 157 RX1 "gain" "D" ∈ lwG := lwG_of (tb1 _ (List.mem_of_getElem? (i := 75) (by decide +kernel))) (by decide +kernel)
theorem fl_X0_157 : FL RX0 157 1 1 := ⟨by decide, by decide, rfl, wfl_X0_157⟩
theorem wfl_X0_207 : Cond.fieldLink RX0 207 RX1 "factor" "D" ∈ lwG := lwG_of (tb1 _ (List.mem_of_getElem? (i := 79) (by decide +kernel))) (by decide +kernel)
theorem fl_X0_207 : FL RX0 207 1 2 := ⟨by decide, by decide, rfl, wfl_X0_207⟩
theorem wc_X0_valueOf : Cond.code yX0_valueOf cX0_valueOf 5 (some .double) ∈ lwG := lwG_of (tb2 _ (List.mem_of_getElem? (i := 220) (by decide +kernel))) (by decide +kernel)
theorem wm_X0_136 : Cond.methodLink RX0 136 yX0_valueOf ∈ lwG := lwG_of (tb2 _ (List.mem_of_getElem? (i := 217) (by decide +kernel))) (by decide +kernel)
theorem cw_X0_136 : CW RX0 136 yX0_valueOf cX0_valueOf 5 (some .double) 3 := ⟨by decide +kernel, by decide +kernel, wc_X0_valueOf, wi_X0, wm_X0_136⟩
theorem wn_X0_valueOf : Cond.instanceMethod yX0_valueOf ∈ lwG := lwG_of (tb2 _ (List.mem_of_getElem? (i := 219) (by decide +kernel))) (by decide +kernel)
theorem ws_X0_valueOf : Cond.selects RX0 yX0_valueOf yX0_valueOf ∈ lwG := lwG_of (tb0 _ (List.mem_of_getElem? (i := 10) (by decide +kernel))) (by decide +kernel)
theorem iv_X0_valueOf : Cond.instanceMethod yX0_valueOf ∈ lwG ∧ Cond.selects (fC 0) yX0_valueOf yX0_valueOf ∈ lwG ∧ 0 < 7 := ⟨wn_X0_valueOf, ws_X0_valueOf, by decide⟩
theorem wfl_X0_126 : Cond.fieldLink RX0 126 RX1 "number" "I" ∈ lwG := lwG_of (tb1 _ (List.mem_of_getElem? (i := 73) (by decide +kernel))) (by decide +kernel)
theorem fl_X0_126 : FL RX0 126 1 0 := ⟨by decide, by decide, rfl, wfl_X0_126⟩
theorem wfl_X0_143 : Cond.fieldLink RX0 143 RX2 "latestHead" "I" ∈ lwG := lwG_of (tb1 _ (List.mem_of_getElem? (i := 180) (by decide +kernel))) (by decide +kernel)
theorem fl_X0_143 : FL RX0 143 2 8 := ⟨by decide, by decide, rfl, wfl_X0_143⟩
theorem wfl_X0_146 : Cond.fieldLink RX0 146 RX2 "tests" "I" ∈ lwG := lwG_of (tb1 _ (List.mem_of_getElem? (i := 174) (by decide +kernel))) (by decide +kernel)
theorem fl_X0_146 : FL RX0 146 2 6 := ⟨by decide, by decide, rfl, wfl_X0_146⟩
theorem wfl_X0_149 : Cond.fieldLink RX0 149 RX1 "tests" "I" ∈ lwG := lwG_of (tb1 _ (List.mem_of_getElem? (i := 101) (by decide +kernel))) (by decide +kernel)
theorem fl_X0_149 : FL RX0 149 1 10 := ⟨by decide, by decide, rfl, wfl_X0_149⟩
theorem wc_X0_judge : Cond.code yX0_judge cX0_judge 5 none ∈ lwG := lwG_of (tb2 _ (List.mem_of_getElem? (i := 224) (by decide +kernel))) (by decide +kernel)
theorem wm_X0_153 : Cond.methodLink RX0 153 yX0_judge ∈ lwG := lwG_of (tb2 _ (List.mem_of_getElem? (i := 221) (by decide +kernel))) (by decide +kernel)
theorem cw_X0_153 : CW RX0 153 yX0_judge cX0_judge 5 none 2 := ⟨by decide +kernel, by decide +kernel, wc_X0_judge, wi_X0, wm_X0_153⟩
theorem wn_X0_judge : Cond.instanceMethod yX0_judge ∈ lwG := lwG_of (tb2 _ (List.mem_of_getElem? (i := 223) (by decide +kernel))) (by decide +kernel)
theorem ws_X0_judge : Cond.selects RX0 yX0_judge yX0_judge ∈ lwG := lwG_of (tb0 _ (List.mem_of_getElem? (i := 11) (by decide +kernel))) (by decide +kernel)
theorem iv_X0_judge : Cond.instanceMethod yX0_judge ∈ lwG ∧ Cond.selects (fC 0) yX0_judge yX0_judge ∈ lwG ∧ 0 < 7 := ⟨wn_X0_judge, ws_X0_judge, by decide⟩
theorem wfl_X0_160 : Cond.fieldLink RX0 160 RX1 "wear" "I" ∈ lwG := lwG_of (tb1 _ (List.mem_of_getElem? (i := 82) (by decide +kernel))) (by decide +kernel)
theorem fl_X0_160 : FL RX0 160 1 3 := ⟨by decide, by decide, rfl, wfl_X0_160⟩
theorem wk_X0_163 : Cond.constantDouble RX0 163 (4696837146684686336) ∈ lwG := lwG_of (tb2 _ (List.mem_of_getElem? (i := 238) (by decide +kernel))) (by decide +kernel)
theorem wfl_X0_194 : Cond.fieldLink RX0 194 RX2 "leak" "I" ∈ lwG := lwG_of (tb1 _ (List.mem_of_getElem? (i := 162) (by decide +kernel))) (by decide +kernel)
theorem fl_X0_194 : FL RX0 194 2 2 := ⟨by decide, by decide, rfl, wfl_X0_194⟩
theorem wc_X5_decayed : Cond.code yX5_decayed cX5_decayed 10 (some .double) ∈ lwG := lwG_of (tb2 _ (List.mem_of_getElem? (i := 90) (by decide +kernel))) (by decide +kernel)
theorem wt_X5_decayed : Cond.static yX5_decayed ∈ lwG := lwG_of (tb2 _ (List.mem_of_getElem? (i := 89) (by decide +kernel))) (by decide +kernel)
theorem cn_X5_decayed : CN yX5_decayed cX5_decayed 10 (some .double) 4 := ⟨by decide +kernel, by decide +kernel, wc_X5_decayed, wi_X5, wt_X5_decayed⟩
theorem wfl_X0_204 : Cond.fieldLink RX0 204 RX1 "stepsSince" "I" ∈ lwG := lwG_of (tb1 _ (List.mem_of_getElem? (i := 98) (by decide +kernel))) (by decide +kernel)
theorem fl_X0_204 : FL RX0 204 1 9 := ⟨by decide, by decide, rfl, wfl_X0_204⟩
theorem wc_X0_takeFromRow : Cond.code yX0_takeFromRow cX0_takeFromRow 6 none ∈ lwG := lwG_of (tb3 _ (List.mem_of_getElem? (i := 10) (by decide +kernel))) (by decide +kernel)
theorem wm_X0_187 : Cond.methodLink RX0 187 yX0_takeFromRow ∈ lwG := lwG_of (tb3 _ (List.mem_of_getElem? (i := 7) (by decide +kernel))) (by decide +kernel)
theorem cw_X0_187 : CW RX0 187 yX0_takeFromRow cX0_takeFromRow 6 none 1 := ⟨by decide +kernel, by decide +kernel, wc_X0_takeFromRow, wi_X0, wm_X0_187⟩
theorem wn_X0_takeFromRow : Cond.instanceMethod yX0_takeFromRow ∈ lwG := lwG_of (tb3 _ (List.mem_of_getElem? (i := 9) (by decide +kernel))) (by decide +kernel)
theorem ws_X0_takeFromRow : Cond.selects RX0 yX0_takeFromRow yX0_takeFromRow ∈ lwG := lwG_of (tb0 _ (List.mem_of_getElem? (i := 15) (by decide +kernel))) (by decide +kernel)
theorem iv_X0_takeFromRow : Cond.instanceMethod yX0_takeFromRow ∈ lwG ∧ Cond.selects (fC 0) yX0_takeFromRow yX0_takeFromRow ∈ lwG ∧ 0 < 7 := ⟨wn_X0_takeFromRow, ws_X0_takeFromRow, by decide⟩
theorem wc_X1_fill : Cond.code yX1_fill cX1_fill 4 none ∈ lwG := lwG_of (tb3 _ (List.mem_of_getElem? (i := 14) (by decide +kernel))) (by decide +kernel)
theorem wm_X0_190 : Cond.methodLink RX0 190 yX1_fill ∈ lwG := lwG_of (tb3 _ (List.mem_of_getElem? (i := 11) (by decide +kernel))) (by decide +kernel)
theorem cw_X0_190 : CW RX0 190 yX1_fill cX1_fill 4 none 2 := ⟨by decide +kernel, by decide +kernel, wc_X1_fill, wi_X1, wm_X0_190⟩
theorem wn_X1_fill : Cond.instanceMethod yX1_fill ∈ lwG := lwG_of (tb3 _ (List.mem_of_getElem? (i := 12) (by decide +kernel))) (by decide +kernel)
theorem ws_X1_fill : Cond.selects RX1 yX1_fill yX1_fill ∈ lwG := lwG_of (tb3 _ (List.mem_of_getElem? (i := 13) (by decide +kernel))) (by decide +kernel)
theorem iv_X1_fill : Cond.instanceMethod yX1_fill ∈ lwG ∧ Cond.selects (fC 1) yX1_fill yX1_fill ∈ lwG ∧ 1 < 7 := ⟨wn_X1_fill, ws_X1_fill, by decide⟩
theorem wc_X1_takes : Cond.code yX1_takes cX1_takes 2 (some .boolean) ∈ lwG := lwG_of (tb3 _ (List.mem_of_getElem? (i := 6) (by decide +kernel))) (by decide +kernel)
theorem wm_X0_183 : Cond.methodLink RX0 183 yX1_takes ∈ lwG := lwG_of (tb3 _ (List.mem_of_getElem? (i := 3) (by decide +kernel))) (by decide +kernel)
theorem cw_X0_183 : CW RX0 183 yX1_takes cX1_takes 2 (some .boolean) 1 := ⟨by decide +kernel, by decide +kernel, wc_X1_takes, wi_X1, wm_X0_183⟩
theorem wn_X1_takes : Cond.instanceMethod yX1_takes ∈ lwG := lwG_of (tb3 _ (List.mem_of_getElem? (i := 4) (by decide +kernel))) (by decide +kernel)
theorem ws_X1_takes : Cond.selects RX1 yX1_takes yX1_takes ∈ lwG := lwG_of (tb3 _ (List.mem_of_getElem? (i := 5) (by decide +kernel))) (by decide +kernel)
theorem iv_X1_takes : Cond.instanceMethod yX1_takes ∈ lwG ∧ Cond.selects (fC 1) yX1_takes yX1_takes ∈ lwG ∧ 1 < 7 := ⟨wn_X1_takes, ws_X1_takes, by decide⟩
theorem wc_X0_headAt : Cond.code yX0_headAt cX0_headAt 3 (some (.object "LeakCarousel$Head")) ∈ lwG := lwG_of (tb2 _ (List.mem_of_getElem? (i := 82) (by decide +kernel))) (by decide +kernel)
theorem wm_X0_112 : Cond.methodLink RX0 112 yX0_headAt ∈ lwG := lwG_of (tb2 _ (List.mem_of_getElem? (i := 208) (by decide +kernel))) (by decide +kernel)
theorem cw_X0_112 : CW RX0 112 yX0_headAt cX0_headAt 3 (some (.object "LeakCarousel$Head")) 1 := ⟨by decide +kernel, by decide +kernel, wc_X0_headAt, wi_X0, wm_X0_112⟩
theorem wn_X0_headAt : Cond.instanceMethod yX0_headAt ∈ lwG := lwG_of (tb2 _ (List.mem_of_getElem? (i := 80) (by decide +kernel))) (by decide +kernel)
theorem ws_X0_headAt : Cond.selects RX0 yX0_headAt yX0_headAt ∈ lwG := lwG_of (tb2 _ (List.mem_of_getElem? (i := 81) (by decide +kernel))) (by decide +kernel)
theorem iv_X0_headAt : Cond.instanceMethod yX0_headAt ∈ lwG ∧ Cond.selects (fC 0) yX0_headAt yX0_headAt ∈ lwG ∧ 0 < 7 := ⟨wn_X0_headAt, ws_X0_headAt, by decide⟩
theorem wc_X0_endTest : Cond.code yX0_endTest cX0_endTest 3 (some .boolean) ∈ lwG := lwG_of (tb2 _ (List.mem_of_getElem? (i := 212) (by decide +kernel))) (by decide +kernel)
theorem wm_X0_116 : Cond.methodLink RX0 116 yX0_endTest ∈ lwG := lwG_of (tb2 _ (List.mem_of_getElem? (i := 209) (by decide +kernel))) (by decide +kernel)
theorem cw_X0_116 : CW RX0 116 yX0_endTest cX0_endTest 3 (some .boolean) 1 := ⟨by decide +kernel, by decide +kernel, wc_X0_endTest, wi_X0, wm_X0_116⟩
theorem wn_X0_endTest : Cond.instanceMethod yX0_endTest ∈ lwG := lwG_of (tb2 _ (List.mem_of_getElem? (i := 211) (by decide +kernel))) (by decide +kernel)
theorem ws_X0_endTest : Cond.selects RX0 yX0_endTest yX0_endTest ∈ lwG := lwG_of (tb0 _ (List.mem_of_getElem? (i := 9) (by decide +kernel))) (by decide +kernel)
theorem iv_X0_endTest : Cond.instanceMethod yX0_endTest ∈ lwG ∧ Cond.selects (fC 0) yX0_endTest yX0_endTest ∈ lwG ∧ 0 < 7 := ⟨wn_X0_endTest, ws_X0_endTest, by decide⟩
theorem wc_X0_load : Cond.code yX0_load cX0_load 8 none ∈ lwG := lwG_of (tb3 _ (List.mem_of_getElem? (i := 2) (by decide +kernel))) (by decide +kernel)
theorem wm_X0_120 : Cond.methodLink RX0 120 yX0_load ∈ lwG := lwG_of (tb2 _ (List.mem_of_getElem? (i := 239) (by decide +kernel))) (by decide +kernel)
theorem cw_X0_120 : CW RX0 120 yX0_load cX0_load 8 none 1 := ⟨by decide +kernel, by decide +kernel, wc_X0_load, wi_X0, wm_X0_120⟩
theorem wn_X0_load : Cond.instanceMethod yX0_load ∈ lwG := lwG_of (tb3 _ (List.mem_of_getElem? (i := 1) (by decide +kernel))) (by decide +kernel)
theorem ws_X0_load : Cond.selects RX0 yX0_load yX0_load ∈ lwG := lwG_of (tb0 _ (List.mem_of_getElem? (i := 14) (by decide +kernel))) (by decide +kernel)
theorem iv_X0_load : Cond.instanceMethod yX0_load ∈ lwG ∧ Cond.selects (fC 0) yX0_load yX0_load ∈ lwG ∧ 0 < 7 := ⟨wn_X0_load, ws_X0_load, by decide⟩
theorem wc_X0_leakAwayFrom : Cond.code yX0_leakAwayFrom cX0_leakAwayFrom 7 none ∈ lwG := lwG_of (tb3 _ (List.mem_of_getElem? (i := 18) (by decide +kernel))) (by decide +kernel)
theorem wm_X0_123 : Cond.methodLink RX0 123 yX0_leakAwayFrom ∈ lwG := lwG_of (tb3 _ (List.mem_of_getElem? (i := 15) (by decide +kernel))) (by decide +kernel)
theorem cw_X0_123 : CW RX0 123 yX0_leakAwayFrom cX0_leakAwayFrom 7 none 1 := ⟨by decide +kernel, by decide +kernel, wc_X0_leakAwayFrom, wi_X0, wm_X0_123⟩
theorem wn_X0_leakAwayFrom : Cond.instanceMethod yX0_leakAwayFrom ∈ lwG := lwG_of (tb3 _ (List.mem_of_getElem? (i := 17) (by decide +kernel))) (by decide +kernel)
theorem ws_X0_leakAwayFrom : Cond.selects RX0 yX0_leakAwayFrom yX0_leakAwayFrom ∈ lwG := lwG_of (tb0 _ (List.mem_of_getElem? (i := 16) (by decide +kernel))) (by decide +kernel)
theorem iv_X0_leakAwayFrom : Cond.instanceMethod yX0_leakAwayFrom ∈ lwG ∧ Cond.selects (fC 0) yX0_leakAwayFrom yX0_leakAwayFrom ∈ lwG ∧ 0 < 7 := ⟨wn_X0_leakAwayFrom, ws_X0_leakAwayFrom, by decide⟩
theorem wk_X0_210 : Cond.constantDouble RX0 210 (4636737291354636288) ∈ lwG := lwG_of (tb2 _ (List.mem_of_getElem? (i := 92) (by decide +kernel))) (by decide +kernel)
theorem wk_X0_212 : Cond.constantDouble RX0 212 (118622047889322841) ∈ lwG := lwG_of (tb2 _ (List.mem_of_getElem? (i := 93) (by decide +kernel))) (by decide +kernel)
theorem wfl_X0_214 : Cond.fieldLink RX0 214 RX2 "cause" "I" ∈ lwG := lwG_of (tb1 _ (List.mem_of_getElem? (i := 187) (by decide +kernel))) (by decide +kernel)
theorem fl_X0_214 : FL RX0 214 2 10 := ⟨by decide, by decide, rfl, wfl_X0_214⟩
theorem wc_X4_wholeIn : Cond.code yX4_wholeIn cX4_wholeIn 5 (some .int) ∈ lwG := lwG_of (tb2 _ (List.mem_of_getElem? (i := 133) (by decide +kernel))) (by decide +kernel)
theorem wm_X4_46 : Cond.methodLink RX4 46 yX4_wholeIn ∈ lwG := lwG_of (tb2 _ (List.mem_of_getElem? (i := 130) (by decide +kernel))) (by decide +kernel)
theorem cw_X4_46 : CW RX4 46 yX4_wholeIn cX4_wholeIn 5 (some .int) 2 := ⟨by decide +kernel, by decide +kernel, wc_X4_wholeIn, wi_X4, wm_X4_46⟩
theorem wn_X4_wholeIn : Cond.instanceMethod yX4_wholeIn ∈ lwG := lwG_of (tb2 _ (List.mem_of_getElem? (i := 132) (by decide +kernel))) (by decide +kernel)
theorem ws_X4_wholeIn : Cond.selects RX4 yX4_wholeIn yX4_wholeIn ∈ lwG := lwG_of (tb0 _ (List.mem_of_getElem? (i := 7) (by decide +kernel))) (by decide +kernel)
theorem iv_X4_wholeIn : Cond.instanceMethod yX4_wholeIn ∈ lwG ∧ Cond.selects (fC 4) yX4_wholeIn yX4_wholeIn ∈ lwG ∧ 4 < 7 := ⟨wn_X4_wholeIn, ws_X4_wholeIn, by decide⟩
theorem wc_X0_addPart : Cond.code yX0_addPart cX0_addPart 5 (some .int) ∈ lwG := lwG_of (tb2 _ (List.mem_of_getElem? (i := 137) (by decide +kernel))) (by decide +kernel)
theorem wm_X4_49 : Cond.methodLink RX4 49 yX0_addPart ∈ lwG := lwG_of (tb2 _ (List.mem_of_getElem? (i := 134) (by decide +kernel))) (by decide +kernel)
theorem cw_X4_49 : CW RX4 49 yX0_addPart cX0_addPart 5 (some .int) 3 := ⟨by decide +kernel, by decide +kernel, wc_X0_addPart, wi_X0, wm_X4_49⟩
theorem wn_X0_addPart : Cond.instanceMethod yX0_addPart ∈ lwG := lwG_of (tb2 _ (List.mem_of_getElem? (i := 135) (by decide +kernel))) (by decide +kernel)
theorem ws_X0_addPart : Cond.selects RX0 yX0_addPart yX0_addPart ∈ lwG := lwG_of (tb2 _ (List.mem_of_getElem? (i := 136) (by decide +kernel))) (by decide +kernel)
theorem iv_X0_addPart : Cond.instanceMethod yX0_addPart ∈ lwG ∧ Cond.selects (fC 0) yX0_addPart yX0_addPart ∈ lwG ∧ 0 < 7 := ⟨wn_X0_addPart, ws_X0_addPart, by decide⟩
theorem dX0_init_0 : decode cX0_init 0 = .ok (.aload_n 0, 1) := by decide +kernel
theorem dX0_init_1 : decode cX0_init 1 = .ok (.invokespecial 3, 3) := by decide +kernel
theorem dX0_init_4 : decode cX0_init 4 = .ok (.aload_n 0, 1) := by decide +kernel
theorem dX0_init_5 : decode cX0_init 5 = .ok (.new 9, 3) := by decide +kernel
theorem dX0_init_8 : decode cX0_init 8 = .ok (.dup, 1) := by decide +kernel
theorem dX0_init_9 : decode cX0_init 9 = .ok (.ldc2_w 11, 3) := by decide +kernel
theorem dX0_init_12 : decode cX0_init 12 = .ok (.ldc2_w 13, 3) := by decide +kernel
theorem dX0_init_15 : decode cX0_init 15 = .ok (.ldc2_w 15, 3) := by decide +kernel
theorem dX0_init_18 : decode cX0_init 18 = .ok (.invokespecial 17, 3) := by decide +kernel
theorem dX0_init_21 : decode cX0_init 21 = .ok (.putfield 20, 3) := by decide +kernel
theorem dX0_init_24 : decode cX0_init 24 = .ok (.aload_n 0, 1) := by decide +kernel
theorem dX0_init_25 : decode cX0_init 25 = .ok (.new 9, 3) := by decide +kernel
theorem dX0_init_28 : decode cX0_init 28 = .ok (.dup, 1) := by decide +kernel
theorem dX0_init_29 : decode cX0_init 29 = .ok (.lconst 0, 1) := by decide +kernel
theorem dX0_init_30 : decode cX0_init 30 = .ok (.ldc2_w 26, 3) := by decide +kernel
theorem dX0_init_33 : decode cX0_init 33 = .ok (.ldc2_w 28, 3) := by decide +kernel
theorem dX0_init_36 : decode cX0_init 36 = .ok (.invokespecial 17, 3) := by decide +kernel
theorem dX0_init_39 : decode cX0_init 39 = .ok (.putfield 30, 3) := by decide +kernel
theorem dX0_init_42 : decode cX0_init 42 = .ok (.aload_n 0, 1) := by decide +kernel
theorem dX0_init_43 : decode cX0_init 43 = .ok (.new 9, 3) := by decide +kernel
theorem dX0_init_46 : decode cX0_init 46 = .ok (.dup, 1) := by decide +kernel
theorem dX0_init_47 : decode cX0_init 47 = .ok (.lconst 0, 1) := by decide +kernel
theorem dX0_init_48 : decode cX0_init 48 = .ok (.ldc2_w 26, 3) := by decide +kernel
theorem dX0_init_51 : decode cX0_init 51 = .ok (.ldc2_w 33, 3) := by decide +kernel
theorem dX0_init_54 : decode cX0_init 54 = .ok (.invokespecial 17, 3) := by decide +kernel
theorem dX0_init_57 : decode cX0_init 57 = .ok (.putfield 35, 3) := by decide +kernel
theorem dX0_init_60 : decode cX0_init 60 = .ok (.aload_n 0, 1) := by decide +kernel
theorem dX0_init_61 : decode cX0_init 61 = .ok (.bipush 20, 2) := by decide +kernel
theorem dX0_init_63 : decode cX0_init 63 = .ok (.putfield 38, 3) := by decide +kernel
theorem dX0_init_66 : decode cX0_init 66 = .ok (.aload_n 0, 1) := by decide +kernel
theorem dX0_init_67 : decode cX0_init 67 = .ok (.bipush 8, 2) := by decide +kernel
theorem dX0_init_69 : decode cX0_init 69 = .ok (.anewarray 42, 3) := by decide +kernel
theorem dX0_init_72 : decode cX0_init 72 = .ok (.putfield 44, 3) := by decide +kernel
theorem dX0_init_75 : decode cX0_init 75 = .ok (.iconst 0, 1) := by decide +kernel
theorem dX0_init_76 : decode cX0_init 76 = .ok (.istore_n 1, 1) := by decide +kernel
theorem dX0_init_77 : decode cX0_init 77 = .ok (.iload_n 1, 1) := by decide +kernel
theorem dX0_init_78 : decode cX0_init 78 = .ok (.aload_n 0, 1) := by decide +kernel
theorem dX0_init_79 : decode cX0_init 79 = .ok (.getfield 44, 3) := by decide +kernel
theorem dX0_init_82 : decode cX0_init 82 = .ok (.arraylength, 1) := by decide +kernel
theorem dX0_init_83 : decode cX0_init 83 = .ok (.if_icmp .ge 23, 3) := by decide +kernel
theorem dX0_init_86 : decode cX0_init 86 = .ok (.aload_n 0, 1) := by decide +kernel
theorem dX0_init_87 : decode cX0_init 87 = .ok (.getfield 44, 3) := by decide +kernel
theorem dX0_init_90 : decode cX0_init 90 = .ok (.iload_n 1, 1) := by decide +kernel
theorem dX0_init_91 : decode cX0_init 91 = .ok (.new 42, 3) := by decide +kernel
theorem dX0_init_94 : decode cX0_init 94 = .ok (.dup, 1) := by decide +kernel
theorem dX0_init_95 : decode cX0_init 95 = .ok (.iload_n 1, 1) := by decide +kernel
theorem dX0_init_96 : decode cX0_init 96 = .ok (.invokespecial 48, 3) := by decide +kernel
theorem dX0_init_99 : decode cX0_init 99 = .ok (.aastore, 1) := by decide +kernel
theorem dX0_init_100 : decode cX0_init 100 = .ok (.iinc 1 1, 3) := by decide +kernel
theorem dX0_init_103 : decode cX0_init 103 = .ok (.goto (-26), 3) := by decide +kernel
theorem dX0_init_106 : decode cX0_init 106 = .ok (.aload_n 0, 1) := by decide +kernel
theorem dX0_init_107 : decode cX0_init 107 = .ok (.bipush 60, 2) := by decide +kernel
theorem dX0_init_109 : decode cX0_init 109 = .ok (.anewarray 51, 3) := by decide +kernel
theorem dX0_init_112 : decode cX0_init 112 = .ok (.putfield 53, 3) := by decide +kernel
theorem dX0_init_115 : decode cX0_init 115 = .ok (.iconst 0, 1) := by decide +kernel
theorem dX0_init_116 : decode cX0_init 116 = .ok (.istore_n 1, 1) := by decide +kernel
theorem dX0_init_117 : decode cX0_init 117 = .ok (.iload_n 1, 1) := by decide +kernel
theorem dX0_init_118 : decode cX0_init 118 = .ok (.aload_n 0, 1) := by decide +kernel
theorem dX0_init_119 : decode cX0_init 119 = .ok (.getfield 53, 3) := by decide +kernel
theorem dX0_init_122 : decode cX0_init 122 = .ok (.arraylength, 1) := by decide +kernel
theorem dX0_init_123 : decode cX0_init 123 = .ok (.if_icmp .ge 23, 3) := by decide +kernel
theorem dX0_init_126 : decode cX0_init 126 = .ok (.aload_n 0, 1) := by decide +kernel
theorem dX0_init_127 : decode cX0_init 127 = .ok (.getfield 53, 3) := by decide +kernel
theorem dX0_init_130 : decode cX0_init 130 = .ok (.iload_n 1, 1) := by decide +kernel
theorem dX0_init_131 : decode cX0_init 131 = .ok (.new 51, 3) := by decide +kernel
theorem dX0_init_134 : decode cX0_init 134 = .ok (.dup, 1) := by decide +kernel
theorem dX0_init_135 : decode cX0_init 135 = .ok (.iload_n 1, 1) := by decide +kernel
theorem dX0_init_136 : decode cX0_init 136 = .ok (.invokespecial 57, 3) := by decide +kernel
theorem dX0_init_139 : decode cX0_init 139 = .ok (.aastore, 1) := by decide +kernel
theorem dX0_init_140 : decode cX0_init 140 = .ok (.iinc 1 1, 3) := by decide +kernel
theorem dX0_init_143 : decode cX0_init 143 = .ok (.goto (-26), 3) := by decide +kernel
theorem dX0_init_146 : decode cX0_init 146 = .ok (.aload_n 0, 1) := by decide +kernel
theorem dX0_init_147 : decode cX0_init 147 = .ok (.iconst 4, 1) := by decide +kernel
theorem dX0_init_148 : decode cX0_init 148 = .ok (.putfield 58, 3) := by decide +kernel
theorem dX0_init_151 : decode cX0_init 151 = .ok (.aload_n 0, 1) := by decide +kernel
theorem dX0_init_152 : decode cX0_init 152 = .ok (.iconst 0, 1) := by decide +kernel
theorem dX0_init_153 : decode cX0_init 153 = .ok (.putfield 61, 3) := by decide +kernel
theorem dX0_init_156 : decode cX0_init 156 = .ok (.aload_n 0, 1) := by decide +kernel
theorem dX0_init_157 : decode cX0_init 157 = .ok (.iconst 0, 1) := by decide +kernel
theorem dX0_init_158 : decode cX0_init 158 = .ok (.putfield 64, 3) := by decide +kernel
theorem dX0_init_161 : decode cX0_init 161 = .ok (.aload_n 0, 1) := by decide +kernel
theorem dX0_init_162 : decode cX0_init 162 = .ok (.iconst 0, 1) := by decide +kernel
theorem dX0_init_163 : decode cX0_init 163 = .ok (.putfield 67, 3) := by decide +kernel
theorem dX0_init_166 : decode cX0_init 166 = .ok (.return_, 1) := by decide +kernel
abbrev rmX0_init : Room := { frames := 3, cells := 73, slots := 852, locals := 65 }
def w_X0_init_L117 (n : Nat) (K : Mem → Prop) : Nat → Nat → Mem → Nat → Int32 → Prop
  | 0, _, _, _, _ => False
  | fuel + 1, k, M, o0, a1 => ((o0 ≤ k ∧ kd o0 = (0, 0)) ∧ (∀ r32, r32 = gR M o0 4 → ((r32 ≤ k ∧ 7 ≤ (kd r32).1 ∧ (kd r32).1 < 13) ∧ (((nI (kd r32).2) ≤ a1 → (∀ M33, M33 = sI M o0 6 (4 : Int32) → (∀ M34, M34 = sI M33 o0 7 (0 : Int32) → (∀ M35, M35 = sI M34 o0 8 (0 : Int32) → (∀ M36, M36 = sI M35 o0 9 (0 : Int32) → (k = n + 73 ∧ SL (n + 73) ≤ SL n + 852 ∧ K M36)))))) ∧ (¬ (nI (kd r32).2) ≤ a1 → (∀ r37, r37 = gR M o0 4 → ((kd (k + 1) = (2, 0) ∧ Al rmX0_init n k) ∧ (∀ M38, M38 = zr M (k + 1) → (∀ r39, r39 = (k + 1) → (((k + 1) - n + rmX2_init.cells ≤ rmX0_init.cells ∧ SL (k + 1) - SL n + rmX2_init.slots ≤ rmX0_init.slots) ∧ (¬ r39 = 0 ∧ w_X2_init (k + 1) M38 r39 a1 (fun M42 => ((r37 ≤ (k + 1) ∧ (10 ≤ (kd r37).1 ∧ (kd r37).1 < 13) ∧ vp_in a1 (kd r37).2 ∧ r39 ≤ (k + 1) ∧ kd r39 = (elC (kd r37).1, 0)) ∧ (∀ M43, M43 = sR M42 r37 (Int32.toNatClampNeg a1) r39 → (∀ x44, x44 = a1 + (1 : Int32) → w_X0_init_L117 n K fuel (k + 1) M43 o0 x44)))))))))))))))
def w_X0_init_L77 (n : Nat) (K : Mem → Prop) : Nat → Nat → Mem → Nat → Int32 → Prop
  | 0, _, _, _, _ => False
  | fuel + 1, k, M, o0, a1 => ((o0 ≤ k ∧ kd o0 = (0, 0)) ∧ (∀ r27, r27 = gR M o0 3 → ((r27 ≤ k ∧ 7 ≤ (kd r27).1 ∧ (kd r27).1 < 13) ∧ (((nI (kd r27).2) ≤ a1 → ((kd (k + 1) = (11, 60) ∧ Al rmX0_init n k) ∧ (∀ M28, M28 = zr M (k + 1) → ((o0 ≤ (k + 1) ∧ kd o0 = (0, 0)) ∧ (∀ M30, M30 = sR M28 o0 4 (k + 1) → w_X0_init_L117 n K 4000 (k + 1) M30 o0 (0 : Int32)))))) ∧ (¬ (nI (kd r27).2) ≤ a1 → (∀ r45, r45 = gR M o0 3 → ((kd (k + 1) = (1, 0) ∧ Al rmX0_init n k) ∧ (∀ M46, M46 = zr M (k + 1) → (∀ r47, r47 = (k + 1) → (((k + 1) - n + rmX1_init.cells ≤ rmX0_init.cells ∧ SL (k + 1) - SL n + rmX1_init.slots ≤ rmX0_init.slots) ∧ (¬ r47 = 0 ∧ w_X1_init (k + 1) M46 r47 a1 (fun M50 => ((r45 ≤ (k + 1) ∧ (10 ≤ (kd r45).1 ∧ (kd r45).1 < 13) ∧ vp_in a1 (kd r45).2 ∧ r47 ≤ (k + 1) ∧ kd r47 = (elC (kd r45).1, 0)) ∧ (∀ M51, M51 = sR M50 r45 (Int32.toNatClampNeg a1) r47 → (∀ x52, x52 = a1 + (1 : Int32) → w_X0_init_L77 n K fuel (k + 1) M51 o0 x52)))))))))))))))
def w_X0_init (n : Nat) (M : Mem) (t : Nat) (K : Mem → Prop) : Prop := (¬ t = 0 ∧ ((kd (n + 1) = (3, 0) ∧ Al rmX0_init n n) ∧ (∀ M1, M1 = zr M (n + 1) → (∀ r2, r2 = (n + 1) → (((n + 1) - n + rmX3_init.cells ≤ rmX0_init.cells ∧ SL (n + 1) - SL n + rmX3_init.slots ≤ rmX0_init.slots) ∧ (¬ r2 = 0 ∧ w_X3_init (n + 1) M1 r2 (4607182418800017408 : Int64) (4652007308841189376 : Int64) (4647503709213818880 : Int64) (fun M5 => ((t ≤ (n + 1) ∧ kd t = (0, 0)) ∧ (∀ M7, M7 = sR M5 t 0 r2 → ((kd (n + 1 + 1) = (3, 0) ∧ Al rmX0_init n (n + 1)) ∧ (∀ M8, M8 = zr M7 (n + 1 + 1) → (∀ r9, r9 = (n + 1 + 1) → (((n + 1 + 1) - n + rmX3_init.cells ≤ rmX0_init.cells ∧ SL (n + 1 + 1) - SL n + rmX3_init.slots ≤ rmX0_init.slots) ∧ (¬ r9 = 0 ∧ w_X3_init (n + 1 + 1) M8 r9 (0 : Int64) (4696837146684686336 : Int64) (4626322717216342016 : Int64) (fun M12 => ((t ≤ (n + 1 + 1) ∧ kd t = (0, 0)) ∧ (∀ M14, M14 = sR M12 t 1 r9 → ((kd (n + 1 + 1 + 1) = (3, 0) ∧ Al rmX0_init n (n + 1 + 1)) ∧ (∀ M15, M15 = zr M14 (n + 1 + 1 + 1) → (∀ r16, r16 = (n + 1 + 1 + 1) → (((n + 1 + 1 + 1) - n + rmX3_init.cells ≤ rmX0_init.cells ∧ SL (n + 1 + 1 + 1) - SL n + rmX3_init.slots ≤ rmX0_init.slots) ∧ (¬ r16 = 0 ∧ w_X3_init (n + 1 + 1 + 1) M15 r16 (0 : Int64) (4696837146684686336 : Int64) (4629137466983448576 : Int64) (fun M19 => ((t ≤ (n + 1 + 1 + 1) ∧ kd t = (0, 0)) ∧ (∀ M21, M21 = sR M19 t 2 r16 → (∀ M22, M22 = sI M21 t 5 (20 : Int32) → ((kd (n + 1 + 1 + 1 + 1) = (10, 8) ∧ Al rmX0_init n (n + 1 + 1 + 1)) ∧ (∀ M23, M23 = zr M22 (n + 1 + 1 + 1 + 1) → ((t ≤ (n + 1 + 1 + 1 + 1) ∧ kd t = (0, 0)) ∧ (∀ M25, M25 = sR M23 t 3 (n + 1 + 1 + 1 + 1) → w_X0_init_L77 n K 4000 (n + 1 + 1 + 1 + 1) M25 t (0 : Int32)))))))))))))))))))))))))))))))
set_option maxHeartbeats 4000000 in
set_option maxRecDepth 20000 in
theorem c_X0_init (l : Launch) (E : Gl) (n : Nat) (M : Mem) (t : Nat) (K : Mem → Prop) (hw : w_X0_init n M t K) : CT E l yX0_init cX0_init 2 none rmX0_init n M [rV t] (PV E (n + 73) K) := by
  refine g_met l (by decide) (Nat.le_of_ble_eq_true rfl) ?_
  intro p e s m args below meth c X hr hlk hnm hSz hOld
  change CX E p s m c _ _ RX0 at X
  have L117 : ∀ (fuel117 : Nat) (k : Nat) (M : Mem) (o0 : Nat) (a1 : Int32), w_X0_init_L117 n K fuel117 k M o0 a1 → G E p l e rmX0_init s m args below meth c 2 k M (k - n) (SL k - SL n) (MQD lw_cs below (PV E (n + 73) K) args s rmX0_init.cells rmX0_init.slots (Ab E)) 117 [(0, rV o0), (1, iV a1)] [] := by
    intro fuel117
    induction fuel117 with
    | zero => intro k M o0 a1 hw; exact False.elim hw
    | succ fuel117 ih117 =>
      intro k M o0 a1 hw
      unfold w_X0_init_L117 at hw
      refine g_iload_n X dX0_init_117 1 rfl ?_
      refine g_aload_n X dX0_init_118 0 rfl ?_
      obtain ⟨hk31, hw⟩ := hw
      refine g_get X (rV (gR M o0 4)) dX0_init_119 fl_X0_53 (fun _ => rfl) ⟨hk31, hw⟩ (fun hw => ?_)
      refine g_topR (fun r32 hr32 => ?_)
      have hw := hw r32 hr32
      refine g_alen X dX0_init_122 hw (fun hw => ?_)
      refine g_icmp_ge X 146 dX0_init_123 (by decide) hw (fun hw => ?_) (fun hw => ?_)
      · refine g_aload_n X dX0_init_146 0 rfl ?_
        refine g_iconst X (4 : Int32) dX0_init_147 (by decide) ?_
        refine g_putI X dX0_init_148 fl_X0_58 rfl (Or.inl rfl) ⟨hk31, hw⟩ (fun hw => ?_)
        refine g_topM (fun M33 hM33 => ?_)
        have hw := hw M33 hM33
        refine g_aload_n X dX0_init_151 0 rfl ?_
        refine g_iconst X (0 : Int32) dX0_init_152 (by decide) ?_
        refine g_putI X dX0_init_153 fl_X0_61 rfl (Or.inl rfl) ⟨hk31, hw⟩ (fun hw => ?_)
        refine g_topM (fun M34 hM34 => ?_)
        have hw := hw M34 hM34
        refine g_aload_n X dX0_init_156 0 rfl ?_
        refine g_iconst X (0 : Int32) dX0_init_157 (by decide) ?_
        refine g_putI X dX0_init_158 fl_X0_64 rfl (Or.inl rfl) ⟨hk31, hw⟩ (fun hw => ?_)
        refine g_topM (fun M35 hM35 => ?_)
        have hw := hw M35 hM35
        refine g_aload_n X dX0_init_161 0 rfl ?_
        refine g_iconst X (0 : Int32) dX0_init_162 (by decide) ?_
        refine g_putI X dX0_init_163 fl_X0_67 rfl (Or.inl rfl) ⟨hk31, hw⟩ (fun hw => ?_)
        refine g_topM (fun M36 hM36 => ?_)
        have hw := hw M36 hM36
        obtain ⟨he, hs, hw⟩ := hw
        rw [he]
        refine g_widen (k := rmX0_init.cells) (z := rmX0_init.slots) (by show n + 73 - n ≤ 73; omega) (by show SL (n + 73) - SL n ≤ 852; omega) ?_
        exact g_vret (n := n) X hr hlk hSz hOld (Nat.le_add_right _ _) dX0_init_166 hw
      · refine g_aload_n X dX0_init_126 0 rfl ?_
        refine g_get X (rV (gR M o0 4)) dX0_init_127 fl_X0_53 (fun _ => rfl) ⟨hk31, hw⟩ (fun hw => ?_)
        refine g_topR (fun r37 hr37 => ?_)
        have hw := hw r37 hr37
        refine g_iload_n X dX0_init_130 1 rfl ?_
        refine g_new (ci := 2) X dX0_init_131 (by decide) ⟨wl_X0_51, wx_X2, wi_X2⟩ hw (fun hw => ?_)
        refine g_topM (fun M38 hM38 => ?_)
        have hw := hw M38 hM38
        refine g_topR (fun r39 hr39 => ?_)
        have hw := hw r39 hr39
        refine g_dup X dX0_init_134 rfl ?_
        refine g_iload_n X dX0_init_135 1 rfl ?_
        obtain ⟨hA40, hw⟩ := hw
        obtain ⟨h041, hw⟩ := hw
        refine g_callv (pc' := 139) (rest := [rV r39, iV a1, rV r37]) rfl (fun H locs ls d qR qL => g_runI X cw_X0_57 ⟨rfl, wn_X2_init⟩ ⟨Nat.le_of_ble_eq_true rfl, Nat.le_of_ble_eq_true rfl⟩ dX0_init_136 (c_X2_init l E (k + 1) M38 r39 a1 _ hw) h041 rfl rfl (Nat.le_of_ble_eq_true rfl) hA40 qR qL) (fun M42 hw => ?_)
        refine g_widen (k := (k + 1) - n) (z := SL (k + 1) - SL n) (Nat.le_of_eq (Nat.add_zero _)) (Nat.le_of_eq (Nat.add_zero _)) ?_
        refine g_aast X dX0_init_139 hw (fun hw => ?_)
        refine g_topM (fun M43 hM43 => ?_)
        have hw := hw M43 hM43
        obtain ⟨x44, hx44⟩ : ∃ y : Int32, y = a1 + (1 : Int32) := ⟨_, rfl⟩
        have hw := hw x44 hx44
        refine g_iinc (lv' := [(1, iV x44), (0, rV o0)]) X x44 dX0_init_140 1 rfl (by rw [hx44]; rfl) (by decide) rfl ?_
        refine g_goto X 117 dX0_init_143 (by decide) ?_
        refine g_lvsub (lv' := [(0, rV o0), (1, iV x44)]) [1, 0] rfl ?_
        exact ih117 _ _ _ _ hw
  have L77 : ∀ (fuel77 : Nat) (k : Nat) (M : Mem) (o0 : Nat) (a1 : Int32), w_X0_init_L77 n K fuel77 k M o0 a1 → G E p l e rmX0_init s m args below meth c 2 k M (k - n) (SL k - SL n) (MQD lw_cs below (PV E (n + 73) K) args s rmX0_init.cells rmX0_init.slots (Ab E)) 77 [(0, rV o0), (1, iV a1)] [] := by
    intro fuel77
    induction fuel77 with
    | zero => intro k M o0 a1 hw; exact False.elim hw
    | succ fuel77 ih77 =>
      intro k M o0 a1 hw
      unfold w_X0_init_L77 at hw
      refine g_iload_n X dX0_init_77 1 rfl ?_
      refine g_aload_n X dX0_init_78 0 rfl ?_
      obtain ⟨hk26, hw⟩ := hw
      refine g_get X (rV (gR M o0 3)) dX0_init_79 fl_X0_44 (fun _ => rfl) ⟨hk26, hw⟩ (fun hw => ?_)
      refine g_topR (fun r27 hr27 => ?_)
      have hw := hw r27 hr27
      refine g_alen X dX0_init_82 hw (fun hw => ?_)
      refine g_icmp_ge X 106 dX0_init_83 (by decide) hw (fun hw => ?_) (fun hw => ?_)
      · refine g_aload_n X dX0_init_106 0 rfl ?_
        refine g_bipush X (60 : Int32) dX0_init_107 (by decide) ?_
        refine g_anew X 11 60 dX0_init_109 (by decide) wl_X0_51 ⟨by decide, by decide⟩ hw (fun hw => ?_)
        refine g_topM (fun M28 hM28 => ?_)
        have hw := hw M28 hM28
        obtain ⟨hk29, hw⟩ := hw
        refine g_putR X dX0_init_112 fl_X0_53 (Or.inr ⟨_, rfl⟩) (Or.inr ⟨rfl, hnm, rfl⟩) ⟨hk29, hw⟩ (fun hw => ?_)
        refine g_topM (fun M30 hM30 => ?_)
        have hw := hw M30 hM30
        refine g_iconst X (0 : Int32) dX0_init_115 (by decide) ?_
        refine g_istore_n (lv' := [(1, iV (0 : Int32)), (0, rV o0)]) X dX0_init_116 (by decide) rfl ?_
        refine g_lvsub (lv' := [(0, rV o0), (1, iV (0 : Int32))]) [1, 0] rfl ?_
        exact L117 _ _ _ _ _ hw
      · refine g_aload_n X dX0_init_86 0 rfl ?_
        refine g_get X (rV (gR M o0 3)) dX0_init_87 fl_X0_44 (fun _ => rfl) ⟨hk26, hw⟩ (fun hw => ?_)
        refine g_topR (fun r45 hr45 => ?_)
        have hw := hw r45 hr45
        refine g_iload_n X dX0_init_90 1 rfl ?_
        refine g_new (ci := 1) X dX0_init_91 (by decide) ⟨wl_X0_42, wx_X1, wi_X1⟩ hw (fun hw => ?_)
        refine g_topM (fun M46 hM46 => ?_)
        have hw := hw M46 hM46
        refine g_topR (fun r47 hr47 => ?_)
        have hw := hw r47 hr47
        refine g_dup X dX0_init_94 rfl ?_
        refine g_iload_n X dX0_init_95 1 rfl ?_
        obtain ⟨hA48, hw⟩ := hw
        obtain ⟨h049, hw⟩ := hw
        refine g_callv (pc' := 99) (rest := [rV r47, iV a1, rV r45]) rfl (fun H locs ls d qR qL => g_runI X cw_X0_48 ⟨rfl, wn_X1_init⟩ ⟨Nat.le_of_ble_eq_true rfl, Nat.le_of_ble_eq_true rfl⟩ dX0_init_96 (c_X1_init l E (k + 1) M46 r47 a1 _ hw) h049 rfl rfl (Nat.le_of_ble_eq_true rfl) hA48 qR qL) (fun M50 hw => ?_)
        refine g_widen (k := (k + 1) - n) (z := SL (k + 1) - SL n) (Nat.le_of_eq (Nat.add_zero _)) (Nat.le_of_eq (Nat.add_zero _)) ?_
        refine g_aast X dX0_init_99 hw (fun hw => ?_)
        refine g_topM (fun M51 hM51 => ?_)
        have hw := hw M51 hM51
        obtain ⟨x52, hx52⟩ : ∃ y : Int32, y = a1 + (1 : Int32) := ⟨_, rfl⟩
        have hw := hw x52 hx52
        refine g_iinc (lv' := [(1, iV x52), (0, rV o0)]) X x52 dX0_init_100 1 rfl (by rw [hx52]; rfl) (by decide) rfl ?_
        refine g_goto X 77 dX0_init_103 (by decide) ?_
        refine g_lvsub (lv' := [(0, rV o0), (1, iV x52)]) [1, 0] rfl ?_
        exact ih77 _ _ _ _ hw
  refine g_widen (k := n - n) (z := SL n - SL n) (Nat.zero_le _) (Nat.zero_le _) ?_
  unfold w_X0_init at hw
  refine g_aload_n X dX0_init_0 0 rfl ?_
  refine g_objInit X wm_X0_3 ⟨wn_obj, wc_obj⟩ dX0_init_1 (by decide) (by decide) hw (fun hw => ?_)
  refine g_aload_n X dX0_init_4 0 rfl ?_
  refine g_new (ci := 3) X dX0_init_5 (by decide) ⟨wl_X0_9, wx_X3, wi_X3⟩ hw (fun hw => ?_)
  refine g_topM (fun M1 hM1 => ?_)
  have hw := hw M1 hM1
  refine g_topR (fun r2 hr2 => ?_)
  have hw := hw r2 hr2
  refine g_dup X dX0_init_8 rfl ?_
  refine g_ldcL X (4607182418800017408 : Int64) dX0_init_9 wk_X0_11 ?_
  refine g_ldcL X (4652007308841189376 : Int64) dX0_init_12 wk_X0_13 ?_
  refine g_ldcL X (4647503709213818880 : Int64) dX0_init_15 wk_X0_15 ?_
  obtain ⟨hA3, hw⟩ := hw
  obtain ⟨h04, hw⟩ := hw
  refine g_callv (pc' := 21) (rest := [rV r2, rV t]) rfl (fun H locs ls d qR qL => g_runI X cw_X0_17 ⟨rfl, wn_X3_init⟩ ⟨Nat.le_of_ble_eq_true rfl, Nat.le_of_ble_eq_true rfl⟩ dX0_init_18 (c_X3_init l E (n + 1) M1 r2 (4607182418800017408 : Int64) (4652007308841189376 : Int64) (4647503709213818880 : Int64) _ hw) h04 rfl rfl (Nat.le_of_ble_eq_true rfl) hA3 qR qL) (fun M5 hw => ?_)
  refine g_widen (k := (n + 1) - n) (z := SL (n + 1) - SL n) (Nat.le_of_eq (Nat.add_zero _)) (Nat.le_of_eq (Nat.add_zero _)) ?_
  obtain ⟨hk6, hw⟩ := hw
  refine g_putR X dX0_init_21 fl_X0_20 (Or.inl ⟨_, rfl⟩) (Or.inr ⟨rfl, hnm, rfl⟩) ⟨hk6, hw⟩ (fun hw => ?_)
  refine g_topM (fun M7 hM7 => ?_)
  have hw := hw M7 hM7
  refine g_aload_n X dX0_init_24 0 rfl ?_
  refine g_new (ci := 3) X dX0_init_25 (by decide) ⟨wl_X0_9, wx_X3, wi_X3⟩ hw (fun hw => ?_)
  refine g_topM (fun M8 hM8 => ?_)
  have hw := hw M8 hM8
  refine g_topR (fun r9 hr9 => ?_)
  have hw := hw r9 hr9
  refine g_dup X dX0_init_28 rfl ?_
  refine g_lconst X (0 : Int64) dX0_init_29 (by decide) ?_
  refine g_ldcL X (4696837146684686336 : Int64) dX0_init_30 wk_X0_26 ?_
  refine g_ldcL X (4626322717216342016 : Int64) dX0_init_33 wk_X0_28 ?_
  obtain ⟨hA10, hw⟩ := hw
  obtain ⟨h011, hw⟩ := hw
  refine g_callv (pc' := 39) (rest := [rV r9, rV t]) rfl (fun H locs ls d qR qL => g_runI X cw_X0_17 ⟨rfl, wn_X3_init⟩ ⟨Nat.le_of_ble_eq_true rfl, Nat.le_of_ble_eq_true rfl⟩ dX0_init_36 (c_X3_init l E (n + 1 + 1) M8 r9 (0 : Int64) (4696837146684686336 : Int64) (4626322717216342016 : Int64) _ hw) h011 rfl rfl (Nat.le_of_ble_eq_true rfl) hA10 qR qL) (fun M12 hw => ?_)
  refine g_widen (k := (n + 1 + 1) - n) (z := SL (n + 1 + 1) - SL n) (Nat.le_of_eq (Nat.add_zero _)) (Nat.le_of_eq (Nat.add_zero _)) ?_
  obtain ⟨hk13, hw⟩ := hw
  refine g_putR X dX0_init_39 fl_X0_30 (Or.inl ⟨_, rfl⟩) (Or.inr ⟨rfl, hnm, rfl⟩) ⟨hk13, hw⟩ (fun hw => ?_)
  refine g_topM (fun M14 hM14 => ?_)
  have hw := hw M14 hM14
  refine g_aload_n X dX0_init_42 0 rfl ?_
  refine g_new (ci := 3) X dX0_init_43 (by decide) ⟨wl_X0_9, wx_X3, wi_X3⟩ hw (fun hw => ?_)
  refine g_topM (fun M15 hM15 => ?_)
  have hw := hw M15 hM15
  refine g_topR (fun r16 hr16 => ?_)
  have hw := hw r16 hr16
  refine g_dup X dX0_init_46 rfl ?_
  refine g_lconst X (0 : Int64) dX0_init_47 (by decide) ?_
  refine g_ldcL X (4696837146684686336 : Int64) dX0_init_48 wk_X0_26 ?_
  refine g_ldcL X (4629137466983448576 : Int64) dX0_init_51 wk_X0_33 ?_
  obtain ⟨hA17, hw⟩ := hw
  obtain ⟨h018, hw⟩ := hw
  refine g_callv (pc' := 57) (rest := [rV r16, rV t]) rfl (fun H locs ls d qR qL => g_runI X cw_X0_17 ⟨rfl, wn_X3_init⟩ ⟨Nat.le_of_ble_eq_true rfl, Nat.le_of_ble_eq_true rfl⟩ dX0_init_54 (c_X3_init l E (n + 1 + 1 + 1) M15 r16 (0 : Int64) (4696837146684686336 : Int64) (4629137466983448576 : Int64) _ hw) h018 rfl rfl (Nat.le_of_ble_eq_true rfl) hA17 qR qL) (fun M19 hw => ?_)
  refine g_widen (k := (n + 1 + 1 + 1) - n) (z := SL (n + 1 + 1 + 1) - SL n) (Nat.le_of_eq (Nat.add_zero _)) (Nat.le_of_eq (Nat.add_zero _)) ?_
  obtain ⟨hk20, hw⟩ := hw
  refine g_putR X dX0_init_57 fl_X0_35 (Or.inl ⟨_, rfl⟩) (Or.inr ⟨rfl, hnm, rfl⟩) ⟨hk20, hw⟩ (fun hw => ?_)
  refine g_topM (fun M21 hM21 => ?_)
  have hw := hw M21 hM21
  refine g_aload_n X dX0_init_60 0 rfl ?_
  refine g_bipush X (20 : Int32) dX0_init_61 (by decide) ?_
  refine g_putI X dX0_init_63 fl_X0_38 rfl (Or.inl rfl) ⟨hk20, hw⟩ (fun hw => ?_)
  refine g_topM (fun M22 hM22 => ?_)
  have hw := hw M22 hM22
  refine g_aload_n X dX0_init_66 0 rfl ?_
  refine g_bipush X (8 : Int32) dX0_init_67 (by decide) ?_
  refine g_anew X 10 8 dX0_init_69 (by decide) wl_X0_42 ⟨by decide, by decide⟩ hw (fun hw => ?_)
  refine g_topM (fun M23 hM23 => ?_)
  have hw := hw M23 hM23
  obtain ⟨hk24, hw⟩ := hw
  refine g_putR X dX0_init_72 fl_X0_44 (Or.inr ⟨_, rfl⟩) (Or.inr ⟨rfl, hnm, rfl⟩) ⟨hk24, hw⟩ (fun hw => ?_)
  refine g_topM (fun M25 hM25 => ?_)
  have hw := hw M25 hM25
  refine g_iconst X (0 : Int32) dX0_init_75 (by decide) ?_
  refine g_istore_n (lv' := [(1, iV (0 : Int32)), (0, rV t)]) X dX0_init_76 (by decide) rfl ?_
  refine g_lvsub (lv' := [(0, rV t), (1, iV (0 : Int32))]) [1, 0] rfl ?_
  exact L77 _ _ _ _ _ hw
theorem dX0_begin_0 : decode cX0_begin 0 = .ok (.aload_n 0, 1) := by decide +kernel
theorem dX0_begin_1 : decode cX0_begin 1 = .ok (.getfield 44, 3) := by decide +kernel
theorem dX0_begin_4 : decode cX0_begin 4 = .ok (.astore_n 2, 1) := by decide +kernel
theorem dX0_begin_5 : decode cX0_begin 5 = .ok (.aload_n 2, 1) := by decide +kernel
theorem dX0_begin_6 : decode cX0_begin 6 = .ok (.arraylength, 1) := by decide +kernel
theorem dX0_begin_7 : decode cX0_begin 7 = .ok (.istore_n 3, 1) := by decide +kernel
theorem dX0_begin_8 : decode cX0_begin 8 = .ok (.iconst 0, 1) := by decide +kernel
theorem dX0_begin_9 : decode cX0_begin 9 = .ok (.istore 4, 2) := by decide +kernel
theorem dX0_begin_11 : decode cX0_begin 11 = .ok (.iload 4, 2) := by decide +kernel
theorem dX0_begin_13 : decode cX0_begin 13 = .ok (.iload_n 3, 1) := by decide +kernel
theorem dX0_begin_14 : decode cX0_begin 14 = .ok (.if_icmp .ge 20, 3) := by decide +kernel
theorem dX0_begin_17 : decode cX0_begin 17 = .ok (.aload_n 2, 1) := by decide +kernel
theorem dX0_begin_18 : decode cX0_begin 18 = .ok (.iload 4, 2) := by decide +kernel
theorem dX0_begin_20 : decode cX0_begin 20 = .ok (.aaload, 1) := by decide +kernel
theorem dX0_begin_21 : decode cX0_begin 21 = .ok (.astore 5, 2) := by decide +kernel
theorem dX0_begin_23 : decode cX0_begin 23 = .ok (.aload 5, 2) := by decide +kernel
theorem dX0_begin_25 : decode cX0_begin 25 = .ok (.invokevirtual 70, 3) := by decide +kernel
theorem dX0_begin_28 : decode cX0_begin 28 = .ok (.iinc 4 1, 3) := by decide +kernel
theorem dX0_begin_31 : decode cX0_begin 31 = .ok (.goto (-20), 3) := by decide +kernel
theorem dX0_begin_34 : decode cX0_begin 34 = .ok (.aload_n 0, 1) := by decide +kernel
theorem dX0_begin_35 : decode cX0_begin 35 = .ok (.getfield 53, 3) := by decide +kernel
theorem dX0_begin_38 : decode cX0_begin 38 = .ok (.astore_n 2, 1) := by decide +kernel
theorem dX0_begin_39 : decode cX0_begin 39 = .ok (.aload_n 2, 1) := by decide +kernel
theorem dX0_begin_40 : decode cX0_begin 40 = .ok (.arraylength, 1) := by decide +kernel
theorem dX0_begin_41 : decode cX0_begin 41 = .ok (.istore_n 3, 1) := by decide +kernel
theorem dX0_begin_42 : decode cX0_begin 42 = .ok (.iconst 0, 1) := by decide +kernel
theorem dX0_begin_43 : decode cX0_begin 43 = .ok (.istore 4, 2) := by decide +kernel
theorem dX0_begin_45 : decode cX0_begin 45 = .ok (.iload 4, 2) := by decide +kernel
theorem dX0_begin_47 : decode cX0_begin 47 = .ok (.iload_n 3, 1) := by decide +kernel
theorem dX0_begin_48 : decode cX0_begin 48 = .ok (.if_icmp .ge 20, 3) := by decide +kernel
theorem dX0_begin_51 : decode cX0_begin 51 = .ok (.aload_n 2, 1) := by decide +kernel
theorem dX0_begin_52 : decode cX0_begin 52 = .ok (.iload 4, 2) := by decide +kernel
theorem dX0_begin_54 : decode cX0_begin 54 = .ok (.aaload, 1) := by decide +kernel
theorem dX0_begin_55 : decode cX0_begin 55 = .ok (.astore 5, 2) := by decide +kernel
theorem dX0_begin_57 : decode cX0_begin 57 = .ok (.aload 5, 2) := by decide +kernel
theorem dX0_begin_59 : decode cX0_begin 59 = .ok (.invokevirtual 73, 3) := by decide +kernel
theorem dX0_begin_62 : decode cX0_begin 62 = .ok (.iinc 4 1, 3) := by decide +kernel
theorem dX0_begin_65 : decode cX0_begin 65 = .ok (.goto (-20), 3) := by decide +kernel
theorem dX0_begin_68 : decode cX0_begin 68 = .ok (.aload_n 0, 1) := by decide +kernel
theorem dX0_begin_69 : decode cX0_begin 69 = .ok (.iload_n 1, 1) := by decide +kernel
theorem dX0_begin_70 : decode cX0_begin 70 = .ok (.putfield 58, 3) := by decide +kernel
theorem dX0_begin_73 : decode cX0_begin 73 = .ok (.aload_n 0, 1) := by decide +kernel
theorem dX0_begin_74 : decode cX0_begin 74 = .ok (.iconst 0, 1) := by decide +kernel
theorem dX0_begin_75 : decode cX0_begin 75 = .ok (.putfield 61, 3) := by decide +kernel
theorem dX0_begin_78 : decode cX0_begin 78 = .ok (.aload_n 0, 1) := by decide +kernel
theorem dX0_begin_79 : decode cX0_begin 79 = .ok (.iconst 0, 1) := by decide +kernel
theorem dX0_begin_80 : decode cX0_begin 80 = .ok (.putfield 64, 3) := by decide +kernel
theorem dX0_begin_83 : decode cX0_begin 83 = .ok (.aload_n 0, 1) := by decide +kernel
theorem dX0_begin_84 : decode cX0_begin 84 = .ok (.iconst 0, 1) := by decide +kernel
theorem dX0_begin_85 : decode cX0_begin 85 = .ok (.putfield 67, 3) := by decide +kernel
theorem dX0_begin_88 : decode cX0_begin 88 = .ok (.return_, 1) := by decide +kernel
abbrev rmX0_begin : Room := { frames := 2, cells := 0, slots := 0, locals := 44 }
def w_X0_begin_L45 (n : Nat) (K : Mem → Prop) : Nat → Mem → Nat → Int32 → Nat → Int32 → Int32 → Prop
  | 0, _, _, _, _, _, _ => False
  | fuel + 1, M, o0, a1, o2, a3, a4 => ((a3 ≤ a4 → ((o0 ≤ n ∧ kd o0 = (0, 0)) ∧ (∀ M8, M8 = sI M o0 6 a1 → (∀ M9, M9 = sI M8 o0 7 (0 : Int32) → (∀ M10, M10 = sI M9 o0 8 (0 : Int32) → (∀ M11, M11 = sI M10 o0 9 (0 : Int32) → K M11)))))) ∧ (¬ a3 ≤ a4 → ((o2 ≤ n ∧ (10 ≤ (kd o2).1 ∧ (kd o2).1 < 13) ∧ vp_in a4 (kd o2).2) ∧ (∀ r12, r12 = gR M o2 (Int32.toNatClampNeg a4) → ((r12 ≤ n ∧ kd r12 = (2, 0)) ∧ w_X2_beAbsent n M r12  (fun M14 => (∀ x15, x15 = a4 + (1 : Int32) → w_X0_begin_L45 n K fuel M14 o0 a1 o2 a3 x15)))))))
def w_X0_begin_L11 (n : Nat) (K : Mem → Prop) : Nat → Mem → Nat → Int32 → Nat → Int32 → Int32 → Prop
  | 0, _, _, _, _, _, _ => False
  | fuel + 1, M, o0, a1, o2, a3, a4 => ((a3 ≤ a4 → ((o0 ≤ n ∧ kd o0 = (0, 0)) ∧ (∀ r5, r5 = gR M o0 4 → ((r5 ≤ n ∧ 7 ≤ (kd r5).1 ∧ (kd r5).1 < 13) ∧ (∀ x6, x6 = nI (kd r5).2 → w_X0_begin_L45 n K 4000 M o0 a1 r5 x6 (0 : Int32)))))) ∧ (¬ a3 ≤ a4 → ((o2 ≤ n ∧ (10 ≤ (kd o2).1 ∧ (kd o2).1 < 13) ∧ vp_in a4 (kd o2).2) ∧ (∀ r16, r16 = gR M o2 (Int32.toNatClampNeg a4) → ((r16 ≤ n ∧ kd r16 = (1, 0)) ∧ w_X1_begin n M r16  (fun M18 => (∀ x19, x19 = a4 + (1 : Int32) → w_X0_begin_L11 n K fuel M18 o0 a1 o2 a3 x19)))))))
def w_X0_begin (n : Nat) (M : Mem) (t : Nat) (p1 : Int32) (K : Mem → Prop) : Prop := ((t ≤ n ∧ kd t = (0, 0)) ∧ (∀ r2, r2 = gR M t 3 → ((r2 ≤ n ∧ 7 ≤ (kd r2).1 ∧ (kd r2).1 < 13) ∧ (∀ x3, x3 = nI (kd r2).2 → w_X0_begin_L11 n K 4000 M t p1 r2 x3 (0 : Int32)))))
set_option maxHeartbeats 4000000 in
set_option maxRecDepth 20000 in
theorem c_X0_begin (l : Launch) (E : Gl) (n : Nat) (M : Mem) (t : Nat) (p1 : Int32) (K : Mem → Prop) (hw : w_X0_begin n M t p1 K) : CT E l yX0_begin cX0_begin 6 none rmX0_begin n M [rV t, iV p1] (PV E n K) := by
  refine g_met l (by decide) (Nat.le_of_ble_eq_true rfl) ?_
  intro p e s m args below meth c X hr hlk hnm hSz hOld
  change CX E p s m c _ _ RX0 at X
  have L45 : ∀ (fuel45 : Nat) (M : Mem) (o0 : Nat) (a1 : Int32) (o2 : Nat) (a3 : Int32) (a4 : Int32), w_X0_begin_L45 n K fuel45 M o0 a1 o2 a3 a4 → G E p l e rmX0_begin s m args below meth c 6 n M 0 0 (MQD lw_cs below (PV E n K) args s rmX0_begin.cells rmX0_begin.slots (Ab E)) 45 [(0, rV o0), (1, iV a1), (2, rV o2), (3, iV a3), (4, iV a4)] [] := by
    intro fuel45
    induction fuel45 with
    | zero => intro M o0 a1 o2 a3 a4 hw; exact False.elim hw
    | succ fuel45 ih45 =>
      intro M o0 a1 o2 a3 a4 hw
      unfold w_X0_begin_L45 at hw
      refine g_iload X dX0_begin_45 4 rfl ?_
      refine g_iload_n X dX0_begin_47 3 rfl ?_
      refine g_icmp_ge X 68 dX0_begin_48 (by decide) hw (fun hw => ?_) (fun hw => ?_)
      · refine g_aload_n X dX0_begin_68 0 rfl ?_
        refine g_iload_n X dX0_begin_69 1 rfl ?_
        obtain ⟨hk7, hw⟩ := hw
        refine g_putI X dX0_begin_70 fl_X0_58 rfl (Or.inl rfl) ⟨hk7, hw⟩ (fun hw => ?_)
        refine g_topM (fun M8 hM8 => ?_)
        have hw := hw M8 hM8
        refine g_aload_n X dX0_begin_73 0 rfl ?_
        refine g_iconst X (0 : Int32) dX0_begin_74 (by decide) ?_
        refine g_putI X dX0_begin_75 fl_X0_61 rfl (Or.inl rfl) ⟨hk7, hw⟩ (fun hw => ?_)
        refine g_topM (fun M9 hM9 => ?_)
        have hw := hw M9 hM9
        refine g_aload_n X dX0_begin_78 0 rfl ?_
        refine g_iconst X (0 : Int32) dX0_begin_79 (by decide) ?_
        refine g_putI X dX0_begin_80 fl_X0_64 rfl (Or.inl rfl) ⟨hk7, hw⟩ (fun hw => ?_)
        refine g_topM (fun M10 hM10 => ?_)
        have hw := hw M10 hM10
        refine g_aload_n X dX0_begin_83 0 rfl ?_
        refine g_iconst X (0 : Int32) dX0_begin_84 (by decide) ?_
        refine g_putI X dX0_begin_85 fl_X0_67 rfl (Or.inl rfl) ⟨hk7, hw⟩ (fun hw => ?_)
        refine g_topM (fun M11 hM11 => ?_)
        have hw := hw M11 hM11
        exact g_vret X hr hlk hSz hOld (Nat.le_refl _) dX0_begin_88 hw
      · refine g_aload_n X dX0_begin_51 2 rfl ?_
        refine g_iload X dX0_begin_52 4 rfl ?_
        refine g_aald X dX0_begin_54 hw (fun hw => ?_)
        refine g_topR (fun r12 hr12 => ?_)
        have hw := hw r12 hr12
        refine g_astore (lv' := [(5, rV r12), (0, rV o0), (1, iV a1), (2, rV o2), (3, iV a3), (4, iV a4)]) X dX0_begin_55 (by decide) rfl ?_
        refine g_aload X dX0_begin_57 0 rfl ?_
        obtain ⟨hk13, hw⟩ := hw
        refine g_callv (pc' := 62) (rest := []) rfl (fun H locs ls d qR qL => g_runV X cw_X0_73 iv_X2_beAbsent ⟨Nat.le_of_ble_eq_true rfl, Nat.le_of_ble_eq_true rfl⟩ dX0_begin_59 (c_X2_beAbsent l E n M r12  _ hw) hk13 rfl rfl (Nat.le_of_ble_eq_true rfl) ⟨Nat.le_of_ble_eq_true rfl, Nat.le_of_ble_eq_true rfl⟩ qR qL) (fun M14 hw => ?_)
        obtain ⟨x15, hx15⟩ : ∃ y : Int32, y = a4 + (1 : Int32) := ⟨_, rfl⟩
        have hw := hw x15 hx15
        refine g_iinc (lv' := [(4, iV x15), (5, rV r12), (0, rV o0), (1, iV a1), (2, rV o2), (3, iV a3)]) X x15 dX0_begin_62 5 rfl (by rw [hx15]; rfl) (by decide) rfl ?_
        refine g_goto X 45 dX0_begin_65 (by decide) ?_
        refine g_lvsub (lv' := [(0, rV o0), (1, iV a1), (2, rV o2), (3, iV a3), (4, iV x15)]) [2, 3, 4, 5, 0] rfl ?_
        exact ih45 _ _ _ _ _ _ hw
  have L11 : ∀ (fuel11 : Nat) (M : Mem) (o0 : Nat) (a1 : Int32) (o2 : Nat) (a3 : Int32) (a4 : Int32), w_X0_begin_L11 n K fuel11 M o0 a1 o2 a3 a4 → G E p l e rmX0_begin s m args below meth c 6 n M 0 0 (MQD lw_cs below (PV E n K) args s rmX0_begin.cells rmX0_begin.slots (Ab E)) 11 [(0, rV o0), (1, iV a1), (2, rV o2), (3, iV a3), (4, iV a4)] [] := by
    intro fuel11
    induction fuel11 with
    | zero => intro M o0 a1 o2 a3 a4 hw; exact False.elim hw
    | succ fuel11 ih11 =>
      intro M o0 a1 o2 a3 a4 hw
      unfold w_X0_begin_L11 at hw
      refine g_iload X dX0_begin_11 4 rfl ?_
      refine g_iload_n X dX0_begin_13 3 rfl ?_
      refine g_icmp_ge X 34 dX0_begin_14 (by decide) hw (fun hw => ?_) (fun hw => ?_)
      · refine g_aload_n X dX0_begin_34 0 rfl ?_
        obtain ⟨hk4, hw⟩ := hw
        refine g_get X (rV (gR M o0 4)) dX0_begin_35 fl_X0_53 (fun _ => rfl) ⟨hk4, hw⟩ (fun hw => ?_)
        refine g_topR (fun r5 hr5 => ?_)
        have hw := hw r5 hr5
        refine g_astore_n (lv' := [(2, rV r5), (0, rV o0), (1, iV a1), (3, iV a3), (4, iV a4)]) X dX0_begin_38 (by decide) rfl ?_
        refine g_aload_n X dX0_begin_39 0 rfl ?_
        refine g_alen X dX0_begin_40 hw (fun hw => ?_)
        refine g_topI (fun x6 hx6 => ?_)
        have hw := hw x6 hx6
        refine g_istore_n (lv' := [(3, iV x6), (2, rV r5), (0, rV o0), (1, iV a1), (4, iV a4)]) X dX0_begin_41 (by decide) rfl ?_
        refine g_iconst X (0 : Int32) dX0_begin_42 (by decide) ?_
        refine g_istore (lv' := [(4, iV (0 : Int32)), (3, iV x6), (2, rV r5), (0, rV o0), (1, iV a1)]) X dX0_begin_43 (by decide) rfl ?_
        refine g_lvsub (lv' := [(0, rV o0), (1, iV a1), (2, rV r5), (3, iV x6), (4, iV (0 : Int32))]) [3, 4, 2, 1, 0] rfl ?_
        exact L45 _ _ _ _ _ _ _ hw
      · refine g_aload_n X dX0_begin_17 2 rfl ?_
        refine g_iload X dX0_begin_18 4 rfl ?_
        refine g_aald X dX0_begin_20 hw (fun hw => ?_)
        refine g_topR (fun r16 hr16 => ?_)
        have hw := hw r16 hr16
        refine g_astore (lv' := [(5, rV r16), (0, rV o0), (1, iV a1), (2, rV o2), (3, iV a3), (4, iV a4)]) X dX0_begin_21 (by decide) rfl ?_
        refine g_aload X dX0_begin_23 0 rfl ?_
        obtain ⟨hk17, hw⟩ := hw
        refine g_callv (pc' := 28) (rest := []) rfl (fun H locs ls d qR qL => g_runV X cw_X0_70 iv_X1_begin ⟨Nat.le_of_ble_eq_true rfl, Nat.le_of_ble_eq_true rfl⟩ dX0_begin_25 (c_X1_begin l E n M r16  _ hw) hk17 rfl rfl (Nat.le_of_ble_eq_true rfl) ⟨Nat.le_of_ble_eq_true rfl, Nat.le_of_ble_eq_true rfl⟩ qR qL) (fun M18 hw => ?_)
        obtain ⟨x19, hx19⟩ : ∃ y : Int32, y = a4 + (1 : Int32) := ⟨_, rfl⟩
        have hw := hw x19 hx19
        refine g_iinc (lv' := [(4, iV x19), (5, rV r16), (0, rV o0), (1, iV a1), (2, rV o2), (3, iV a3)]) X x19 dX0_begin_28 5 rfl (by rw [hx19]; rfl) (by decide) rfl ?_
        refine g_goto X 11 dX0_begin_31 (by decide) ?_
        refine g_lvsub (lv' := [(0, rV o0), (1, iV a1), (2, rV o2), (3, iV a3), (4, iV x19)]) [2, 3, 4, 5, 0] rfl ?_
        exact ih11 _ _ _ _ _ _ hw
  unfold w_X0_begin at hw
  refine g_aload_n X dX0_begin_0 0 rfl ?_
  obtain ⟨hk1, hw⟩ := hw
  refine g_get X (rV (gR M t 3)) dX0_begin_1 fl_X0_44 (fun _ => rfl) ⟨hk1, hw⟩ (fun hw => ?_)
  refine g_topR (fun r2 hr2 => ?_)
  have hw := hw r2 hr2
  refine g_astore_n (lv' := [(2, rV r2), (0, rV t), (1, iV p1)]) X dX0_begin_4 (by decide) rfl ?_
  refine g_aload_n X dX0_begin_5 0 rfl ?_
  refine g_alen X dX0_begin_6 hw (fun hw => ?_)
  refine g_topI (fun x3 hx3 => ?_)
  have hw := hw x3 hx3
  refine g_istore_n (lv' := [(3, iV x3), (2, rV r2), (0, rV t), (1, iV p1)]) X dX0_begin_7 (by decide) rfl ?_
  refine g_iconst X (0 : Int32) dX0_begin_8 (by decide) ?_
  refine g_istore (lv' := [(4, iV (0 : Int32)), (3, iV x3), (2, rV r2), (0, rV t), (1, iV p1)]) X dX0_begin_9 (by decide) rfl ?_
  refine g_lvsub (lv' := [(0, rV t), (1, iV p1), (2, rV r2), (3, iV x3), (4, iV (0 : Int32))]) [3, 4, 2, 1, 0] rfl ?_
  exact L11 _ _ _ _ _ _ _ hw
theorem dX0_copyOf_0 : decode cX0_copyOf 0 = .ok (.aload_n 0, 1) := by decide +kernel
theorem dX0_copyOf_1 : decode cX0_copyOf 1 = .ok (.getfield 20, 3) := by decide +kernel
theorem dX0_copyOf_4 : decode cX0_copyOf 4 = .ok (.aload_n 1, 1) := by decide +kernel
theorem dX0_copyOf_5 : decode cX0_copyOf 5 = .ok (.getfield 20, 3) := by decide +kernel
theorem dX0_copyOf_8 : decode cX0_copyOf 8 = .ok (.invokevirtual 76, 3) := by decide +kernel
theorem dX0_copyOf_11 : decode cX0_copyOf 11 = .ok (.aload_n 0, 1) := by decide +kernel
theorem dX0_copyOf_12 : decode cX0_copyOf 12 = .ok (.getfield 30, 3) := by decide +kernel
theorem dX0_copyOf_15 : decode cX0_copyOf 15 = .ok (.aload_n 1, 1) := by decide +kernel
theorem dX0_copyOf_16 : decode cX0_copyOf 16 = .ok (.getfield 30, 3) := by decide +kernel
theorem dX0_copyOf_19 : decode cX0_copyOf 19 = .ok (.invokevirtual 76, 3) := by decide +kernel
theorem dX0_copyOf_22 : decode cX0_copyOf 22 = .ok (.aload_n 0, 1) := by decide +kernel
theorem dX0_copyOf_23 : decode cX0_copyOf 23 = .ok (.getfield 35, 3) := by decide +kernel
theorem dX0_copyOf_26 : decode cX0_copyOf 26 = .ok (.aload_n 1, 1) := by decide +kernel
theorem dX0_copyOf_27 : decode cX0_copyOf 27 = .ok (.getfield 35, 3) := by decide +kernel
theorem dX0_copyOf_30 : decode cX0_copyOf 30 = .ok (.invokevirtual 76, 3) := by decide +kernel
theorem dX0_copyOf_33 : decode cX0_copyOf 33 = .ok (.iconst 0, 1) := by decide +kernel
theorem dX0_copyOf_34 : decode cX0_copyOf 34 = .ok (.istore_n 2, 1) := by decide +kernel
theorem dX0_copyOf_35 : decode cX0_copyOf 35 = .ok (.iload_n 2, 1) := by decide +kernel
theorem dX0_copyOf_36 : decode cX0_copyOf 36 = .ok (.aload_n 0, 1) := by decide +kernel
theorem dX0_copyOf_37 : decode cX0_copyOf 37 = .ok (.getfield 44, 3) := by decide +kernel
theorem dX0_copyOf_40 : decode cX0_copyOf 40 = .ok (.arraylength, 1) := by decide +kernel
theorem dX0_copyOf_41 : decode cX0_copyOf 41 = .ok (.if_icmp .ge 33, 3) := by decide +kernel
theorem dX0_copyOf_44 : decode cX0_copyOf 44 = .ok (.iload_n 2, 1) := by decide +kernel
theorem dX0_copyOf_45 : decode cX0_copyOf 45 = .ok (.aload_n 1, 1) := by decide +kernel
theorem dX0_copyOf_46 : decode cX0_copyOf 46 = .ok (.getfield 44, 3) := by decide +kernel
theorem dX0_copyOf_49 : decode cX0_copyOf 49 = .ok (.arraylength, 1) := by decide +kernel
theorem dX0_copyOf_50 : decode cX0_copyOf 50 = .ok (.if_icmp .ge 24, 3) := by decide +kernel
theorem dX0_copyOf_53 : decode cX0_copyOf 53 = .ok (.aload_n 0, 1) := by decide +kernel
theorem dX0_copyOf_54 : decode cX0_copyOf 54 = .ok (.getfield 44, 3) := by decide +kernel
theorem dX0_copyOf_57 : decode cX0_copyOf 57 = .ok (.iload_n 2, 1) := by decide +kernel
theorem dX0_copyOf_58 : decode cX0_copyOf 58 = .ok (.aaload, 1) := by decide +kernel
theorem dX0_copyOf_59 : decode cX0_copyOf 59 = .ok (.aload_n 1, 1) := by decide +kernel
theorem dX0_copyOf_60 : decode cX0_copyOf 60 = .ok (.getfield 44, 3) := by decide +kernel
theorem dX0_copyOf_63 : decode cX0_copyOf 63 = .ok (.iload_n 2, 1) := by decide +kernel
theorem dX0_copyOf_64 : decode cX0_copyOf 64 = .ok (.aaload, 1) := by decide +kernel
theorem dX0_copyOf_65 : decode cX0_copyOf 65 = .ok (.invokevirtual 80, 3) := by decide +kernel
theorem dX0_copyOf_68 : decode cX0_copyOf 68 = .ok (.iinc 2 1, 3) := by decide +kernel
theorem dX0_copyOf_71 : decode cX0_copyOf 71 = .ok (.goto (-36), 3) := by decide +kernel
theorem dX0_copyOf_74 : decode cX0_copyOf 74 = .ok (.iconst 0, 1) := by decide +kernel
theorem dX0_copyOf_75 : decode cX0_copyOf 75 = .ok (.istore_n 2, 1) := by decide +kernel
theorem dX0_copyOf_76 : decode cX0_copyOf 76 = .ok (.iload_n 2, 1) := by decide +kernel
theorem dX0_copyOf_77 : decode cX0_copyOf 77 = .ok (.aload_n 0, 1) := by decide +kernel
theorem dX0_copyOf_78 : decode cX0_copyOf 78 = .ok (.getfield 53, 3) := by decide +kernel
theorem dX0_copyOf_81 : decode cX0_copyOf 81 = .ok (.arraylength, 1) := by decide +kernel
theorem dX0_copyOf_82 : decode cX0_copyOf 82 = .ok (.if_icmp .ge 33, 3) := by decide +kernel
theorem dX0_copyOf_85 : decode cX0_copyOf 85 = .ok (.iload_n 2, 1) := by decide +kernel
theorem dX0_copyOf_86 : decode cX0_copyOf 86 = .ok (.aload_n 1, 1) := by decide +kernel
theorem dX0_copyOf_87 : decode cX0_copyOf 87 = .ok (.getfield 53, 3) := by decide +kernel
theorem dX0_copyOf_90 : decode cX0_copyOf 90 = .ok (.arraylength, 1) := by decide +kernel
theorem dX0_copyOf_91 : decode cX0_copyOf 91 = .ok (.if_icmp .ge 24, 3) := by decide +kernel
theorem dX0_copyOf_94 : decode cX0_copyOf 94 = .ok (.aload_n 0, 1) := by decide +kernel
theorem dX0_copyOf_95 : decode cX0_copyOf 95 = .ok (.getfield 53, 3) := by decide +kernel
theorem dX0_copyOf_98 : decode cX0_copyOf 98 = .ok (.iload_n 2, 1) := by decide +kernel
theorem dX0_copyOf_99 : decode cX0_copyOf 99 = .ok (.aaload, 1) := by decide +kernel
theorem dX0_copyOf_100 : decode cX0_copyOf 100 = .ok (.aload_n 1, 1) := by decide +kernel
theorem dX0_copyOf_101 : decode cX0_copyOf 101 = .ok (.getfield 53, 3) := by decide +kernel
theorem dX0_copyOf_104 : decode cX0_copyOf 104 = .ok (.iload_n 2, 1) := by decide +kernel
theorem dX0_copyOf_105 : decode cX0_copyOf 105 = .ok (.aaload, 1) := by decide +kernel
theorem dX0_copyOf_106 : decode cX0_copyOf 106 = .ok (.invokevirtual 83, 3) := by decide +kernel
theorem dX0_copyOf_109 : decode cX0_copyOf 109 = .ok (.iinc 2 1, 3) := by decide +kernel
theorem dX0_copyOf_112 : decode cX0_copyOf 112 = .ok (.goto (-36), 3) := by decide +kernel
theorem dX0_copyOf_115 : decode cX0_copyOf 115 = .ok (.aload_n 0, 1) := by decide +kernel
theorem dX0_copyOf_116 : decode cX0_copyOf 116 = .ok (.aload_n 1, 1) := by decide +kernel
theorem dX0_copyOf_117 : decode cX0_copyOf 117 = .ok (.getfield 38, 3) := by decide +kernel
theorem dX0_copyOf_120 : decode cX0_copyOf 120 = .ok (.putfield 38, 3) := by decide +kernel
theorem dX0_copyOf_123 : decode cX0_copyOf 123 = .ok (.aload_n 0, 1) := by decide +kernel
theorem dX0_copyOf_124 : decode cX0_copyOf 124 = .ok (.aload_n 1, 1) := by decide +kernel
theorem dX0_copyOf_125 : decode cX0_copyOf 125 = .ok (.getfield 58, 3) := by decide +kernel
theorem dX0_copyOf_128 : decode cX0_copyOf 128 = .ok (.putfield 58, 3) := by decide +kernel
theorem dX0_copyOf_131 : decode cX0_copyOf 131 = .ok (.aload_n 0, 1) := by decide +kernel
theorem dX0_copyOf_132 : decode cX0_copyOf 132 = .ok (.aload_n 1, 1) := by decide +kernel
theorem dX0_copyOf_133 : decode cX0_copyOf 133 = .ok (.getfield 61, 3) := by decide +kernel
theorem dX0_copyOf_136 : decode cX0_copyOf 136 = .ok (.putfield 61, 3) := by decide +kernel
theorem dX0_copyOf_139 : decode cX0_copyOf 139 = .ok (.aload_n 0, 1) := by decide +kernel
theorem dX0_copyOf_140 : decode cX0_copyOf 140 = .ok (.aload_n 1, 1) := by decide +kernel
theorem dX0_copyOf_141 : decode cX0_copyOf 141 = .ok (.getfield 64, 3) := by decide +kernel
theorem dX0_copyOf_144 : decode cX0_copyOf 144 = .ok (.putfield 64, 3) := by decide +kernel
theorem dX0_copyOf_147 : decode cX0_copyOf 147 = .ok (.aload_n 0, 1) := by decide +kernel
theorem dX0_copyOf_148 : decode cX0_copyOf 148 = .ok (.aload_n 1, 1) := by decide +kernel
theorem dX0_copyOf_149 : decode cX0_copyOf 149 = .ok (.getfield 67, 3) := by decide +kernel
theorem dX0_copyOf_152 : decode cX0_copyOf 152 = .ok (.putfield 67, 3) := by decide +kernel
theorem dX0_copyOf_155 : decode cX0_copyOf 155 = .ok (.return_, 1) := by decide +kernel
abbrev rmX0_copyOf : Room := { frames := 1, cells := 0, slots := 0, locals := 21 }
def w_X0_copyOf_L76 (n : Nat) (K : Mem → Prop) : Nat → Mem → Nat → Nat → Int32 → Prop
  | 0, _, _, _, _ => False
  | fuel + 1, M, o0, o1, a2 => ((o0 ≤ n ∧ kd o0 = (0, 0)) ∧ (∀ r18, r18 = gR M o0 4 → ((r18 ≤ n ∧ 7 ≤ (kd r18).1 ∧ (kd r18).1 < 13) ∧ (((nI (kd r18).2) ≤ a2 → ((o1 ≤ n ∧ kd o1 = (0, 0)) ∧ (∀ M20, M20 = sI M o0 5 (gI M o1 5) → (∀ M21, M21 = sI M20 o0 6 (gI M20 o1 6) → (∀ M22, M22 = sI M21 o0 7 (gI M21 o1 7) → (∀ M23, M23 = sI M22 o0 8 (gI M22 o1 8) → (∀ M24, M24 = sI M23 o0 9 (gI M23 o1 9) → K M24))))))) ∧ (¬ (nI (kd r18).2) ≤ a2 → ((o1 ≤ n ∧ kd o1 = (0, 0)) ∧ (∀ r26, r26 = gR M o1 4 → ((r26 ≤ n ∧ 7 ≤ (kd r26).1 ∧ (kd r26).1 < 13) ∧ (((nI (kd r26).2) ≤ a2 → (∀ M27, M27 = sI M o0 5 (gI M o1 5) → (∀ M28, M28 = sI M27 o0 6 (gI M27 o1 6) → (∀ M29, M29 = sI M28 o0 7 (gI M28 o1 7) → (∀ M30, M30 = sI M29 o0 8 (gI M29 o1 8) → (∀ M31, M31 = sI M30 o0 9 (gI M30 o1 9) → K M31)))))) ∧ (¬ (nI (kd r26).2) ≤ a2 → (∀ r32, r32 = gR M o0 4 → ((r32 ≤ n ∧ (10 ≤ (kd r32).1 ∧ (kd r32).1 < 13) ∧ vp_in a2 (kd r32).2) ∧ (∀ r33, r33 = gR M r32 (Int32.toNatClampNeg a2) → (∀ r34, r34 = gR M o1 4 → ((r34 ≤ n ∧ (10 ≤ (kd r34).1 ∧ (kd r34).1 < 13) ∧ vp_in a2 (kd r34).2) ∧ (∀ r35, r35 = gR M r34 (Int32.toNatClampNeg a2) → ((r33 ≤ n ∧ kd r33 = (2, 0)) ∧ w_X2_copyOf n M r33 r35 (fun M37 => (∀ x38, x38 = a2 + (1 : Int32) → w_X0_copyOf_L76 n K fuel M37 o0 o1 x38)))))))))))))))))))
def w_X0_copyOf_L35 (n : Nat) (K : Mem → Prop) : Nat → Mem → Nat → Nat → Int32 → Prop
  | 0, _, _, _, _ => False
  | fuel + 1, M, o0, o1, a2 => ((o0 ≤ n ∧ kd o0 = (0, 0)) ∧ (∀ r16, r16 = gR M o0 3 → ((r16 ≤ n ∧ 7 ≤ (kd r16).1 ∧ (kd r16).1 < 13) ∧ (((nI (kd r16).2) ≤ a2 → w_X0_copyOf_L76 n K 4000 M o0 o1 (0 : Int32)) ∧ (¬ (nI (kd r16).2) ≤ a2 → ((o1 ≤ n ∧ kd o1 = (0, 0)) ∧ (∀ r40, r40 = gR M o1 3 → ((r40 ≤ n ∧ 7 ≤ (kd r40).1 ∧ (kd r40).1 < 13) ∧ (((nI (kd r40).2) ≤ a2 → w_X0_copyOf_L76 n K 4000 M o0 o1 (0 : Int32)) ∧ (¬ (nI (kd r40).2) ≤ a2 → (∀ r41, r41 = gR M o0 3 → ((r41 ≤ n ∧ (10 ≤ (kd r41).1 ∧ (kd r41).1 < 13) ∧ vp_in a2 (kd r41).2) ∧ (∀ r42, r42 = gR M r41 (Int32.toNatClampNeg a2) → (∀ r43, r43 = gR M o1 3 → ((r43 ≤ n ∧ (10 ≤ (kd r43).1 ∧ (kd r43).1 < 13) ∧ vp_in a2 (kd r43).2) ∧ (∀ r44, r44 = gR M r43 (Int32.toNatClampNeg a2) → ((r42 ≤ n ∧ kd r42 = (1, 0)) ∧ w_X1_copyOf n M r42 r44 (fun M46 => (∀ x47, x47 = a2 + (1 : Int32) → w_X0_copyOf_L35 n K fuel M46 o0 o1 x47)))))))))))))))))))
def w_X0_copyOf (n : Nat) (M : Mem) (t : Nat) (p1 : Nat) (K : Mem → Prop) : Prop := ((t ≤ n ∧ kd t = (0, 0)) ∧ (∀ r2, r2 = gR M t 0 → ((p1 ≤ n ∧ kd p1 = (0, 0)) ∧ (∀ r4, r4 = gR M p1 0 → ((r2 ≤ n ∧ kd r2 = (3, 0)) ∧ w_X3_copyOf n M r2 r4 (fun M6 => (∀ r7, r7 = gR M6 t 1 → (∀ r8, r8 = gR M6 p1 1 → ((r7 ≤ n ∧ kd r7 = (3, 0)) ∧ w_X3_copyOf n M6 r7 r8 (fun M10 => (∀ r11, r11 = gR M10 t 2 → (∀ r12, r12 = gR M10 p1 2 → ((r11 ≤ n ∧ kd r11 = (3, 0)) ∧ w_X3_copyOf n M10 r11 r12 (fun M14 => w_X0_copyOf_L35 n K 4000 M14 t p1 (0 : Int32)))))))))))))))
set_option maxHeartbeats 4000000 in
set_option maxRecDepth 20000 in
theorem c_X0_copyOf (l : Launch) (E : Gl) (n : Nat) (M : Mem) (t : Nat) (p1 : Nat) (K : Mem → Prop) (hw : w_X0_copyOf n M t p1 K) : CT E l yX0_copyOf cX0_copyOf 3 none rmX0_copyOf n M [rV t, rV p1] (PV E n K) := by
  refine g_met l (by decide) (Nat.le_of_ble_eq_true rfl) ?_
  intro p e s m args below meth c X hr hlk hnm hSz hOld
  change CX E p s m c _ _ RX0 at X
  have L76 : ∀ (fuel76 : Nat) (M : Mem) (o0 : Nat) (o1 : Nat) (a2 : Int32), w_X0_copyOf_L76 n K fuel76 M o0 o1 a2 → G E p l e rmX0_copyOf s m args below meth c 3 n M 0 0 (MQD lw_cs below (PV E n K) args s rmX0_copyOf.cells rmX0_copyOf.slots (Ab E)) 76 [(0, rV o0), (1, rV o1), (2, iV a2)] [] := by
    intro fuel76
    induction fuel76 with
    | zero => intro M o0 o1 a2 hw; exact False.elim hw
    | succ fuel76 ih76 =>
      intro M o0 o1 a2 hw
      unfold w_X0_copyOf_L76 at hw
      refine g_iload_n X dX0_copyOf_76 2 rfl ?_
      refine g_aload_n X dX0_copyOf_77 0 rfl ?_
      obtain ⟨hk17, hw⟩ := hw
      refine g_get X (rV (gR M o0 4)) dX0_copyOf_78 fl_X0_53 (fun _ => rfl) ⟨hk17, hw⟩ (fun hw => ?_)
      refine g_topR (fun r18 hr18 => ?_)
      have hw := hw r18 hr18
      refine g_alen X dX0_copyOf_81 hw (fun hw => ?_)
      refine g_icmp_ge X 115 dX0_copyOf_82 (by decide) hw (fun hw => ?_) (fun hw => ?_)
      · refine g_aload_n X dX0_copyOf_115 0 rfl ?_
        refine g_aload_n X dX0_copyOf_116 1 rfl ?_
        obtain ⟨hk19, hw⟩ := hw
        refine g_get X (iV (gI M o1 5)) dX0_copyOf_117 fl_X0_38 (fun _ => rfl) ⟨hk19, hw⟩ (fun hw => ?_)
        refine g_putI X dX0_copyOf_120 fl_X0_38 rfl (Or.inl rfl) ⟨hk17, hw⟩ (fun hw => ?_)
        refine g_topM (fun M20 hM20 => ?_)
        have hw := hw M20 hM20
        refine g_aload_n X dX0_copyOf_123 0 rfl ?_
        refine g_aload_n X dX0_copyOf_124 1 rfl ?_
        refine g_get X (iV (gI M20 o1 6)) dX0_copyOf_125 fl_X0_58 (fun _ => rfl) ⟨hk19, hw⟩ (fun hw => ?_)
        refine g_putI X dX0_copyOf_128 fl_X0_58 rfl (Or.inl rfl) ⟨hk17, hw⟩ (fun hw => ?_)
        refine g_topM (fun M21 hM21 => ?_)
        have hw := hw M21 hM21
        refine g_aload_n X dX0_copyOf_131 0 rfl ?_
        refine g_aload_n X dX0_copyOf_132 1 rfl ?_
        refine g_get X (iV (gI M21 o1 7)) dX0_copyOf_133 fl_X0_61 (fun _ => rfl) ⟨hk19, hw⟩ (fun hw => ?_)
        refine g_putI X dX0_copyOf_136 fl_X0_61 rfl (Or.inl rfl) ⟨hk17, hw⟩ (fun hw => ?_)
        refine g_topM (fun M22 hM22 => ?_)
        have hw := hw M22 hM22
        refine g_aload_n X dX0_copyOf_139 0 rfl ?_
        refine g_aload_n X dX0_copyOf_140 1 rfl ?_
        refine g_get X (iV (gI M22 o1 8)) dX0_copyOf_141 fl_X0_64 (fun _ => rfl) ⟨hk19, hw⟩ (fun hw => ?_)
        refine g_putI X dX0_copyOf_144 fl_X0_64 rfl (Or.inl rfl) ⟨hk17, hw⟩ (fun hw => ?_)
        refine g_topM (fun M23 hM23 => ?_)
        have hw := hw M23 hM23
        refine g_aload_n X dX0_copyOf_147 0 rfl ?_
        refine g_aload_n X dX0_copyOf_148 1 rfl ?_
        refine g_get X (iV (gI M23 o1 9)) dX0_copyOf_149 fl_X0_67 (fun _ => rfl) ⟨hk19, hw⟩ (fun hw => ?_)
        refine g_putI X dX0_copyOf_152 fl_X0_67 rfl (Or.inl rfl) ⟨hk17, hw⟩ (fun hw => ?_)
        refine g_topM (fun M24 hM24 => ?_)
        have hw := hw M24 hM24
        exact g_vret X hr hlk hSz hOld (Nat.le_refl _) dX0_copyOf_155 hw
      · refine g_iload_n X dX0_copyOf_85 2 rfl ?_
        refine g_aload_n X dX0_copyOf_86 1 rfl ?_
        obtain ⟨hk25, hw⟩ := hw
        refine g_get X (rV (gR M o1 4)) dX0_copyOf_87 fl_X0_53 (fun _ => rfl) ⟨hk25, hw⟩ (fun hw => ?_)
        refine g_topR (fun r26 hr26 => ?_)
        have hw := hw r26 hr26
        refine g_alen X dX0_copyOf_90 hw (fun hw => ?_)
        refine g_icmp_ge X 115 dX0_copyOf_91 (by decide) hw (fun hw => ?_) (fun hw => ?_)
        · refine g_aload_n X dX0_copyOf_115 0 rfl ?_
          refine g_aload_n X dX0_copyOf_116 1 rfl ?_
          refine g_get X (iV (gI M o1 5)) dX0_copyOf_117 fl_X0_38 (fun _ => rfl) ⟨hk25, hw⟩ (fun hw => ?_)
          refine g_putI X dX0_copyOf_120 fl_X0_38 rfl (Or.inl rfl) ⟨hk17, hw⟩ (fun hw => ?_)
          refine g_topM (fun M27 hM27 => ?_)
          have hw := hw M27 hM27
          refine g_aload_n X dX0_copyOf_123 0 rfl ?_
          refine g_aload_n X dX0_copyOf_124 1 rfl ?_
          refine g_get X (iV (gI M27 o1 6)) dX0_copyOf_125 fl_X0_58 (fun _ => rfl) ⟨hk25, hw⟩ (fun hw => ?_)
          refine g_putI X dX0_copyOf_128 fl_X0_58 rfl (Or.inl rfl) ⟨hk17, hw⟩ (fun hw => ?_)
          refine g_topM (fun M28 hM28 => ?_)
          have hw := hw M28 hM28
          refine g_aload_n X dX0_copyOf_131 0 rfl ?_
          refine g_aload_n X dX0_copyOf_132 1 rfl ?_
          refine g_get X (iV (gI M28 o1 7)) dX0_copyOf_133 fl_X0_61 (fun _ => rfl) ⟨hk25, hw⟩ (fun hw => ?_)
          refine g_putI X dX0_copyOf_136 fl_X0_61 rfl (Or.inl rfl) ⟨hk17, hw⟩ (fun hw => ?_)
          refine g_topM (fun M29 hM29 => ?_)
          have hw := hw M29 hM29
          refine g_aload_n X dX0_copyOf_139 0 rfl ?_
          refine g_aload_n X dX0_copyOf_140 1 rfl ?_
          refine g_get X (iV (gI M29 o1 8)) dX0_copyOf_141 fl_X0_64 (fun _ => rfl) ⟨hk25, hw⟩ (fun hw => ?_)
          refine g_putI X dX0_copyOf_144 fl_X0_64 rfl (Or.inl rfl) ⟨hk17, hw⟩ (fun hw => ?_)
          refine g_topM (fun M30 hM30 => ?_)
          have hw := hw M30 hM30
          refine g_aload_n X dX0_copyOf_147 0 rfl ?_
          refine g_aload_n X dX0_copyOf_148 1 rfl ?_
          refine g_get X (iV (gI M30 o1 9)) dX0_copyOf_149 fl_X0_67 (fun _ => rfl) ⟨hk25, hw⟩ (fun hw => ?_)
          refine g_putI X dX0_copyOf_152 fl_X0_67 rfl (Or.inl rfl) ⟨hk17, hw⟩ (fun hw => ?_)
          refine g_topM (fun M31 hM31 => ?_)
          have hw := hw M31 hM31
          exact g_vret X hr hlk hSz hOld (Nat.le_refl _) dX0_copyOf_155 hw
        · refine g_aload_n X dX0_copyOf_94 0 rfl ?_
          refine g_get X (rV (gR M o0 4)) dX0_copyOf_95 fl_X0_53 (fun _ => rfl) ⟨hk17, hw⟩ (fun hw => ?_)
          refine g_topR (fun r32 hr32 => ?_)
          have hw := hw r32 hr32
          refine g_iload_n X dX0_copyOf_98 2 rfl ?_
          refine g_aald X dX0_copyOf_99 hw (fun hw => ?_)
          refine g_topR (fun r33 hr33 => ?_)
          have hw := hw r33 hr33
          refine g_aload_n X dX0_copyOf_100 1 rfl ?_
          refine g_get X (rV (gR M o1 4)) dX0_copyOf_101 fl_X0_53 (fun _ => rfl) ⟨hk25, hw⟩ (fun hw => ?_)
          refine g_topR (fun r34 hr34 => ?_)
          have hw := hw r34 hr34
          refine g_iload_n X dX0_copyOf_104 2 rfl ?_
          refine g_aald X dX0_copyOf_105 hw (fun hw => ?_)
          refine g_topR (fun r35 hr35 => ?_)
          have hw := hw r35 hr35
          obtain ⟨hk36, hw⟩ := hw
          refine g_callv (pc' := 109) (rest := []) rfl (fun H locs ls d qR qL => g_runV X cw_X0_83 iv_X2_copyOf ⟨Nat.le_of_ble_eq_true rfl, Nat.le_of_ble_eq_true rfl⟩ dX0_copyOf_106 (c_X2_copyOf l E n M r33 r35 _ hw) hk36 rfl rfl (Nat.le_of_ble_eq_true rfl) ⟨Nat.le_of_ble_eq_true rfl, Nat.le_of_ble_eq_true rfl⟩ qR qL) (fun M37 hw => ?_)
          obtain ⟨x38, hx38⟩ : ∃ y : Int32, y = a2 + (1 : Int32) := ⟨_, rfl⟩
          have hw := hw x38 hx38
          refine g_iinc (lv' := [(2, iV x38), (0, rV o0), (1, rV o1)]) X x38 dX0_copyOf_109 2 rfl (by rw [hx38]; rfl) (by decide) rfl ?_
          refine g_goto X 76 dX0_copyOf_112 (by decide) ?_
          refine g_lvsub (lv' := [(0, rV o0), (1, rV o1), (2, iV x38)]) [1, 2, 0] rfl ?_
          exact ih76 _ _ _ _ hw
  have L35 : ∀ (fuel35 : Nat) (M : Mem) (o0 : Nat) (o1 : Nat) (a2 : Int32), w_X0_copyOf_L35 n K fuel35 M o0 o1 a2 → G E p l e rmX0_copyOf s m args below meth c 3 n M 0 0 (MQD lw_cs below (PV E n K) args s rmX0_copyOf.cells rmX0_copyOf.slots (Ab E)) 35 [(0, rV o0), (1, rV o1), (2, iV a2)] [] := by
    intro fuel35
    induction fuel35 with
    | zero => intro M o0 o1 a2 hw; exact False.elim hw
    | succ fuel35 ih35 =>
      intro M o0 o1 a2 hw
      unfold w_X0_copyOf_L35 at hw
      refine g_iload_n X dX0_copyOf_35 2 rfl ?_
      refine g_aload_n X dX0_copyOf_36 0 rfl ?_
      obtain ⟨hk15, hw⟩ := hw
      refine g_get X (rV (gR M o0 3)) dX0_copyOf_37 fl_X0_44 (fun _ => rfl) ⟨hk15, hw⟩ (fun hw => ?_)
      refine g_topR (fun r16 hr16 => ?_)
      have hw := hw r16 hr16
      refine g_alen X dX0_copyOf_40 hw (fun hw => ?_)
      refine g_icmp_ge X 74 dX0_copyOf_41 (by decide) hw (fun hw => ?_) (fun hw => ?_)
      · refine g_iconst X (0 : Int32) dX0_copyOf_74 (by decide) ?_
        refine g_istore_n (lv' := [(2, iV (0 : Int32)), (0, rV o0), (1, rV o1)]) X dX0_copyOf_75 (by decide) rfl ?_
        refine g_lvsub (lv' := [(0, rV o0), (1, rV o1), (2, iV (0 : Int32))]) [1, 2, 0] rfl ?_
        exact L76 _ _ _ _ _ hw
      · refine g_iload_n X dX0_copyOf_44 2 rfl ?_
        refine g_aload_n X dX0_copyOf_45 1 rfl ?_
        obtain ⟨hk39, hw⟩ := hw
        refine g_get X (rV (gR M o1 3)) dX0_copyOf_46 fl_X0_44 (fun _ => rfl) ⟨hk39, hw⟩ (fun hw => ?_)
        refine g_topR (fun r40 hr40 => ?_)
        have hw := hw r40 hr40
        refine g_alen X dX0_copyOf_49 hw (fun hw => ?_)
        refine g_icmp_ge X 74 dX0_copyOf_50 (by decide) hw (fun hw => ?_) (fun hw => ?_)
        · refine g_iconst X (0 : Int32) dX0_copyOf_74 (by decide) ?_
          refine g_istore_n (lv' := [(2, iV (0 : Int32)), (0, rV o0), (1, rV o1)]) X dX0_copyOf_75 (by decide) rfl ?_
          refine g_lvsub (lv' := [(0, rV o0), (1, rV o1), (2, iV (0 : Int32))]) [1, 2, 0] rfl ?_
          exact L76 _ _ _ _ _ hw
        · refine g_aload_n X dX0_copyOf_53 0 rfl ?_
          refine g_get X (rV (gR M o0 3)) dX0_copyOf_54 fl_X0_44 (fun _ => rfl) ⟨hk15, hw⟩ (fun hw => ?_)
          refine g_topR (fun r41 hr41 => ?_)
          have hw := hw r41 hr41
          refine g_iload_n X dX0_copyOf_57 2 rfl ?_
          refine g_aald X dX0_copyOf_58 hw (fun hw => ?_)
          refine g_topR (fun r42 hr42 => ?_)
          have hw := hw r42 hr42
          refine g_aload_n X dX0_copyOf_59 1 rfl ?_
          refine g_get X (rV (gR M o1 3)) dX0_copyOf_60 fl_X0_44 (fun _ => rfl) ⟨hk39, hw⟩ (fun hw => ?_)
          refine g_topR (fun r43 hr43 => ?_)
          have hw := hw r43 hr43
          refine g_iload_n X dX0_copyOf_63 2 rfl ?_
          refine g_aald X dX0_copyOf_64 hw (fun hw => ?_)
          refine g_topR (fun r44 hr44 => ?_)
          have hw := hw r44 hr44
          obtain ⟨hk45, hw⟩ := hw
          refine g_callv (pc' := 68) (rest := []) rfl (fun H locs ls d qR qL => g_runV X cw_X0_80 iv_X1_copyOf ⟨Nat.le_of_ble_eq_true rfl, Nat.le_of_ble_eq_true rfl⟩ dX0_copyOf_65 (c_X1_copyOf l E n M r42 r44 _ hw) hk45 rfl rfl (Nat.le_of_ble_eq_true rfl) ⟨Nat.le_of_ble_eq_true rfl, Nat.le_of_ble_eq_true rfl⟩ qR qL) (fun M46 hw => ?_)
          obtain ⟨x47, hx47⟩ : ∃ y : Int32, y = a2 + (1 : Int32) := ⟨_, rfl⟩
          have hw := hw x47 hx47
          refine g_iinc (lv' := [(2, iV x47), (0, rV o0), (1, rV o1)]) X x47 dX0_copyOf_68 2 rfl (by rw [hx47]; rfl) (by decide) rfl ?_
          refine g_goto X 35 dX0_copyOf_71 (by decide) ?_
          refine g_lvsub (lv' := [(0, rV o0), (1, rV o1), (2, iV x47)]) [1, 2, 0] rfl ?_
          exact ih35 _ _ _ _ hw
  unfold w_X0_copyOf at hw
  refine g_aload_n X dX0_copyOf_0 0 rfl ?_
  obtain ⟨hk1, hw⟩ := hw
  refine g_get X (rV (gR M t 0)) dX0_copyOf_1 fl_X0_20 (fun _ => rfl) ⟨hk1, hw⟩ (fun hw => ?_)
  refine g_topR (fun r2 hr2 => ?_)
  have hw := hw r2 hr2
  refine g_aload_n X dX0_copyOf_4 1 rfl ?_
  obtain ⟨hk3, hw⟩ := hw
  refine g_get X (rV (gR M p1 0)) dX0_copyOf_5 fl_X0_20 (fun _ => rfl) ⟨hk3, hw⟩ (fun hw => ?_)
  refine g_topR (fun r4 hr4 => ?_)
  have hw := hw r4 hr4
  obtain ⟨hk5, hw⟩ := hw
  refine g_callv (pc' := 11) (rest := []) rfl (fun H locs ls d qR qL => g_runV X cw_X0_76 iv_X3_copyOf ⟨Nat.le_of_ble_eq_true rfl, Nat.le_of_ble_eq_true rfl⟩ dX0_copyOf_8 (c_X3_copyOf l E n M r2 r4 _ hw) hk5 rfl rfl (Nat.le_of_ble_eq_true rfl) ⟨Nat.le_of_ble_eq_true rfl, Nat.le_of_ble_eq_true rfl⟩ qR qL) (fun M6 hw => ?_)
  refine g_aload_n X dX0_copyOf_11 0 rfl ?_
  refine g_get X (rV (gR M6 t 1)) dX0_copyOf_12 fl_X0_30 (fun _ => rfl) ⟨hk1, hw⟩ (fun hw => ?_)
  refine g_topR (fun r7 hr7 => ?_)
  have hw := hw r7 hr7
  refine g_aload_n X dX0_copyOf_15 1 rfl ?_
  refine g_get X (rV (gR M6 p1 1)) dX0_copyOf_16 fl_X0_30 (fun _ => rfl) ⟨hk3, hw⟩ (fun hw => ?_)
  refine g_topR (fun r8 hr8 => ?_)
  have hw := hw r8 hr8
  obtain ⟨hk9, hw⟩ := hw
  refine g_callv (pc' := 22) (rest := []) rfl (fun H locs ls d qR qL => g_runV X cw_X0_76 iv_X3_copyOf ⟨Nat.le_of_ble_eq_true rfl, Nat.le_of_ble_eq_true rfl⟩ dX0_copyOf_19 (c_X3_copyOf l E n M6 r7 r8 _ hw) hk9 rfl rfl (Nat.le_of_ble_eq_true rfl) ⟨Nat.le_of_ble_eq_true rfl, Nat.le_of_ble_eq_true rfl⟩ qR qL) (fun M10 hw => ?_)
  refine g_aload_n X dX0_copyOf_22 0 rfl ?_
  refine g_get X (rV (gR M10 t 2)) dX0_copyOf_23 fl_X0_35 (fun _ => rfl) ⟨hk1, hw⟩ (fun hw => ?_)
  refine g_topR (fun r11 hr11 => ?_)
  have hw := hw r11 hr11
  refine g_aload_n X dX0_copyOf_26 1 rfl ?_
  refine g_get X (rV (gR M10 p1 2)) dX0_copyOf_27 fl_X0_35 (fun _ => rfl) ⟨hk3, hw⟩ (fun hw => ?_)
  refine g_topR (fun r12 hr12 => ?_)
  have hw := hw r12 hr12
  obtain ⟨hk13, hw⟩ := hw
  refine g_callv (pc' := 33) (rest := []) rfl (fun H locs ls d qR qL => g_runV X cw_X0_76 iv_X3_copyOf ⟨Nat.le_of_ble_eq_true rfl, Nat.le_of_ble_eq_true rfl⟩ dX0_copyOf_30 (c_X3_copyOf l E n M10 r11 r12 _ hw) hk13 rfl rfl (Nat.le_of_ble_eq_true rfl) ⟨Nat.le_of_ble_eq_true rfl, Nat.le_of_ble_eq_true rfl⟩ qR qL) (fun M14 hw => ?_)
  refine g_iconst X (0 : Int32) dX0_copyOf_33 (by decide) ?_
  refine g_istore_n (lv' := [(2, iV (0 : Int32)), (0, rV t), (1, rV p1)]) X dX0_copyOf_34 (by decide) rfl ?_
  refine g_lvsub (lv' := [(0, rV t), (1, rV p1), (2, iV (0 : Int32))]) [1, 2, 0] rfl ?_
  exact L35 _ _ _ _ _ hw
theorem dX0_headAt_0 : decode cX0_headAt 0 = .ok (.iload_n 1, 1) := by decide +kernel
theorem dX0_headAt_1 : decode cX0_headAt 1 = .ok (.ifCond .lt 24, 3) := by decide +kernel
theorem dX0_headAt_4 : decode cX0_headAt 4 = .ok (.iload_n 1, 1) := by decide +kernel
theorem dX0_headAt_5 : decode cX0_headAt 5 = .ok (.aload_n 0, 1) := by decide +kernel
theorem dX0_headAt_6 : decode cX0_headAt 6 = .ok (.getfield 58, 3) := by decide +kernel
theorem dX0_headAt_9 : decode cX0_headAt 9 = .ok (.if_icmp .ge 16, 3) := by decide +kernel
theorem dX0_headAt_12 : decode cX0_headAt 12 = .ok (.iload_n 1, 1) := by decide +kernel
theorem dX0_headAt_13 : decode cX0_headAt 13 = .ok (.aload_n 0, 1) := by decide +kernel
theorem dX0_headAt_14 : decode cX0_headAt 14 = .ok (.getfield 44, 3) := by decide +kernel
theorem dX0_headAt_17 : decode cX0_headAt 17 = .ok (.arraylength, 1) := by decide +kernel
theorem dX0_headAt_18 : decode cX0_headAt 18 = .ok (.if_icmp .ge 7, 3) := by decide +kernel
theorem dX0_headAt_21 : decode cX0_headAt 21 = .ok (.iconst 1, 1) := by decide +kernel
theorem dX0_headAt_22 : decode cX0_headAt 22 = .ok (.goto 4, 3) := by decide +kernel
theorem dX0_headAt_25 : decode cX0_headAt 25 = .ok (.iconst 0, 1) := by decide +kernel
theorem dX0_headAt_26 : decode cX0_headAt 26 = .ok (.istore_n 2, 1) := by decide +kernel
theorem dX0_headAt_27 : decode cX0_headAt 27 = .ok (.iload_n 2, 1) := by decide +kernel
theorem dX0_headAt_28 : decode cX0_headAt 28 = .ok (.ifCond .eq 12, 3) := by decide +kernel
theorem dX0_headAt_31 : decode cX0_headAt 31 = .ok (.aload_n 0, 1) := by decide +kernel
theorem dX0_headAt_32 : decode cX0_headAt 32 = .ok (.getfield 44, 3) := by decide +kernel
theorem dX0_headAt_35 : decode cX0_headAt 35 = .ok (.iload_n 1, 1) := by decide +kernel
theorem dX0_headAt_36 : decode cX0_headAt 36 = .ok (.aaload, 1) := by decide +kernel
theorem dX0_headAt_37 : decode cX0_headAt 37 = .ok (.goto 4, 3) := by decide +kernel
theorem dX0_headAt_40 : decode cX0_headAt 40 = .ok (.aconst_null, 1) := by decide +kernel
theorem dX0_headAt_41 : decode cX0_headAt 41 = .ok (.areturn, 1) := by decide +kernel
abbrev rmX0_headAt : Room := { frames := 0, cells := 0, slots := 0, locals := 0 }
def w_X0_headAt (n : Nat) (M : Mem) (t : Nat) (p1 : Int32) (K : Nat → Mem → Prop) : Prop := ((p1 < 0 → K 0 M) ∧ (¬ p1 < 0 → ((t ≤ n ∧ kd t = (0, 0)) ∧ (((gI M t 6) ≤ p1 → K 0 M) ∧ (¬ (gI M t 6) ≤ p1 → (∀ r2, r2 = gR M t 3 → ((r2 ≤ n ∧ 7 ≤ (kd r2).1 ∧ (kd r2).1 < 13) ∧ (((nI (kd r2).2) ≤ p1 → K 0 M) ∧ (¬ (nI (kd r2).2) ≤ p1 → (∀ r3, r3 = gR M t 3 → ((r3 ≤ n ∧ (10 ≤ (kd r3).1 ∧ (kd r3).1 < 13) ∧ vp_in p1 (kd r3).2) ∧ (∀ r4, r4 = gR M r3 (Int32.toNatClampNeg p1) → K r4 M))))))))))))
set_option maxHeartbeats 4000000 in
set_option maxRecDepth 20000 in
theorem c_X0_headAt (l : Launch) (E : Gl) (n : Nat) (M : Mem) (t : Nat) (p1 : Int32) (K : Nat → Mem → Prop) (hw : w_X0_headAt n M t p1 K) : CT E l yX0_headAt cX0_headAt 3 (some (.object "LeakCarousel$Head")) rmX0_headAt n M [rV t, iV p1] (PR E n K) := by
  refine g_met l (by decide) (Nat.le_of_ble_eq_true rfl) ?_
  intro p e s m args below meth c X hr hlk hnm hSz hOld
  change CX E p s m c _ _ RX0 at X
  unfold w_X0_headAt at hw
  refine g_iload_n X dX0_headAt_0 1 rfl ?_
  refine g_if_lt X 25 dX0_headAt_1 (by decide) hw (fun hw => ?_) (fun hw => ?_)
  · refine g_iconst X (0 : Int32) dX0_headAt_25 (by decide) ?_
    refine g_istore_n (lv' := [(2, iV (0 : Int32)), (0, rV t), (1, iV p1)]) X dX0_headAt_26 (by decide) rfl ?_
    refine g_iload_n X dX0_headAt_27 0 rfl ?_
    refine g_if_eq (B := False) X 40 dX0_headAt_28 (by decide) ⟨fun _ => hw, fun h => absurd h (by decide)⟩ (fun hw => ?_) (fun h => h.elim)
    refine g_null X dX0_headAt_40 ?_
    exact g_aret X hr (Or.inl ⟨_, rfl⟩) hlk hSz hOld (Nat.le_refl _) dX0_headAt_41 hw
  · refine g_iload_n X dX0_headAt_4 1 rfl ?_
    refine g_aload_n X dX0_headAt_5 0 rfl ?_
    obtain ⟨hk1, hw⟩ := hw
    refine g_get X (iV (gI M t 6)) dX0_headAt_6 fl_X0_58 (fun _ => rfl) ⟨hk1, hw⟩ (fun hw => ?_)
    refine g_icmp_ge X 25 dX0_headAt_9 (by decide) hw (fun hw => ?_) (fun hw => ?_)
    · refine g_iconst X (0 : Int32) dX0_headAt_25 (by decide) ?_
      refine g_istore_n (lv' := [(2, iV (0 : Int32)), (0, rV t), (1, iV p1)]) X dX0_headAt_26 (by decide) rfl ?_
      refine g_iload_n X dX0_headAt_27 0 rfl ?_
      refine g_if_eq (B := False) X 40 dX0_headAt_28 (by decide) ⟨fun _ => hw, fun h => absurd h (by decide)⟩ (fun hw => ?_) (fun h => h.elim)
      refine g_null X dX0_headAt_40 ?_
      exact g_aret X hr (Or.inl ⟨_, rfl⟩) hlk hSz hOld (Nat.le_refl _) dX0_headAt_41 hw
    · refine g_iload_n X dX0_headAt_12 1 rfl ?_
      refine g_aload_n X dX0_headAt_13 0 rfl ?_
      refine g_get X (rV (gR M t 3)) dX0_headAt_14 fl_X0_44 (fun _ => rfl) ⟨hk1, hw⟩ (fun hw => ?_)
      refine g_topR (fun r2 hr2 => ?_)
      have hw := hw r2 hr2
      refine g_alen X dX0_headAt_17 hw (fun hw => ?_)
      refine g_icmp_ge X 25 dX0_headAt_18 (by decide) hw (fun hw => ?_) (fun hw => ?_)
      · refine g_iconst X (0 : Int32) dX0_headAt_25 (by decide) ?_
        refine g_istore_n (lv' := [(2, iV (0 : Int32)), (0, rV t), (1, iV p1)]) X dX0_headAt_26 (by decide) rfl ?_
        refine g_iload_n X dX0_headAt_27 0 rfl ?_
        refine g_if_eq (B := False) X 40 dX0_headAt_28 (by decide) ⟨fun _ => hw, fun h => absurd h (by decide)⟩ (fun hw => ?_) (fun h => h.elim)
        refine g_null X dX0_headAt_40 ?_
        exact g_aret X hr (Or.inl ⟨_, rfl⟩) hlk hSz hOld (Nat.le_refl _) dX0_headAt_41 hw
      · refine g_iconst X (1 : Int32) dX0_headAt_21 (by decide) ?_
        refine g_goto X 26 dX0_headAt_22 (by decide) ?_
        refine g_istore_n (lv' := [(2, iV (1 : Int32)), (0, rV t), (1, iV p1)]) X dX0_headAt_26 (by decide) rfl ?_
        refine g_iload_n X dX0_headAt_27 0 rfl ?_
        refine g_if_eq (A := False) X 40 dX0_headAt_28 (by decide) ⟨fun h => absurd h (by decide), fun _ => hw⟩ (fun h => h.elim) (fun hw => ?_)
        refine g_aload_n X dX0_headAt_31 1 rfl ?_
        refine g_get X (rV (gR M t 3)) dX0_headAt_32 fl_X0_44 (fun _ => rfl) ⟨hk1, hw⟩ (fun hw => ?_)
        refine g_topR (fun r3 hr3 => ?_)
        have hw := hw r3 hr3
        refine g_iload_n X dX0_headAt_35 2 rfl ?_
        refine g_aald X dX0_headAt_36 hw (fun hw => ?_)
        refine g_topR (fun r4 hr4 => ?_)
        have hw := hw r4 hr4
        refine g_goto X 41 dX0_headAt_37 (by decide) ?_
        exact g_aret X hr (Or.inl ⟨_, rfl⟩) hlk hSz hOld (Nat.le_refl _) dX0_headAt_41 hw
theorem dX0_partAt_0 : decode cX0_partAt 0 = .ok (.iload_n 1, 1) := by decide +kernel
theorem dX0_partAt_1 : decode cX0_partAt 1 = .ok (.ifCond .lt 24, 3) := by decide +kernel
theorem dX0_partAt_4 : decode cX0_partAt 4 = .ok (.iload_n 1, 1) := by decide +kernel
theorem dX0_partAt_5 : decode cX0_partAt 5 = .ok (.aload_n 0, 1) := by decide +kernel
theorem dX0_partAt_6 : decode cX0_partAt 6 = .ok (.getfield 61, 3) := by decide +kernel
theorem dX0_partAt_9 : decode cX0_partAt 9 = .ok (.if_icmp .ge 16, 3) := by decide +kernel
theorem dX0_partAt_12 : decode cX0_partAt 12 = .ok (.iload_n 1, 1) := by decide +kernel
theorem dX0_partAt_13 : decode cX0_partAt 13 = .ok (.aload_n 0, 1) := by decide +kernel
theorem dX0_partAt_14 : decode cX0_partAt 14 = .ok (.getfield 53, 3) := by decide +kernel
theorem dX0_partAt_17 : decode cX0_partAt 17 = .ok (.arraylength, 1) := by decide +kernel
theorem dX0_partAt_18 : decode cX0_partAt 18 = .ok (.if_icmp .ge 7, 3) := by decide +kernel
theorem dX0_partAt_21 : decode cX0_partAt 21 = .ok (.iconst 1, 1) := by decide +kernel
theorem dX0_partAt_22 : decode cX0_partAt 22 = .ok (.goto 4, 3) := by decide +kernel
theorem dX0_partAt_25 : decode cX0_partAt 25 = .ok (.iconst 0, 1) := by decide +kernel
theorem dX0_partAt_26 : decode cX0_partAt 26 = .ok (.istore_n 2, 1) := by decide +kernel
theorem dX0_partAt_27 : decode cX0_partAt 27 = .ok (.iload_n 2, 1) := by decide +kernel
theorem dX0_partAt_28 : decode cX0_partAt 28 = .ok (.ifCond .eq 12, 3) := by decide +kernel
theorem dX0_partAt_31 : decode cX0_partAt 31 = .ok (.aload_n 0, 1) := by decide +kernel
theorem dX0_partAt_32 : decode cX0_partAt 32 = .ok (.getfield 53, 3) := by decide +kernel
theorem dX0_partAt_35 : decode cX0_partAt 35 = .ok (.iload_n 1, 1) := by decide +kernel
theorem dX0_partAt_36 : decode cX0_partAt 36 = .ok (.aaload, 1) := by decide +kernel
theorem dX0_partAt_37 : decode cX0_partAt 37 = .ok (.goto 4, 3) := by decide +kernel
theorem dX0_partAt_40 : decode cX0_partAt 40 = .ok (.aconst_null, 1) := by decide +kernel
theorem dX0_partAt_41 : decode cX0_partAt 41 = .ok (.areturn, 1) := by decide +kernel
abbrev rmX0_partAt : Room := { frames := 0, cells := 0, slots := 0, locals := 0 }
def w_X0_partAt (n : Nat) (M : Mem) (t : Nat) (p1 : Int32) (K : Nat → Mem → Prop) : Prop := ((p1 < 0 → K 0 M) ∧ (¬ p1 < 0 → ((t ≤ n ∧ kd t = (0, 0)) ∧ (((gI M t 7) ≤ p1 → K 0 M) ∧ (¬ (gI M t 7) ≤ p1 → (∀ r2, r2 = gR M t 4 → ((r2 ≤ n ∧ 7 ≤ (kd r2).1 ∧ (kd r2).1 < 13) ∧ (((nI (kd r2).2) ≤ p1 → K 0 M) ∧ (¬ (nI (kd r2).2) ≤ p1 → (∀ r3, r3 = gR M t 4 → ((r3 ≤ n ∧ (10 ≤ (kd r3).1 ∧ (kd r3).1 < 13) ∧ vp_in p1 (kd r3).2) ∧ (∀ r4, r4 = gR M r3 (Int32.toNatClampNeg p1) → K r4 M))))))))))))
set_option maxHeartbeats 4000000 in
set_option maxRecDepth 20000 in
theorem c_X0_partAt (l : Launch) (E : Gl) (n : Nat) (M : Mem) (t : Nat) (p1 : Int32) (K : Nat → Mem → Prop) (hw : w_X0_partAt n M t p1 K) : CT E l yX0_partAt cX0_partAt 3 (some (.object "LeakCarousel$Part")) rmX0_partAt n M [rV t, iV p1] (PR E n K) := by
  refine g_met l (by decide) (Nat.le_of_ble_eq_true rfl) ?_
  intro p e s m args below meth c X hr hlk hnm hSz hOld
  change CX E p s m c _ _ RX0 at X
  unfold w_X0_partAt at hw
  refine g_iload_n X dX0_partAt_0 1 rfl ?_
  refine g_if_lt X 25 dX0_partAt_1 (by decide) hw (fun hw => ?_) (fun hw => ?_)
  · refine g_iconst X (0 : Int32) dX0_partAt_25 (by decide) ?_
    refine g_istore_n (lv' := [(2, iV (0 : Int32)), (0, rV t), (1, iV p1)]) X dX0_partAt_26 (by decide) rfl ?_
    refine g_iload_n X dX0_partAt_27 0 rfl ?_
    refine g_if_eq (B := False) X 40 dX0_partAt_28 (by decide) ⟨fun _ => hw, fun h => absurd h (by decide)⟩ (fun hw => ?_) (fun h => h.elim)
    refine g_null X dX0_partAt_40 ?_
    exact g_aret X hr (Or.inl ⟨_, rfl⟩) hlk hSz hOld (Nat.le_refl _) dX0_partAt_41 hw
  · refine g_iload_n X dX0_partAt_4 1 rfl ?_
    refine g_aload_n X dX0_partAt_5 0 rfl ?_
    obtain ⟨hk1, hw⟩ := hw
    refine g_get X (iV (gI M t 7)) dX0_partAt_6 fl_X0_61 (fun _ => rfl) ⟨hk1, hw⟩ (fun hw => ?_)
    refine g_icmp_ge X 25 dX0_partAt_9 (by decide) hw (fun hw => ?_) (fun hw => ?_)
    · refine g_iconst X (0 : Int32) dX0_partAt_25 (by decide) ?_
      refine g_istore_n (lv' := [(2, iV (0 : Int32)), (0, rV t), (1, iV p1)]) X dX0_partAt_26 (by decide) rfl ?_
      refine g_iload_n X dX0_partAt_27 0 rfl ?_
      refine g_if_eq (B := False) X 40 dX0_partAt_28 (by decide) ⟨fun _ => hw, fun h => absurd h (by decide)⟩ (fun hw => ?_) (fun h => h.elim)
      refine g_null X dX0_partAt_40 ?_
      exact g_aret X hr (Or.inl ⟨_, rfl⟩) hlk hSz hOld (Nat.le_refl _) dX0_partAt_41 hw
    · refine g_iload_n X dX0_partAt_12 1 rfl ?_
      refine g_aload_n X dX0_partAt_13 0 rfl ?_
      refine g_get X (rV (gR M t 4)) dX0_partAt_14 fl_X0_53 (fun _ => rfl) ⟨hk1, hw⟩ (fun hw => ?_)
      refine g_topR (fun r2 hr2 => ?_)
      have hw := hw r2 hr2
      refine g_alen X dX0_partAt_17 hw (fun hw => ?_)
      refine g_icmp_ge X 25 dX0_partAt_18 (by decide) hw (fun hw => ?_) (fun hw => ?_)
      · refine g_iconst X (0 : Int32) dX0_partAt_25 (by decide) ?_
        refine g_istore_n (lv' := [(2, iV (0 : Int32)), (0, rV t), (1, iV p1)]) X dX0_partAt_26 (by decide) rfl ?_
        refine g_iload_n X dX0_partAt_27 0 rfl ?_
        refine g_if_eq (B := False) X 40 dX0_partAt_28 (by decide) ⟨fun _ => hw, fun h => absurd h (by decide)⟩ (fun hw => ?_) (fun h => h.elim)
        refine g_null X dX0_partAt_40 ?_
        exact g_aret X hr (Or.inl ⟨_, rfl⟩) hlk hSz hOld (Nat.le_refl _) dX0_partAt_41 hw
      · refine g_iconst X (1 : Int32) dX0_partAt_21 (by decide) ?_
        refine g_goto X 26 dX0_partAt_22 (by decide) ?_
        refine g_istore_n (lv' := [(2, iV (1 : Int32)), (0, rV t), (1, iV p1)]) X dX0_partAt_26 (by decide) rfl ?_
        refine g_iload_n X dX0_partAt_27 0 rfl ?_
        refine g_if_eq (A := False) X 40 dX0_partAt_28 (by decide) ⟨fun h => absurd h (by decide), fun _ => hw⟩ (fun h => h.elim) (fun hw => ?_)
        refine g_aload_n X dX0_partAt_31 1 rfl ?_
        refine g_get X (rV (gR M t 4)) dX0_partAt_32 fl_X0_53 (fun _ => rfl) ⟨hk1, hw⟩ (fun hw => ?_)
        refine g_topR (fun r3 hr3 => ?_)
        have hw := hw r3 hr3
        refine g_iload_n X dX0_partAt_35 2 rfl ?_
        refine g_aald X dX0_partAt_36 hw (fun hw => ?_)
        refine g_topR (fun r4 hr4 => ?_)
        have hw := hw r4 hr4
        refine g_goto X 41 dX0_partAt_37 (by decide) ?_
        exact g_aret X hr (Or.inl ⟨_, rfl⟩) hlk hSz hOld (Nat.le_refl _) dX0_partAt_41 hw
theorem dX0_pressureAt_0 : decode cX0_pressureAt 0 = .ok (.iload_n 1, 1) := by decide +kernel
theorem dX0_pressureAt_1 : decode cX0_pressureAt 1 = .ok (.tableswitch 42 0 2 #[27, 32, 37], 27) := by decide +kernel
theorem dX0_pressureAt_28 : decode cX0_pressureAt 28 = .ok (.aload_n 0, 1) := by decide +kernel
theorem dX0_pressureAt_29 : decode cX0_pressureAt 29 = .ok (.getfield 20, 3) := by decide +kernel
theorem dX0_pressureAt_32 : decode cX0_pressureAt 32 = .ok (.areturn, 1) := by decide +kernel
theorem dX0_pressureAt_33 : decode cX0_pressureAt 33 = .ok (.aload_n 0, 1) := by decide +kernel
theorem dX0_pressureAt_34 : decode cX0_pressureAt 34 = .ok (.getfield 30, 3) := by decide +kernel
theorem dX0_pressureAt_37 : decode cX0_pressureAt 37 = .ok (.areturn, 1) := by decide +kernel
theorem dX0_pressureAt_38 : decode cX0_pressureAt 38 = .ok (.aload_n 0, 1) := by decide +kernel
theorem dX0_pressureAt_39 : decode cX0_pressureAt 39 = .ok (.getfield 35, 3) := by decide +kernel
theorem dX0_pressureAt_42 : decode cX0_pressureAt 42 = .ok (.areturn, 1) := by decide +kernel
theorem dX0_pressureAt_43 : decode cX0_pressureAt 43 = .ok (.aconst_null, 1) := by decide +kernel
theorem dX0_pressureAt_44 : decode cX0_pressureAt 44 = .ok (.areturn, 1) := by decide +kernel
abbrev rmX0_pressureAt : Room := { frames := 0, cells := 0, slots := 0, locals := 0 }
def w_X0_pressureAt (n : Nat) (M : Mem) (t : Nat) (p1 : Int32) (K : Nat → Mem → Prop) : Prop := ((p1 = (0 : Int32) → ((t ≤ n ∧ kd t = (0, 0)) ∧ (∀ r2, r2 = gR M t 0 → K r2 M))) ∧ (¬ p1 = (0 : Int32) → ((p1 = (1 : Int32) → ((t ≤ n ∧ kd t = (0, 0)) ∧ (∀ r4, r4 = gR M t 1 → K r4 M))) ∧ (¬ p1 = (1 : Int32) → ((p1 = (2 : Int32) → ((t ≤ n ∧ kd t = (0, 0)) ∧ (∀ r6, r6 = gR M t 2 → K r6 M))) ∧ (¬ p1 = (2 : Int32) → K 0 M))))))
set_option maxHeartbeats 4000000 in
set_option maxRecDepth 20000 in
theorem c_X0_pressureAt (l : Launch) (E : Gl) (n : Nat) (M : Mem) (t : Nat) (p1 : Int32) (K : Nat → Mem → Prop) (hw : w_X0_pressureAt n M t p1 K) : CT E l yX0_pressureAt cX0_pressureAt 2 (some (.object "LeakCarousel$Pressure")) rmX0_pressureAt n M [rV t, iV p1] (PR E n K) := by
  refine g_met l (by decide) (Nat.le_of_ble_eq_true rfl) ?_
  intro p e s m args below meth c X hr hlk hnm hSz hOld
  change CX E p s m c _ _ RX0 at X
  unfold w_X0_pressureAt at hw
  refine g_iload_n X dX0_pressureAt_0 1 rfl ?_
  by_cases q0 : p1 = (0 : Int32)
  · have hw := hw.1 q0
    refine g_swIn (off := 27) X 28 dX0_pressureAt_1 (by rw [q0]; decide) (by rw [q0]; decide) (by rw [q0]; decide) (by decide) ?_
    refine g_aload_n X dX0_pressureAt_28 0 rfl ?_
    obtain ⟨hk1, hw⟩ := hw
    refine g_get X (rV (gR M t 0)) dX0_pressureAt_29 fl_X0_20 (fun _ => rfl) ⟨hk1, hw⟩ (fun hw => ?_)
    refine g_topR (fun r2 hr2 => ?_)
    have hw := hw r2 hr2
    exact g_aret X hr (Or.inl ⟨_, rfl⟩) hlk hSz hOld (Nat.le_refl _) dX0_pressureAt_32 hw
  have hw := hw.2 q0
  by_cases q1 : p1 = (1 : Int32)
  · have hw := hw.1 q1
    refine g_swIn (off := 32) X 33 dX0_pressureAt_1 (by rw [q1]; decide) (by rw [q1]; decide) (by rw [q1]; decide) (by decide) ?_
    refine g_aload_n X dX0_pressureAt_33 0 rfl ?_
    obtain ⟨hk3, hw⟩ := hw
    refine g_get X (rV (gR M t 1)) dX0_pressureAt_34 fl_X0_30 (fun _ => rfl) ⟨hk3, hw⟩ (fun hw => ?_)
    refine g_topR (fun r4 hr4 => ?_)
    have hw := hw r4 hr4
    exact g_aret X hr (Or.inl ⟨_, rfl⟩) hlk hSz hOld (Nat.le_refl _) dX0_pressureAt_37 hw
  have hw := hw.2 q1
  by_cases q2 : p1 = (2 : Int32)
  · have hw := hw.1 q2
    refine g_swIn (off := 37) X 38 dX0_pressureAt_1 (by rw [q2]; decide) (by rw [q2]; decide) (by rw [q2]; decide) (by decide) ?_
    refine g_aload_n X dX0_pressureAt_38 0 rfl ?_
    obtain ⟨hk5, hw⟩ := hw
    refine g_get X (rV (gR M t 2)) dX0_pressureAt_39 fl_X0_35 (fun _ => rfl) ⟨hk5, hw⟩ (fun hw => ?_)
    refine g_topR (fun r6 hr6 => ?_)
    have hw := hw r6 hr6
    exact g_aret X hr (Or.inl ⟨_, rfl⟩) hlk hSz hOld (Nat.le_refl _) dX0_pressureAt_42 hw
  have hw := hw.2 q2
  have swn0 := sw_ne (k := 0) (by decide) q0
  have swn1 := sw_ne (k := 1) (by decide) q1
  have swn2 := sw_ne (k := 2) (by decide) q2
  refine g_swOut X 43 dX0_pressureAt_1 (by omega) (by decide) ?_
  refine g_null X dX0_pressureAt_43 ?_
  exact g_aret X hr (Or.inl ⟨_, rfl⟩) hlk hSz hOld (Nat.le_refl _) dX0_pressureAt_44 hw
theorem dX0_partsIn_0 : decode cX0_partsIn 0 = .ok (.iconst 0, 1) := by decide +kernel
theorem dX0_partsIn_1 : decode cX0_partsIn 1 = .ok (.istore_n 2, 1) := by decide +kernel
theorem dX0_partsIn_2 : decode cX0_partsIn 2 = .ok (.aload_n 0, 1) := by decide +kernel
theorem dX0_partsIn_3 : decode cX0_partsIn 3 = .ok (.getfield 53, 3) := by decide +kernel
theorem dX0_partsIn_6 : decode cX0_partsIn 6 = .ok (.astore_n 3, 1) := by decide +kernel
theorem dX0_partsIn_7 : decode cX0_partsIn 7 = .ok (.aload_n 3, 1) := by decide +kernel
theorem dX0_partsIn_8 : decode cX0_partsIn 8 = .ok (.arraylength, 1) := by decide +kernel
theorem dX0_partsIn_9 : decode cX0_partsIn 9 = .ok (.istore 4, 2) := by decide +kernel
theorem dX0_partsIn_11 : decode cX0_partsIn 11 = .ok (.iconst 0, 1) := by decide +kernel
theorem dX0_partsIn_12 : decode cX0_partsIn 12 = .ok (.istore 5, 2) := by decide +kernel
theorem dX0_partsIn_14 : decode cX0_partsIn 14 = .ok (.iload 5, 2) := by decide +kernel
theorem dX0_partsIn_16 : decode cX0_partsIn 16 = .ok (.iload 4, 2) := by decide +kernel
theorem dX0_partsIn_18 : decode cX0_partsIn 18 = .ok (.if_icmp .ge 27, 3) := by decide +kernel
theorem dX0_partsIn_21 : decode cX0_partsIn 21 = .ok (.aload_n 3, 1) := by decide +kernel
theorem dX0_partsIn_22 : decode cX0_partsIn 22 = .ok (.iload 5, 2) := by decide +kernel
theorem dX0_partsIn_24 : decode cX0_partsIn 24 = .ok (.aaload, 1) := by decide +kernel
theorem dX0_partsIn_25 : decode cX0_partsIn 25 = .ok (.astore 6, 2) := by decide +kernel
theorem dX0_partsIn_27 : decode cX0_partsIn 27 = .ok (.aload 6, 2) := by decide +kernel
theorem dX0_partsIn_29 : decode cX0_partsIn 29 = .ok (.getfield 93, 3) := by decide +kernel
theorem dX0_partsIn_32 : decode cX0_partsIn 32 = .ok (.iload_n 1, 1) := by decide +kernel
theorem dX0_partsIn_33 : decode cX0_partsIn 33 = .ok (.if_icmp .ne 6, 3) := by decide +kernel
theorem dX0_partsIn_36 : decode cX0_partsIn 36 = .ok (.iinc 2 1, 3) := by decide +kernel
theorem dX0_partsIn_39 : decode cX0_partsIn 39 = .ok (.iinc 5 1, 3) := by decide +kernel
theorem dX0_partsIn_42 : decode cX0_partsIn 42 = .ok (.goto (-28), 3) := by decide +kernel
theorem dX0_partsIn_45 : decode cX0_partsIn 45 = .ok (.iload_n 2, 1) := by decide +kernel
theorem dX0_partsIn_46 : decode cX0_partsIn 46 = .ok (.ireturn, 1) := by decide +kernel
abbrev rmX0_partsIn : Room := { frames := 0, cells := 0, slots := 0, locals := 0 }
def w_X0_partsIn_L14 (n : Nat) (K : Int32 → Mem → Prop) : Nat → Mem → Int32 → Int32 → Nat → Int32 → Int32 → Prop
  | 0, _, _, _, _, _, _ => False
  | fuel + 1, M, a1, a2, o3, a4, a5 => ((a4 ≤ a5 → K a2 M) ∧ (¬ a4 ≤ a5 → ((o3 ≤ n ∧ (10 ≤ (kd o3).1 ∧ (kd o3).1 < 13) ∧ vp_in a5 (kd o3).2) ∧ (∀ r4, r4 = gR M o3 (Int32.toNatClampNeg a5) → ((r4 ≤ n ∧ kd r4 = (2, 0)) ∧ ((¬ (gI M r4 4) = a1 → (∀ x6, x6 = a5 + (1 : Int32) → w_X0_partsIn_L14 n K fuel M a1 a2 o3 a4 x6)) ∧ ((gI M r4 4) = a1 → (∀ x7, x7 = a2 + (1 : Int32) → (∀ x8, x8 = a5 + (1 : Int32) → w_X0_partsIn_L14 n K fuel M a1 x7 o3 a4 x8)))))))))
def w_X0_partsIn (n : Nat) (M : Mem) (t : Nat) (p1 : Int32) (K : Int32 → Mem → Prop) : Prop := ((t ≤ n ∧ kd t = (0, 0)) ∧ (∀ r2, r2 = gR M t 4 → ((r2 ≤ n ∧ 7 ≤ (kd r2).1 ∧ (kd r2).1 < 13) ∧ (∀ x3, x3 = nI (kd r2).2 → w_X0_partsIn_L14 n K 4000 M p1 (0 : Int32) r2 x3 (0 : Int32)))))
set_option maxHeartbeats 4000000 in
set_option maxRecDepth 20000 in
theorem c_X0_partsIn (l : Launch) (E : Gl) (n : Nat) (M : Mem) (t : Nat) (p1 : Int32) (K : Int32 → Mem → Prop) (hw : w_X0_partsIn n M t p1 K) : CT E l yX0_partsIn cX0_partsIn 7 (some .int) rmX0_partsIn n M [rV t, iV p1] (PI E n K) := by
  refine g_met l (by decide) (Nat.le_of_ble_eq_true rfl) ?_
  intro p e s m args below meth c X hr hlk hnm hSz hOld
  change CX E p s m c _ _ RX0 at X
  have L14 : ∀ (fuel14 : Nat) (M : Mem) (a1 : Int32) (a2 : Int32) (o3 : Nat) (a4 : Int32) (a5 : Int32), w_X0_partsIn_L14 n K fuel14 M a1 a2 o3 a4 a5 → G E p l e rmX0_partsIn s m args below meth c 7 n M 0 0 (MQD lw_cs below (PI E n K) args s rmX0_partsIn.cells rmX0_partsIn.slots (Ab E)) 14 [(1, iV a1), (2, iV a2), (3, rV o3), (4, iV a4), (5, iV a5)] [] := by
    intro fuel14
    induction fuel14 with
    | zero => intro M a1 a2 o3 a4 a5 hw; exact False.elim hw
    | succ fuel14 ih14 =>
      intro M a1 a2 o3 a4 a5 hw
      unfold w_X0_partsIn_L14 at hw
      refine g_iload X dX0_partsIn_14 4 rfl ?_
      refine g_iload X dX0_partsIn_16 3 rfl ?_
      refine g_icmp_ge X 45 dX0_partsIn_18 (by decide) hw (fun hw => ?_) (fun hw => ?_)
      · refine g_iload_n X dX0_partsIn_45 1 rfl ?_
        exact g_iret X hr hlk hSz hOld (Nat.le_refl _) dX0_partsIn_46 hw
      · refine g_aload_n X dX0_partsIn_21 2 rfl ?_
        refine g_iload X dX0_partsIn_22 4 rfl ?_
        refine g_aald X dX0_partsIn_24 hw (fun hw => ?_)
        refine g_topR (fun r4 hr4 => ?_)
        have hw := hw r4 hr4
        refine g_astore (lv' := [(6, rV r4), (1, iV a1), (2, iV a2), (3, rV o3), (4, iV a4), (5, iV a5)]) X dX0_partsIn_25 (by decide) rfl ?_
        refine g_aload X dX0_partsIn_27 0 rfl ?_
        obtain ⟨hk5, hw⟩ := hw
        refine g_get X (iV (gI M r4 4)) dX0_partsIn_29 fl_X0_93 (fun _ => rfl) ⟨hk5, hw⟩ (fun hw => ?_)
        refine g_iload_n X dX0_partsIn_32 1 rfl ?_
        refine g_icmp_ne X 39 dX0_partsIn_33 (by decide) hw (fun hw => ?_) (fun hw => ?_)
        · obtain ⟨x6, hx6⟩ : ∃ y : Int32, y = a5 + (1 : Int32) := ⟨_, rfl⟩
          have hw := hw x6 hx6
          refine g_iinc (lv' := [(5, iV x6), (6, rV r4), (1, iV a1), (2, iV a2), (3, rV o3), (4, iV a4)]) X x6 dX0_partsIn_39 5 rfl (by rw [hx6]; rfl) (by decide) rfl ?_
          refine g_goto X 14 dX0_partsIn_42 (by decide) ?_
          refine g_lvsub (lv' := [(1, iV a1), (2, iV a2), (3, rV o3), (4, iV a4), (5, iV x6)]) [2, 3, 4, 5, 0] rfl ?_
          exact ih14 _ _ _ _ _ _ hw
        · obtain ⟨x7, hx7⟩ : ∃ y : Int32, y = a2 + (1 : Int32) := ⟨_, rfl⟩
          have hw := hw x7 hx7
          refine g_iinc (lv' := [(2, iV x7), (6, rV r4), (1, iV a1), (3, rV o3), (4, iV a4), (5, iV a5)]) X x7 dX0_partsIn_36 2 rfl (by rw [hx7]; rfl) (by decide) rfl ?_
          obtain ⟨x8, hx8⟩ : ∃ y : Int32, y = a5 + (1 : Int32) := ⟨_, rfl⟩
          have hw := hw x8 hx8
          refine g_iinc (lv' := [(5, iV x8), (2, iV x7), (6, rV r4), (1, iV a1), (3, rV o3), (4, iV a4)]) X x8 dX0_partsIn_39 5 rfl (by rw [hx8]; rfl) (by decide) rfl ?_
          refine g_goto X 14 dX0_partsIn_42 (by decide) ?_
          refine g_lvsub (lv' := [(1, iV a1), (2, iV x7), (3, rV o3), (4, iV a4), (5, iV x8)]) [3, 1, 4, 5, 0] rfl ?_
          exact ih14 _ _ _ _ _ _ hw
  unfold w_X0_partsIn at hw
  refine g_iconst X (0 : Int32) dX0_partsIn_0 (by decide) ?_
  refine g_istore_n (lv' := [(2, iV (0 : Int32)), (0, rV t), (1, iV p1)]) X dX0_partsIn_1 (by decide) rfl ?_
  refine g_aload_n X dX0_partsIn_2 1 rfl ?_
  obtain ⟨hk1, hw⟩ := hw
  refine g_get X (rV (gR M t 4)) dX0_partsIn_3 fl_X0_53 (fun _ => rfl) ⟨hk1, hw⟩ (fun hw => ?_)
  refine g_topR (fun r2 hr2 => ?_)
  have hw := hw r2 hr2
  refine g_astore_n (lv' := [(3, rV r2), (2, iV (0 : Int32)), (0, rV t), (1, iV p1)]) X dX0_partsIn_6 (by decide) rfl ?_
  refine g_aload_n X dX0_partsIn_7 0 rfl ?_
  refine g_alen X dX0_partsIn_8 hw (fun hw => ?_)
  refine g_topI (fun x3 hx3 => ?_)
  have hw := hw x3 hx3
  refine g_istore (lv' := [(4, iV x3), (3, rV r2), (2, iV (0 : Int32)), (0, rV t), (1, iV p1)]) X dX0_partsIn_9 (by decide) rfl ?_
  refine g_iconst X (0 : Int32) dX0_partsIn_11 (by decide) ?_
  refine g_istore (lv' := [(5, iV (0 : Int32)), (4, iV x3), (3, rV r2), (2, iV (0 : Int32)), (0, rV t), (1, iV p1)]) X dX0_partsIn_12 (by decide) rfl ?_
  refine g_lvsub (lv' := [(1, iV p1), (2, iV (0 : Int32)), (3, rV r2), (4, iV x3), (5, iV (0 : Int32))]) [5, 3, 2, 1, 0] rfl ?_
  exact L14 _ _ _ _ _ _ _ hw
theorem dX0_addPart_0 : decode cX0_addPart 0 = .ok (.aload_n 0, 1) := by decide +kernel
theorem dX0_addPart_1 : decode cX0_addPart 1 = .ok (.getfield 61, 3) := by decide +kernel
theorem dX0_addPart_4 : decode cX0_addPart 4 = .ok (.istore 4, 2) := by decide +kernel
theorem dX0_addPart_6 : decode cX0_addPart 6 = .ok (.iload 4, 2) := by decide +kernel
theorem dX0_addPart_8 : decode cX0_addPart 8 = .ok (.ifCond .lt 13, 3) := by decide +kernel
theorem dX0_addPart_11 : decode cX0_addPart 11 = .ok (.iload 4, 2) := by decide +kernel
theorem dX0_addPart_13 : decode cX0_addPart 13 = .ok (.aload_n 0, 1) := by decide +kernel
theorem dX0_addPart_14 : decode cX0_addPart 14 = .ok (.getfield 53, 3) := by decide +kernel
theorem dX0_addPart_17 : decode cX0_addPart 17 = .ok (.arraylength, 1) := by decide +kernel
theorem dX0_addPart_18 : decode cX0_addPart 18 = .ok (.if_icmp .lt 6, 3) := by decide +kernel
theorem dX0_addPart_21 : decode cX0_addPart 21 = .ok (.bipush (-3), 2) := by decide +kernel
theorem dX0_addPart_23 : decode cX0_addPart 23 = .ok (.ireturn, 1) := by decide +kernel
theorem dX0_addPart_24 : decode cX0_addPart 24 = .ok (.aload_n 0, 1) := by decide +kernel
theorem dX0_addPart_25 : decode cX0_addPart 25 = .ok (.getfield 53, 3) := by decide +kernel
theorem dX0_addPart_28 : decode cX0_addPart 28 = .ok (.iload 4, 2) := by decide +kernel
theorem dX0_addPart_30 : decode cX0_addPart 30 = .ok (.aaload, 1) := by decide +kernel
theorem dX0_addPart_31 : decode cX0_addPart 31 = .ok (.iload_n 1, 1) := by decide +kernel
theorem dX0_addPart_32 : decode cX0_addPart 32 = .ok (.iload_n 2, 1) := by decide +kernel
theorem dX0_addPart_33 : decode cX0_addPart 33 = .ok (.iload_n 3, 1) := by decide +kernel
theorem dX0_addPart_34 : decode cX0_addPart 34 = .ok (.aload_n 0, 1) := by decide +kernel
theorem dX0_addPart_35 : decode cX0_addPart 35 = .ok (.iconst 0, 1) := by decide +kernel
theorem dX0_addPart_36 : decode cX0_addPart 36 = .ok (.invokevirtual 86, 3) := by decide +kernel
theorem dX0_addPart_39 : decode cX0_addPart 39 = .ok (.invokevirtual 90, 3) := by decide +kernel
theorem dX0_addPart_42 : decode cX0_addPart 42 = .ok (.aload_n 0, 1) := by decide +kernel
theorem dX0_addPart_43 : decode cX0_addPart 43 = .ok (.iload 4, 2) := by decide +kernel
theorem dX0_addPart_45 : decode cX0_addPart 45 = .ok (.iconst 1, 1) := by decide +kernel
theorem dX0_addPart_46 : decode cX0_addPart 46 = .ok (.iadd, 1) := by decide +kernel
theorem dX0_addPart_47 : decode cX0_addPart 47 = .ok (.putfield 61, 3) := by decide +kernel
theorem dX0_addPart_50 : decode cX0_addPart 50 = .ok (.iload 4, 2) := by decide +kernel
theorem dX0_addPart_52 : decode cX0_addPart 52 = .ok (.ireturn, 1) := by decide +kernel
abbrev rmX0_addPart : Room := { frames := 1, cells := 0, slots := 0, locals := 26 }
def w_X0_addPart (n : Nat) (M : Mem) (t : Nat) (p1 : Int32) (p2 : Int32) (p3 : Int32) (K : Int32 → Mem → Prop) : Prop := ((t ≤ n ∧ kd t = (0, 0)) ∧ (∀ x2, x2 = gI M t 7 → ((x2 < 0 → K (-3 : Int32) M) ∧ (¬ x2 < 0 → (∀ r3, r3 = gR M t 4 → ((r3 ≤ n ∧ 7 ≤ (kd r3).1 ∧ (kd r3).1 < 13) ∧ ((x2 < (nI (kd r3).2) → (∀ r4, r4 = gR M t 4 → ((r4 ≤ n ∧ (10 ≤ (kd r4).1 ∧ (kd r4).1 < 13) ∧ vp_in x2 (kd r4).2) ∧ (∀ r5, r5 = gR M r4 (Int32.toNatClampNeg x2) → w_X0_partsIn n M t (0 : Int32) (fun x7 M6 => ((r5 ≤ n ∧ kd r5 = (2, 0)) ∧ w_X2_begin n M6 r5 p1 p2 p3 x7 (fun M9 => (∀ M10, M10 = sI M9 t 7 (x2 + (1 : Int32)) → K x2 M10)))))))) ∧ (¬ x2 < (nI (kd r3).2) → K (-3 : Int32) M))))))))
set_option maxHeartbeats 4000000 in
set_option maxRecDepth 20000 in
theorem c_X0_addPart (l : Launch) (E : Gl) (n : Nat) (M : Mem) (t : Nat) (p1 : Int32) (p2 : Int32) (p3 : Int32) (K : Int32 → Mem → Prop) (hw : w_X0_addPart n M t p1 p2 p3 K) : CT E l yX0_addPart cX0_addPart 5 (some .int) rmX0_addPart n M [rV t, iV p1, iV p2, iV p3] (PI E n K) := by
  refine g_met l (by decide) (Nat.le_of_ble_eq_true rfl) ?_
  intro p e s m args below meth c X hr hlk hnm hSz hOld
  change CX E p s m c _ _ RX0 at X
  unfold w_X0_addPart at hw
  refine g_aload_n X dX0_addPart_0 0 rfl ?_
  obtain ⟨hk1, hw⟩ := hw
  refine g_get X (iV (gI M t 7)) dX0_addPart_1 fl_X0_61 (fun _ => rfl) ⟨hk1, hw⟩ (fun hw => ?_)
  refine g_topI (fun x2 hx2 => ?_)
  have hw := hw x2 hx2
  refine g_istore (lv' := [(4, iV x2), (0, rV t), (1, iV p1), (2, iV p2), (3, iV p3)]) X dX0_addPart_4 (by decide) rfl ?_
  refine g_iload X dX0_addPart_6 0 rfl ?_
  refine g_if_lt X 21 dX0_addPart_8 (by decide) hw (fun hw => ?_) (fun hw => ?_)
  · refine g_bipush X (-3 : Int32) dX0_addPart_21 (by decide) ?_
    exact g_iret X hr hlk hSz hOld (Nat.le_refl _) dX0_addPart_23 hw
  · refine g_iload X dX0_addPart_11 0 rfl ?_
    refine g_aload_n X dX0_addPart_13 1 rfl ?_
    refine g_get X (rV (gR M t 4)) dX0_addPart_14 fl_X0_53 (fun _ => rfl) ⟨hk1, hw⟩ (fun hw => ?_)
    refine g_topR (fun r3 hr3 => ?_)
    have hw := hw r3 hr3
    refine g_alen X dX0_addPart_17 hw (fun hw => ?_)
    refine g_icmp_lt X 24 dX0_addPart_18 (by decide) hw (fun hw => ?_) (fun hw => ?_)
    · refine g_aload_n X dX0_addPart_24 1 rfl ?_
      refine g_get X (rV (gR M t 4)) dX0_addPart_25 fl_X0_53 (fun _ => rfl) ⟨hk1, hw⟩ (fun hw => ?_)
      refine g_topR (fun r4 hr4 => ?_)
      have hw := hw r4 hr4
      refine g_iload X dX0_addPart_28 0 rfl ?_
      refine g_aald X dX0_addPart_30 hw (fun hw => ?_)
      refine g_topR (fun r5 hr5 => ?_)
      have hw := hw r5 hr5
      refine g_iload_n X dX0_addPart_31 2 rfl ?_
      refine g_iload_n X dX0_addPart_32 3 rfl ?_
      refine g_iload_n X dX0_addPart_33 4 rfl ?_
      refine g_aload_n X dX0_addPart_34 1 rfl ?_
      refine g_iconst X (0 : Int32) dX0_addPart_35 (by decide) ?_
      refine g_calli (pc' := 39) (rest := [iV p3, iV p2, iV p1, rV r5]) rfl (fun H locs ls d qR qL => g_runV X cw_X0_86 iv_X0_partsIn ⟨Nat.le_of_ble_eq_true rfl, Nat.le_of_ble_eq_true rfl⟩ dX0_addPart_36 (c_X0_partsIn l E n M t (0 : Int32) _ hw) hk1 rfl rfl (Nat.le_of_ble_eq_true rfl) ⟨Nat.le_of_ble_eq_true rfl, Nat.le_of_ble_eq_true rfl⟩ qR qL) (fun x7 M6 hw => ?_)
      obtain ⟨hk8, hw⟩ := hw
      refine g_callv (pc' := 42) (rest := []) rfl (fun H locs ls d qR qL => g_runV X cw_X0_90 iv_X2_begin ⟨Nat.le_of_ble_eq_true rfl, Nat.le_of_ble_eq_true rfl⟩ dX0_addPart_39 (c_X2_begin l E n M6 r5 p1 p2 p3 x7 _ hw) hk8 rfl rfl (Nat.le_of_ble_eq_true rfl) ⟨Nat.le_of_ble_eq_true rfl, Nat.le_of_ble_eq_true rfl⟩ qR qL) (fun M9 hw => ?_)
      refine g_aload_n X dX0_addPart_42 1 rfl ?_
      refine g_iload X dX0_addPart_43 0 rfl ?_
      refine g_iconst X (1 : Int32) dX0_addPart_45 (by decide) ?_
      refine g_iadd X dX0_addPart_46 ?_
      refine g_putI X dX0_addPart_47 fl_X0_61 rfl (Or.inl rfl) ⟨hk1, hw⟩ (fun hw => ?_)
      refine g_topM (fun M10 hM10 => ?_)
      have hw := hw M10 hM10
      refine g_iload X dX0_addPart_50 0 rfl ?_
      exact g_iret X hr hlk hSz hOld (Nat.le_refl _) dX0_addPart_52 hw
    · refine g_bipush X (-3 : Int32) dX0_addPart_21 (by decide) ?_
      exact g_iret X hr hlk hSz hOld (Nat.le_refl _) dX0_addPart_23 hw
theorem dX0_putInFront_0 : decode cX0_putInFront 0 = .ok (.aload_n 0, 1) := by decide +kernel
theorem dX0_putInFront_1 : decode cX0_putInFront 1 = .ok (.getfield 53, 3) := by decide +kernel
theorem dX0_putInFront_4 : decode cX0_putInFront 4 = .ok (.astore_n 2, 1) := by decide +kernel
theorem dX0_putInFront_5 : decode cX0_putInFront 5 = .ok (.aload_n 2, 1) := by decide +kernel
theorem dX0_putInFront_6 : decode cX0_putInFront 6 = .ok (.arraylength, 1) := by decide +kernel
theorem dX0_putInFront_7 : decode cX0_putInFront 7 = .ok (.istore_n 3, 1) := by decide +kernel
theorem dX0_putInFront_8 : decode cX0_putInFront 8 = .ok (.iconst 0, 1) := by decide +kernel
theorem dX0_putInFront_9 : decode cX0_putInFront 9 = .ok (.istore 4, 2) := by decide +kernel
theorem dX0_putInFront_11 : decode cX0_putInFront 11 = .ok (.iload 4, 2) := by decide +kernel
theorem dX0_putInFront_13 : decode cX0_putInFront 13 = .ok (.iload_n 3, 1) := by decide +kernel
theorem dX0_putInFront_14 : decode cX0_putInFront 14 = .ok (.if_icmp .ge 34, 3) := by decide +kernel
theorem dX0_putInFront_17 : decode cX0_putInFront 17 = .ok (.aload_n 2, 1) := by decide +kernel
theorem dX0_putInFront_18 : decode cX0_putInFront 18 = .ok (.iload 4, 2) := by decide +kernel
theorem dX0_putInFront_20 : decode cX0_putInFront 20 = .ok (.aaload, 1) := by decide +kernel
theorem dX0_putInFront_21 : decode cX0_putInFront 21 = .ok (.astore 5, 2) := by decide +kernel
theorem dX0_putInFront_23 : decode cX0_putInFront 23 = .ok (.aload 5, 2) := by decide +kernel
theorem dX0_putInFront_25 : decode cX0_putInFront 25 = .ok (.getfield 93, 3) := by decide +kernel
theorem dX0_putInFront_28 : decode cX0_putInFront 28 = .ok (.ifCond .ne 14, 3) := by decide +kernel
theorem dX0_putInFront_31 : decode cX0_putInFront 31 = .ok (.aload 5, 2) := by decide +kernel
theorem dX0_putInFront_33 : decode cX0_putInFront 33 = .ok (.dup, 1) := by decide +kernel
theorem dX0_putInFront_34 : decode cX0_putInFront 34 = .ok (.getfield 96, 3) := by decide +kernel
theorem dX0_putInFront_37 : decode cX0_putInFront 37 = .ok (.iconst 1, 1) := by decide +kernel
theorem dX0_putInFront_38 : decode cX0_putInFront 38 = .ok (.iadd, 1) := by decide +kernel
theorem dX0_putInFront_39 : decode cX0_putInFront 39 = .ok (.putfield 96, 3) := by decide +kernel
theorem dX0_putInFront_42 : decode cX0_putInFront 42 = .ok (.iinc 4 1, 3) := by decide +kernel
theorem dX0_putInFront_45 : decode cX0_putInFront 45 = .ok (.goto (-34), 3) := by decide +kernel
theorem dX0_putInFront_48 : decode cX0_putInFront 48 = .ok (.aload_n 1, 1) := by decide +kernel
theorem dX0_putInFront_49 : decode cX0_putInFront 49 = .ok (.iconst 0, 1) := by decide +kernel
theorem dX0_putInFront_50 : decode cX0_putInFront 50 = .ok (.putfield 93, 3) := by decide +kernel
theorem dX0_putInFront_53 : decode cX0_putInFront 53 = .ok (.aload_n 1, 1) := by decide +kernel
theorem dX0_putInFront_54 : decode cX0_putInFront 54 = .ok (.iconst 0, 1) := by decide +kernel
theorem dX0_putInFront_55 : decode cX0_putInFront 55 = .ok (.putfield 96, 3) := by decide +kernel
theorem dX0_putInFront_58 : decode cX0_putInFront 58 = .ok (.return_, 1) := by decide +kernel
abbrev rmX0_putInFront : Room := { frames := 0, cells := 0, slots := 0, locals := 0 }
def w_X0_putInFront_L11 (n : Nat) (K : Mem → Prop) : Nat → Mem → Nat → Nat → Int32 → Int32 → Prop
  | 0, _, _, _, _, _ => False
  | fuel + 1, M, o1, o2, a3, a4 => ((a3 ≤ a4 → ((o1 ≤ n ∧ kd o1 = (2, 0)) ∧ (∀ M5, M5 = sI M o1 4 (0 : Int32) → (∀ M6, M6 = sI M5 o1 5 (0 : Int32) → K M6)))) ∧ (¬ a3 ≤ a4 → ((o2 ≤ n ∧ (10 ≤ (kd o2).1 ∧ (kd o2).1 < 13) ∧ vp_in a4 (kd o2).2) ∧ (∀ r7, r7 = gR M o2 (Int32.toNatClampNeg a4) → ((r7 ≤ n ∧ kd r7 = (2, 0)) ∧ ((¬ (gI M r7 4) = 0 → (∀ x9, x9 = a4 + (1 : Int32) → w_X0_putInFront_L11 n K fuel M o1 o2 a3 x9)) ∧ ((gI M r7 4) = 0 → (∀ M10, M10 = sI M r7 5 ((gI M r7 5) + (1 : Int32)) → (∀ x11, x11 = a4 + (1 : Int32) → w_X0_putInFront_L11 n K fuel M10 o1 o2 a3 x11)))))))))
def w_X0_putInFront (n : Nat) (M : Mem) (t : Nat) (p1 : Nat) (K : Mem → Prop) : Prop := ((t ≤ n ∧ kd t = (0, 0)) ∧ (∀ r2, r2 = gR M t 4 → ((r2 ≤ n ∧ 7 ≤ (kd r2).1 ∧ (kd r2).1 < 13) ∧ (∀ x3, x3 = nI (kd r2).2 → w_X0_putInFront_L11 n K 4000 M p1 r2 x3 (0 : Int32)))))
set_option maxHeartbeats 4000000 in
set_option maxRecDepth 20000 in
theorem c_X0_putInFront (l : Launch) (E : Gl) (n : Nat) (M : Mem) (t : Nat) (p1 : Nat) (K : Mem → Prop) (hw : w_X0_putInFront n M t p1 K) : CT E l yX0_putInFront cX0_putInFront 6 none rmX0_putInFront n M [rV t, rV p1] (PV E n K) := by
  refine g_met l (by decide) (Nat.le_of_ble_eq_true rfl) ?_
  intro p e s m args below meth c X hr hlk hnm hSz hOld
  change CX E p s m c _ _ RX0 at X
  have L11 : ∀ (fuel11 : Nat) (M : Mem) (o1 : Nat) (o2 : Nat) (a3 : Int32) (a4 : Int32), w_X0_putInFront_L11 n K fuel11 M o1 o2 a3 a4 → G E p l e rmX0_putInFront s m args below meth c 6 n M 0 0 (MQD lw_cs below (PV E n K) args s rmX0_putInFront.cells rmX0_putInFront.slots (Ab E)) 11 [(1, rV o1), (2, rV o2), (3, iV a3), (4, iV a4)] [] := by
    intro fuel11
    induction fuel11 with
    | zero => intro M o1 o2 a3 a4 hw; exact False.elim hw
    | succ fuel11 ih11 =>
      intro M o1 o2 a3 a4 hw
      unfold w_X0_putInFront_L11 at hw
      refine g_iload X dX0_putInFront_11 3 rfl ?_
      refine g_iload_n X dX0_putInFront_13 2 rfl ?_
      refine g_icmp_ge X 48 dX0_putInFront_14 (by decide) hw (fun hw => ?_) (fun hw => ?_)
      · refine g_aload_n X dX0_putInFront_48 0 rfl ?_
        refine g_iconst X (0 : Int32) dX0_putInFront_49 (by decide) ?_
        obtain ⟨hk4, hw⟩ := hw
        refine g_putI X dX0_putInFront_50 fl_X0_93 rfl (Or.inl rfl) ⟨hk4, hw⟩ (fun hw => ?_)
        refine g_topM (fun M5 hM5 => ?_)
        have hw := hw M5 hM5
        refine g_aload_n X dX0_putInFront_53 0 rfl ?_
        refine g_iconst X (0 : Int32) dX0_putInFront_54 (by decide) ?_
        refine g_putI X dX0_putInFront_55 fl_X0_96 rfl (Or.inl rfl) ⟨hk4, hw⟩ (fun hw => ?_)
        refine g_topM (fun M6 hM6 => ?_)
        have hw := hw M6 hM6
        exact g_vret X hr hlk hSz hOld (Nat.le_refl _) dX0_putInFront_58 hw
      · refine g_aload_n X dX0_putInFront_17 1 rfl ?_
        refine g_iload X dX0_putInFront_18 3 rfl ?_
        refine g_aald X dX0_putInFront_20 hw (fun hw => ?_)
        refine g_topR (fun r7 hr7 => ?_)
        have hw := hw r7 hr7
        refine g_astore (lv' := [(5, rV r7), (1, rV o1), (2, rV o2), (3, iV a3), (4, iV a4)]) X dX0_putInFront_21 (by decide) rfl ?_
        refine g_aload X dX0_putInFront_23 0 rfl ?_
        obtain ⟨hk8, hw⟩ := hw
        refine g_get X (iV (gI M r7 4)) dX0_putInFront_25 fl_X0_93 (fun _ => rfl) ⟨hk8, hw⟩ (fun hw => ?_)
        refine g_if_ne X 42 dX0_putInFront_28 (by decide) hw (fun hw => ?_) (fun hw => ?_)
        · obtain ⟨x9, hx9⟩ : ∃ y : Int32, y = a4 + (1 : Int32) := ⟨_, rfl⟩
          have hw := hw x9 hx9
          refine g_iinc (lv' := [(4, iV x9), (5, rV r7), (1, rV o1), (2, rV o2), (3, iV a3)]) X x9 dX0_putInFront_42 4 rfl (by rw [hx9]; rfl) (by decide) rfl ?_
          refine g_goto X 11 dX0_putInFront_45 (by decide) ?_
          refine g_lvsub (lv' := [(1, rV o1), (2, rV o2), (3, iV a3), (4, iV x9)]) [2, 3, 4, 0] rfl ?_
          exact ih11 _ _ _ _ _ hw
        · refine g_aload X dX0_putInFront_31 0 rfl ?_
          refine g_dup X dX0_putInFront_33 rfl ?_
          refine g_get X (iV (gI M r7 5)) dX0_putInFront_34 fl_X0_96 (fun _ => rfl) ⟨hk8, hw⟩ (fun hw => ?_)
          refine g_iconst X (1 : Int32) dX0_putInFront_37 (by decide) ?_
          refine g_iadd X dX0_putInFront_38 ?_
          refine g_putI X dX0_putInFront_39 fl_X0_96 rfl (Or.inl rfl) ⟨hk8, hw⟩ (fun hw => ?_)
          refine g_topM (fun M10 hM10 => ?_)
          have hw := hw M10 hM10
          obtain ⟨x11, hx11⟩ : ∃ y : Int32, y = a4 + (1 : Int32) := ⟨_, rfl⟩
          have hw := hw x11 hx11
          refine g_iinc (lv' := [(4, iV x11), (5, rV r7), (1, rV o1), (2, rV o2), (3, iV a3)]) X x11 dX0_putInFront_42 4 rfl (by rw [hx11]; rfl) (by decide) rfl ?_
          refine g_goto X 11 dX0_putInFront_45 (by decide) ?_
          refine g_lvsub (lv' := [(1, rV o1), (2, rV o2), (3, iV a3), (4, iV x11)]) [2, 3, 4, 0] rfl ?_
          exact ih11 _ _ _ _ _ hw
  unfold w_X0_putInFront at hw
  refine g_aload_n X dX0_putInFront_0 0 rfl ?_
  obtain ⟨hk1, hw⟩ := hw
  refine g_get X (rV (gR M t 4)) dX0_putInFront_1 fl_X0_53 (fun _ => rfl) ⟨hk1, hw⟩ (fun hw => ?_)
  refine g_topR (fun r2 hr2 => ?_)
  have hw := hw r2 hr2
  refine g_astore_n (lv' := [(2, rV r2), (0, rV t), (1, rV p1)]) X dX0_putInFront_4 (by decide) rfl ?_
  refine g_aload_n X dX0_putInFront_5 0 rfl ?_
  refine g_alen X dX0_putInFront_6 hw (fun hw => ?_)
  refine g_topI (fun x3 hx3 => ?_)
  have hw := hw x3 hx3
  refine g_istore_n (lv' := [(3, iV x3), (2, rV r2), (0, rV t), (1, rV p1)]) X dX0_putInFront_7 (by decide) rfl ?_
  refine g_iconst X (0 : Int32) dX0_putInFront_8 (by decide) ?_
  refine g_istore (lv' := [(4, iV (0 : Int32)), (3, iV x3), (2, rV r2), (0, rV t), (1, rV p1)]) X dX0_putInFront_9 (by decide) rfl ?_
  refine g_lvsub (lv' := [(1, rV p1), (2, rV r2), (3, iV x3), (4, iV (0 : Int32))]) [4, 2, 1, 0] rfl ?_
  exact L11 _ _ _ _ _ _ hw
theorem dX0_takeFromRow_0 : decode cX0_takeFromRow 0 = .ok (.aload_n 0, 1) := by decide +kernel
theorem dX0_takeFromRow_1 : decode cX0_takeFromRow 1 = .ok (.getfield 53, 3) := by decide +kernel
theorem dX0_takeFromRow_4 : decode cX0_takeFromRow 4 = .ok (.astore_n 2, 1) := by decide +kernel
theorem dX0_takeFromRow_5 : decode cX0_takeFromRow 5 = .ok (.aload_n 2, 1) := by decide +kernel
theorem dX0_takeFromRow_6 : decode cX0_takeFromRow 6 = .ok (.arraylength, 1) := by decide +kernel
theorem dX0_takeFromRow_7 : decode cX0_takeFromRow 7 = .ok (.istore_n 3, 1) := by decide +kernel
theorem dX0_takeFromRow_8 : decode cX0_takeFromRow 8 = .ok (.iconst 0, 1) := by decide +kernel
theorem dX0_takeFromRow_9 : decode cX0_takeFromRow 9 = .ok (.istore 4, 2) := by decide +kernel
theorem dX0_takeFromRow_11 : decode cX0_takeFromRow 11 = .ok (.iload 4, 2) := by decide +kernel
theorem dX0_takeFromRow_13 : decode cX0_takeFromRow 13 = .ok (.iload_n 3, 1) := by decide +kernel
theorem dX0_takeFromRow_14 : decode cX0_takeFromRow 14 = .ok (.if_icmp .ge 46, 3) := by decide +kernel
theorem dX0_takeFromRow_17 : decode cX0_takeFromRow 17 = .ok (.aload_n 2, 1) := by decide +kernel
theorem dX0_takeFromRow_18 : decode cX0_takeFromRow 18 = .ok (.iload 4, 2) := by decide +kernel
theorem dX0_takeFromRow_20 : decode cX0_takeFromRow 20 = .ok (.aaload, 1) := by decide +kernel
theorem dX0_takeFromRow_21 : decode cX0_takeFromRow 21 = .ok (.astore 5, 2) := by decide +kernel
theorem dX0_takeFromRow_23 : decode cX0_takeFromRow 23 = .ok (.aload 5, 2) := by decide +kernel
theorem dX0_takeFromRow_25 : decode cX0_takeFromRow 25 = .ok (.getfield 93, 3) := by decide +kernel
theorem dX0_takeFromRow_28 : decode cX0_takeFromRow 28 = .ok (.ifCond .ne 26, 3) := by decide +kernel
theorem dX0_takeFromRow_31 : decode cX0_takeFromRow 31 = .ok (.aload 5, 2) := by decide +kernel
theorem dX0_takeFromRow_33 : decode cX0_takeFromRow 33 = .ok (.getfield 96, 3) := by decide +kernel
theorem dX0_takeFromRow_36 : decode cX0_takeFromRow 36 = .ok (.aload_n 1, 1) := by decide +kernel
theorem dX0_takeFromRow_37 : decode cX0_takeFromRow 37 = .ok (.getfield 96, 3) := by decide +kernel
theorem dX0_takeFromRow_40 : decode cX0_takeFromRow 40 = .ok (.if_icmp .le 14, 3) := by decide +kernel
theorem dX0_takeFromRow_43 : decode cX0_takeFromRow 43 = .ok (.aload 5, 2) := by decide +kernel
theorem dX0_takeFromRow_45 : decode cX0_takeFromRow 45 = .ok (.dup, 1) := by decide +kernel
theorem dX0_takeFromRow_46 : decode cX0_takeFromRow 46 = .ok (.getfield 96, 3) := by decide +kernel
theorem dX0_takeFromRow_49 : decode cX0_takeFromRow 49 = .ok (.iconst 1, 1) := by decide +kernel
theorem dX0_takeFromRow_50 : decode cX0_takeFromRow 50 = .ok (.isub, 1) := by decide +kernel
theorem dX0_takeFromRow_51 : decode cX0_takeFromRow 51 = .ok (.putfield 96, 3) := by decide +kernel
theorem dX0_takeFromRow_54 : decode cX0_takeFromRow 54 = .ok (.iinc 4 1, 3) := by decide +kernel
theorem dX0_takeFromRow_57 : decode cX0_takeFromRow 57 = .ok (.goto (-46), 3) := by decide +kernel
theorem dX0_takeFromRow_60 : decode cX0_takeFromRow 60 = .ok (.aload_n 1, 1) := by decide +kernel
theorem dX0_takeFromRow_61 : decode cX0_takeFromRow 61 = .ok (.iconst 1, 1) := by decide +kernel
theorem dX0_takeFromRow_62 : decode cX0_takeFromRow 62 = .ok (.putfield 93, 3) := by decide +kernel
theorem dX0_takeFromRow_65 : decode cX0_takeFromRow 65 = .ok (.aload_n 1, 1) := by decide +kernel
theorem dX0_takeFromRow_66 : decode cX0_takeFromRow 66 = .ok (.bipush (-5), 2) := by decide +kernel
theorem dX0_takeFromRow_68 : decode cX0_takeFromRow 68 = .ok (.putfield 96, 3) := by decide +kernel
theorem dX0_takeFromRow_71 : decode cX0_takeFromRow 71 = .ok (.return_, 1) := by decide +kernel
abbrev rmX0_takeFromRow : Room := { frames := 0, cells := 0, slots := 0, locals := 0 }
def w_X0_takeFromRow_L11 (n : Nat) (K : Mem → Prop) : Nat → Mem → Nat → Nat → Int32 → Int32 → Prop
  | 0, _, _, _, _, _ => False
  | fuel + 1, M, o1, o2, a3, a4 => ((a3 ≤ a4 → ((o1 ≤ n ∧ kd o1 = (2, 0)) ∧ (∀ M5, M5 = sI M o1 4 (1 : Int32) → (∀ M6, M6 = sI M5 o1 5 (-5 : Int32) → K M6)))) ∧ (¬ a3 ≤ a4 → ((o2 ≤ n ∧ (10 ≤ (kd o2).1 ∧ (kd o2).1 < 13) ∧ vp_in a4 (kd o2).2) ∧ (∀ r7, r7 = gR M o2 (Int32.toNatClampNeg a4) → ((r7 ≤ n ∧ kd r7 = (2, 0)) ∧ ((¬ (gI M r7 4) = 0 → (∀ x9, x9 = a4 + (1 : Int32) → w_X0_takeFromRow_L11 n K fuel M o1 o2 a3 x9)) ∧ ((gI M r7 4) = 0 → ((o1 ≤ n ∧ kd o1 = (2, 0)) ∧ (((gI M r7 5) ≤ (gI M o1 5) → (∀ x11, x11 = a4 + (1 : Int32) → w_X0_takeFromRow_L11 n K fuel M o1 o2 a3 x11)) ∧ (¬ (gI M r7 5) ≤ (gI M o1 5) → (∀ M12, M12 = sI M r7 5 ((gI M r7 5) - (1 : Int32)) → (∀ x13, x13 = a4 + (1 : Int32) → w_X0_takeFromRow_L11 n K fuel M12 o1 o2 a3 x13))))))))))))
def w_X0_takeFromRow (n : Nat) (M : Mem) (t : Nat) (p1 : Nat) (K : Mem → Prop) : Prop := ((t ≤ n ∧ kd t = (0, 0)) ∧ (∀ r2, r2 = gR M t 4 → ((r2 ≤ n ∧ 7 ≤ (kd r2).1 ∧ (kd r2).1 < 13) ∧ (∀ x3, x3 = nI (kd r2).2 → w_X0_takeFromRow_L11 n K 4000 M p1 r2 x3 (0 : Int32)))))
set_option maxHeartbeats 4000000 in
set_option maxRecDepth 20000 in
theorem c_X0_takeFromRow (l : Launch) (E : Gl) (n : Nat) (M : Mem) (t : Nat) (p1 : Nat) (K : Mem → Prop) (hw : w_X0_takeFromRow n M t p1 K) : CT E l yX0_takeFromRow cX0_takeFromRow 6 none rmX0_takeFromRow n M [rV t, rV p1] (PV E n K) := by
  refine g_met l (by decide) (Nat.le_of_ble_eq_true rfl) ?_
  intro p e s m args below meth c X hr hlk hnm hSz hOld
  change CX E p s m c _ _ RX0 at X
  have L11 : ∀ (fuel11 : Nat) (M : Mem) (o1 : Nat) (o2 : Nat) (a3 : Int32) (a4 : Int32), w_X0_takeFromRow_L11 n K fuel11 M o1 o2 a3 a4 → G E p l e rmX0_takeFromRow s m args below meth c 6 n M 0 0 (MQD lw_cs below (PV E n K) args s rmX0_takeFromRow.cells rmX0_takeFromRow.slots (Ab E)) 11 [(1, rV o1), (2, rV o2), (3, iV a3), (4, iV a4)] [] := by
    intro fuel11
    induction fuel11 with
    | zero => intro M o1 o2 a3 a4 hw; exact False.elim hw
    | succ fuel11 ih11 =>
      intro M o1 o2 a3 a4 hw
      unfold w_X0_takeFromRow_L11 at hw
      refine g_iload X dX0_takeFromRow_11 3 rfl ?_
      refine g_iload_n X dX0_takeFromRow_13 2 rfl ?_
      refine g_icmp_ge X 60 dX0_takeFromRow_14 (by decide) hw (fun hw => ?_) (fun hw => ?_)
      · refine g_aload_n X dX0_takeFromRow_60 0 rfl ?_
        refine g_iconst X (1 : Int32) dX0_takeFromRow_61 (by decide) ?_
        obtain ⟨hk4, hw⟩ := hw
        refine g_putI X dX0_takeFromRow_62 fl_X0_93 rfl (Or.inl rfl) ⟨hk4, hw⟩ (fun hw => ?_)
        refine g_topM (fun M5 hM5 => ?_)
        have hw := hw M5 hM5
        refine g_aload_n X dX0_takeFromRow_65 0 rfl ?_
        refine g_bipush X (-5 : Int32) dX0_takeFromRow_66 (by decide) ?_
        refine g_putI X dX0_takeFromRow_68 fl_X0_96 rfl (Or.inl rfl) ⟨hk4, hw⟩ (fun hw => ?_)
        refine g_topM (fun M6 hM6 => ?_)
        have hw := hw M6 hM6
        exact g_vret X hr hlk hSz hOld (Nat.le_refl _) dX0_takeFromRow_71 hw
      · refine g_aload_n X dX0_takeFromRow_17 1 rfl ?_
        refine g_iload X dX0_takeFromRow_18 3 rfl ?_
        refine g_aald X dX0_takeFromRow_20 hw (fun hw => ?_)
        refine g_topR (fun r7 hr7 => ?_)
        have hw := hw r7 hr7
        refine g_astore (lv' := [(5, rV r7), (1, rV o1), (2, rV o2), (3, iV a3), (4, iV a4)]) X dX0_takeFromRow_21 (by decide) rfl ?_
        refine g_aload X dX0_takeFromRow_23 0 rfl ?_
        obtain ⟨hk8, hw⟩ := hw
        refine g_get X (iV (gI M r7 4)) dX0_takeFromRow_25 fl_X0_93 (fun _ => rfl) ⟨hk8, hw⟩ (fun hw => ?_)
        refine g_if_ne X 54 dX0_takeFromRow_28 (by decide) hw (fun hw => ?_) (fun hw => ?_)
        · obtain ⟨x9, hx9⟩ : ∃ y : Int32, y = a4 + (1 : Int32) := ⟨_, rfl⟩
          have hw := hw x9 hx9
          refine g_iinc (lv' := [(4, iV x9), (5, rV r7), (1, rV o1), (2, rV o2), (3, iV a3)]) X x9 dX0_takeFromRow_54 4 rfl (by rw [hx9]; rfl) (by decide) rfl ?_
          refine g_goto X 11 dX0_takeFromRow_57 (by decide) ?_
          refine g_lvsub (lv' := [(1, rV o1), (2, rV o2), (3, iV a3), (4, iV x9)]) [2, 3, 4, 0] rfl ?_
          exact ih11 _ _ _ _ _ hw
        · refine g_aload X dX0_takeFromRow_31 0 rfl ?_
          refine g_get X (iV (gI M r7 5)) dX0_takeFromRow_33 fl_X0_96 (fun _ => rfl) ⟨hk8, hw⟩ (fun hw => ?_)
          refine g_aload_n X dX0_takeFromRow_36 1 rfl ?_
          obtain ⟨hk10, hw⟩ := hw
          refine g_get X (iV (gI M o1 5)) dX0_takeFromRow_37 fl_X0_96 (fun _ => rfl) ⟨hk10, hw⟩ (fun hw => ?_)
          refine g_icmp_le X 54 dX0_takeFromRow_40 (by decide) hw (fun hw => ?_) (fun hw => ?_)
          · obtain ⟨x11, hx11⟩ : ∃ y : Int32, y = a4 + (1 : Int32) := ⟨_, rfl⟩
            have hw := hw x11 hx11
            refine g_iinc (lv' := [(4, iV x11), (5, rV r7), (1, rV o1), (2, rV o2), (3, iV a3)]) X x11 dX0_takeFromRow_54 4 rfl (by rw [hx11]; rfl) (by decide) rfl ?_
            refine g_goto X 11 dX0_takeFromRow_57 (by decide) ?_
            refine g_lvsub (lv' := [(1, rV o1), (2, rV o2), (3, iV a3), (4, iV x11)]) [2, 3, 4, 0] rfl ?_
            exact ih11 _ _ _ _ _ hw
          · refine g_aload X dX0_takeFromRow_43 0 rfl ?_
            refine g_dup X dX0_takeFromRow_45 rfl ?_
            refine g_get X (iV (gI M r7 5)) dX0_takeFromRow_46 fl_X0_96 (fun _ => rfl) ⟨hk8, hw⟩ (fun hw => ?_)
            refine g_iconst X (1 : Int32) dX0_takeFromRow_49 (by decide) ?_
            refine g_isub X dX0_takeFromRow_50 ?_
            refine g_putI X dX0_takeFromRow_51 fl_X0_96 rfl (Or.inl rfl) ⟨hk8, hw⟩ (fun hw => ?_)
            refine g_topM (fun M12 hM12 => ?_)
            have hw := hw M12 hM12
            obtain ⟨x13, hx13⟩ : ∃ y : Int32, y = a4 + (1 : Int32) := ⟨_, rfl⟩
            have hw := hw x13 hx13
            refine g_iinc (lv' := [(4, iV x13), (5, rV r7), (1, rV o1), (2, rV o2), (3, iV a3)]) X x13 dX0_takeFromRow_54 4 rfl (by rw [hx13]; rfl) (by decide) rfl ?_
            refine g_goto X 11 dX0_takeFromRow_57 (by decide) ?_
            refine g_lvsub (lv' := [(1, rV o1), (2, rV o2), (3, iV a3), (4, iV x13)]) [2, 3, 4, 0] rfl ?_
            exact ih11 _ _ _ _ _ hw
  unfold w_X0_takeFromRow at hw
  refine g_aload_n X dX0_takeFromRow_0 0 rfl ?_
  obtain ⟨hk1, hw⟩ := hw
  refine g_get X (rV (gR M t 4)) dX0_takeFromRow_1 fl_X0_53 (fun _ => rfl) ⟨hk1, hw⟩ (fun hw => ?_)
  refine g_topR (fun r2 hr2 => ?_)
  have hw := hw r2 hr2
  refine g_astore_n (lv' := [(2, rV r2), (0, rV t), (1, rV p1)]) X dX0_takeFromRow_4 (by decide) rfl ?_
  refine g_aload_n X dX0_takeFromRow_5 0 rfl ?_
  refine g_alen X dX0_takeFromRow_6 hw (fun hw => ?_)
  refine g_topI (fun x3 hx3 => ?_)
  have hw := hw x3 hx3
  refine g_istore_n (lv' := [(3, iV x3), (2, rV r2), (0, rV t), (1, rV p1)]) X dX0_takeFromRow_7 (by decide) rfl ?_
  refine g_iconst X (0 : Int32) dX0_takeFromRow_8 (by decide) ?_
  refine g_istore (lv' := [(4, iV (0 : Int32)), (3, iV x3), (2, rV r2), (0, rV t), (1, rV p1)]) X dX0_takeFromRow_9 (by decide) rfl ?_
  refine g_lvsub (lv' := [(1, rV p1), (2, rV r2), (3, iV x3), (4, iV (0 : Int32))]) [4, 2, 1, 0] rfl ?_
  exact L11 _ _ _ _ _ _ hw
theorem dX0_rejectWaiting_0 : decode cX0_rejectWaiting 0 = .ok (.aload_n 0, 1) := by decide +kernel
theorem dX0_rejectWaiting_1 : decode cX0_rejectWaiting 1 = .ok (.getfield 53, 3) := by decide +kernel
theorem dX0_rejectWaiting_4 : decode cX0_rejectWaiting 4 = .ok (.astore_n 1, 1) := by decide +kernel
theorem dX0_rejectWaiting_5 : decode cX0_rejectWaiting 5 = .ok (.aload_n 1, 1) := by decide +kernel
theorem dX0_rejectWaiting_6 : decode cX0_rejectWaiting 6 = .ok (.arraylength, 1) := by decide +kernel
theorem dX0_rejectWaiting_7 : decode cX0_rejectWaiting 7 = .ok (.istore_n 2, 1) := by decide +kernel
theorem dX0_rejectWaiting_8 : decode cX0_rejectWaiting 8 = .ok (.iconst 0, 1) := by decide +kernel
theorem dX0_rejectWaiting_9 : decode cX0_rejectWaiting 9 = .ok (.istore_n 3, 1) := by decide +kernel
theorem dX0_rejectWaiting_10 : decode cX0_rejectWaiting 10 = .ok (.iload_n 3, 1) := by decide +kernel
theorem dX0_rejectWaiting_11 : decode cX0_rejectWaiting 11 = .ok (.iload_n 2, 1) := by decide +kernel
theorem dX0_rejectWaiting_12 : decode cX0_rejectWaiting 12 = .ok (.if_icmp .ge 28, 3) := by decide +kernel
theorem dX0_rejectWaiting_15 : decode cX0_rejectWaiting 15 = .ok (.aload_n 1, 1) := by decide +kernel
theorem dX0_rejectWaiting_16 : decode cX0_rejectWaiting 16 = .ok (.iload_n 3, 1) := by decide +kernel
theorem dX0_rejectWaiting_17 : decode cX0_rejectWaiting 17 = .ok (.aaload, 1) := by decide +kernel
theorem dX0_rejectWaiting_18 : decode cX0_rejectWaiting 18 = .ok (.astore 4, 2) := by decide +kernel
theorem dX0_rejectWaiting_20 : decode cX0_rejectWaiting 20 = .ok (.aload 4, 2) := by decide +kernel
theorem dX0_rejectWaiting_22 : decode cX0_rejectWaiting 22 = .ok (.getfield 93, 3) := by decide +kernel
theorem dX0_rejectWaiting_25 : decode cX0_rejectWaiting 25 = .ok (.ifCond .ne 9, 3) := by decide +kernel
theorem dX0_rejectWaiting_28 : decode cX0_rejectWaiting 28 = .ok (.aload 4, 2) := by decide +kernel
theorem dX0_rejectWaiting_30 : decode cX0_rejectWaiting 30 = .ok (.iconst 5, 1) := by decide +kernel
theorem dX0_rejectWaiting_31 : decode cX0_rejectWaiting 31 = .ok (.invokevirtual 99, 3) := by decide +kernel
theorem dX0_rejectWaiting_34 : decode cX0_rejectWaiting 34 = .ok (.iinc 3 1, 3) := by decide +kernel
theorem dX0_rejectWaiting_37 : decode cX0_rejectWaiting 37 = .ok (.goto (-27), 3) := by decide +kernel
theorem dX0_rejectWaiting_40 : decode cX0_rejectWaiting 40 = .ok (.return_, 1) := by decide +kernel
abbrev rmX0_rejectWaiting : Room := { frames := 1, cells := 0, slots := 0, locals := 21 }
def w_X0_rejectWaiting_L10 (n : Nat) (K : Mem → Prop) : Nat → Mem → Nat → Int32 → Int32 → Prop
  | 0, _, _, _, _ => False
  | fuel + 1, M, o1, a2, a3 => ((a2 ≤ a3 → K M) ∧ (¬ a2 ≤ a3 → ((o1 ≤ n ∧ (10 ≤ (kd o1).1 ∧ (kd o1).1 < 13) ∧ vp_in a3 (kd o1).2) ∧ (∀ r4, r4 = gR M o1 (Int32.toNatClampNeg a3) → ((r4 ≤ n ∧ kd r4 = (2, 0)) ∧ ((¬ (gI M r4 4) = 0 → (∀ x6, x6 = a3 + (1 : Int32) → w_X0_rejectWaiting_L10 n K fuel M o1 a2 x6)) ∧ ((gI M r4 4) = 0 → w_X2_rejectFor n M r4 (5 : Int32) (fun M7 => (∀ x8, x8 = a3 + (1 : Int32) → w_X0_rejectWaiting_L10 n K fuel M7 o1 a2 x8)))))))))
def w_X0_rejectWaiting (n : Nat) (M : Mem) (t : Nat) (K : Mem → Prop) : Prop := ((t ≤ n ∧ kd t = (0, 0)) ∧ (∀ r2, r2 = gR M t 4 → ((r2 ≤ n ∧ 7 ≤ (kd r2).1 ∧ (kd r2).1 < 13) ∧ (∀ x3, x3 = nI (kd r2).2 → w_X0_rejectWaiting_L10 n K 4000 M r2 x3 (0 : Int32)))))
set_option maxHeartbeats 4000000 in
set_option maxRecDepth 20000 in
theorem c_X0_rejectWaiting (l : Launch) (E : Gl) (n : Nat) (M : Mem) (t : Nat) (K : Mem → Prop) (hw : w_X0_rejectWaiting n M t K) : CT E l yX0_rejectWaiting cX0_rejectWaiting 5 none rmX0_rejectWaiting n M [rV t] (PV E n K) := by
  refine g_met l (by decide) (Nat.le_of_ble_eq_true rfl) ?_
  intro p e s m args below meth c X hr hlk hnm hSz hOld
  change CX E p s m c _ _ RX0 at X
  have L10 : ∀ (fuel10 : Nat) (M : Mem) (o1 : Nat) (a2 : Int32) (a3 : Int32), w_X0_rejectWaiting_L10 n K fuel10 M o1 a2 a3 → G E p l e rmX0_rejectWaiting s m args below meth c 5 n M 0 0 (MQD lw_cs below (PV E n K) args s rmX0_rejectWaiting.cells rmX0_rejectWaiting.slots (Ab E)) 10 [(1, rV o1), (2, iV a2), (3, iV a3)] [] := by
    intro fuel10
    induction fuel10 with
    | zero => intro M o1 a2 a3 hw; exact False.elim hw
    | succ fuel10 ih10 =>
      intro M o1 a2 a3 hw
      unfold w_X0_rejectWaiting_L10 at hw
      refine g_iload_n X dX0_rejectWaiting_10 2 rfl ?_
      refine g_iload_n X dX0_rejectWaiting_11 1 rfl ?_
      refine g_icmp_ge X 40 dX0_rejectWaiting_12 (by decide) hw (fun hw => ?_) (fun hw => ?_)
      · exact g_vret X hr hlk hSz hOld (Nat.le_refl _) dX0_rejectWaiting_40 hw
      · refine g_aload_n X dX0_rejectWaiting_15 0 rfl ?_
        refine g_iload_n X dX0_rejectWaiting_16 2 rfl ?_
        refine g_aald X dX0_rejectWaiting_17 hw (fun hw => ?_)
        refine g_topR (fun r4 hr4 => ?_)
        have hw := hw r4 hr4
        refine g_astore (lv' := [(4, rV r4), (1, rV o1), (2, iV a2), (3, iV a3)]) X dX0_rejectWaiting_18 (by decide) rfl ?_
        refine g_aload X dX0_rejectWaiting_20 0 rfl ?_
        obtain ⟨hk5, hw⟩ := hw
        refine g_get X (iV (gI M r4 4)) dX0_rejectWaiting_22 fl_X0_93 (fun _ => rfl) ⟨hk5, hw⟩ (fun hw => ?_)
        refine g_if_ne X 34 dX0_rejectWaiting_25 (by decide) hw (fun hw => ?_) (fun hw => ?_)
        · obtain ⟨x6, hx6⟩ : ∃ y : Int32, y = a3 + (1 : Int32) := ⟨_, rfl⟩
          have hw := hw x6 hx6
          refine g_iinc (lv' := [(3, iV x6), (4, rV r4), (1, rV o1), (2, iV a2)]) X x6 dX0_rejectWaiting_34 3 rfl (by rw [hx6]; rfl) (by decide) rfl ?_
          refine g_goto X 10 dX0_rejectWaiting_37 (by decide) ?_
          refine g_lvsub (lv' := [(1, rV o1), (2, iV a2), (3, iV x6)]) [2, 3, 0] rfl ?_
          exact ih10 _ _ _ _ hw
        · refine g_aload X dX0_rejectWaiting_28 0 rfl ?_
          refine g_iconst X (5 : Int32) dX0_rejectWaiting_30 (by decide) ?_
          refine g_callv (pc' := 34) (rest := []) rfl (fun H locs ls d qR qL => g_runV X cw_X0_99 iv_X2_rejectFor ⟨Nat.le_of_ble_eq_true rfl, Nat.le_of_ble_eq_true rfl⟩ dX0_rejectWaiting_31 (c_X2_rejectFor l E n M r4 (5 : Int32) _ hw) hk5 rfl rfl (Nat.le_of_ble_eq_true rfl) ⟨Nat.le_of_ble_eq_true rfl, Nat.le_of_ble_eq_true rfl⟩ qR qL) (fun M7 hw => ?_)
          obtain ⟨x8, hx8⟩ : ∃ y : Int32, y = a3 + (1 : Int32) := ⟨_, rfl⟩
          have hw := hw x8 hx8
          refine g_iinc (lv' := [(3, iV x8), (4, rV r4), (1, rV o1), (2, iV a2)]) X x8 dX0_rejectWaiting_34 3 rfl (by rw [hx8]; rfl) (by decide) rfl ?_
          refine g_goto X 10 dX0_rejectWaiting_37 (by decide) ?_
          refine g_lvsub (lv' := [(1, rV o1), (2, iV a2), (3, iV x8)]) [2, 3, 0] rfl ?_
          exact ih10 _ _ _ _ hw
  unfold w_X0_rejectWaiting at hw
  refine g_aload_n X dX0_rejectWaiting_0 0 rfl ?_
  obtain ⟨hk1, hw⟩ := hw
  refine g_get X (rV (gR M t 4)) dX0_rejectWaiting_1 fl_X0_53 (fun _ => rfl) ⟨hk1, hw⟩ (fun hw => ?_)
  refine g_topR (fun r2 hr2 => ?_)
  have hw := hw r2 hr2
  refine g_astore_n (lv' := [(1, rV r2), (0, rV t)]) X dX0_rejectWaiting_4 (by decide) rfl ?_
  refine g_aload_n X dX0_rejectWaiting_5 0 rfl ?_
  refine g_alen X dX0_rejectWaiting_6 hw (fun hw => ?_)
  refine g_topI (fun x3 hx3 => ?_)
  have hw := hw x3 hx3
  refine g_istore_n (lv' := [(2, iV x3), (1, rV r2), (0, rV t)]) X dX0_rejectWaiting_7 (by decide) rfl ?_
  refine g_iconst X (0 : Int32) dX0_rejectWaiting_8 (by decide) ?_
  refine g_istore_n (lv' := [(3, iV (0 : Int32)), (2, iV x3), (1, rV r2), (0, rV t)]) X dX0_rejectWaiting_9 (by decide) rfl ?_
  refine g_lvsub (lv' := [(1, rV r2), (2, iV x3), (3, iV (0 : Int32))]) [2, 1, 0] rfl ?_
  exact L10 _ _ _ _ _ hw
theorem dX0_takeFromHeads_0 : decode cX0_takeFromHeads 0 = .ok (.aload_n 0, 1) := by decide +kernel
theorem dX0_takeFromHeads_1 : decode cX0_takeFromHeads 1 = .ok (.getfield 44, 3) := by decide +kernel
theorem dX0_takeFromHeads_4 : decode cX0_takeFromHeads 4 = .ok (.arraylength, 1) := by decide +kernel
theorem dX0_takeFromHeads_5 : decode cX0_takeFromHeads 5 = .ok (.iconst 1, 1) := by decide +kernel
theorem dX0_takeFromHeads_6 : decode cX0_takeFromHeads 6 = .ok (.isub, 1) := by decide +kernel
theorem dX0_takeFromHeads_7 : decode cX0_takeFromHeads 7 = .ok (.istore_n 1, 1) := by decide +kernel
theorem dX0_takeFromHeads_8 : decode cX0_takeFromHeads 8 = .ok (.iload_n 1, 1) := by decide +kernel
theorem dX0_takeFromHeads_9 : decode cX0_takeFromHeads 9 = .ok (.ifCond .lt 43, 3) := by decide +kernel
theorem dX0_takeFromHeads_12 : decode cX0_takeFromHeads 12 = .ok (.aload_n 0, 1) := by decide +kernel
theorem dX0_takeFromHeads_13 : decode cX0_takeFromHeads 13 = .ok (.aload_n 0, 1) := by decide +kernel
theorem dX0_takeFromHeads_14 : decode cX0_takeFromHeads 14 = .ok (.getfield 44, 3) := by decide +kernel
theorem dX0_takeFromHeads_17 : decode cX0_takeFromHeads 17 = .ok (.iload_n 1, 1) := by decide +kernel
theorem dX0_takeFromHeads_18 : decode cX0_takeFromHeads 18 = .ok (.aaload, 1) := by decide +kernel
theorem dX0_takeFromHeads_19 : decode cX0_takeFromHeads 19 = .ok (.getfield 102, 3) := by decide +kernel
theorem dX0_takeFromHeads_22 : decode cX0_takeFromHeads 22 = .ok (.invokevirtual 105, 3) := by decide +kernel
theorem dX0_takeFromHeads_25 : decode cX0_takeFromHeads 25 = .ok (.astore_n 2, 1) := by decide +kernel
theorem dX0_takeFromHeads_26 : decode cX0_takeFromHeads 26 = .ok (.aload_n 0, 1) := by decide +kernel
theorem dX0_takeFromHeads_27 : decode cX0_takeFromHeads 27 = .ok (.getfield 44, 3) := by decide +kernel
theorem dX0_takeFromHeads_30 : decode cX0_takeFromHeads 30 = .ok (.iload_n 1, 1) := by decide +kernel
theorem dX0_takeFromHeads_31 : decode cX0_takeFromHeads 31 = .ok (.aaload, 1) := by decide +kernel
theorem dX0_takeFromHeads_32 : decode cX0_takeFromHeads 32 = .ok (.bipush (-5), 2) := by decide +kernel
theorem dX0_takeFromHeads_34 : decode cX0_takeFromHeads 34 = .ok (.putfield 102, 3) := by decide +kernel
theorem dX0_takeFromHeads_37 : decode cX0_takeFromHeads 37 = .ok (.aload_n 2, 1) := by decide +kernel
theorem dX0_takeFromHeads_38 : decode cX0_takeFromHeads 38 = .ok (.ifnull 8, 3) := by decide +kernel
theorem dX0_takeFromHeads_41 : decode cX0_takeFromHeads 41 = .ok (.aload_n 0, 1) := by decide +kernel
theorem dX0_takeFromHeads_42 : decode cX0_takeFromHeads 42 = .ok (.aload_n 2, 1) := by decide +kernel
theorem dX0_takeFromHeads_43 : decode cX0_takeFromHeads 43 = .ok (.invokevirtual 109, 3) := by decide +kernel
theorem dX0_takeFromHeads_46 : decode cX0_takeFromHeads 46 = .ok (.iinc 1 (-1), 3) := by decide +kernel
theorem dX0_takeFromHeads_49 : decode cX0_takeFromHeads 49 = .ok (.goto (-41), 3) := by decide +kernel
theorem dX0_takeFromHeads_52 : decode cX0_takeFromHeads 52 = .ok (.return_, 1) := by decide +kernel
abbrev rmX0_takeFromHeads : Room := { frames := 1, cells := 0, slots := 0, locals := 25 }
def w_X0_takeFromHeads_L8 (n : Nat) (K : Mem → Prop) : Nat → Mem → Nat → Int32 → Prop
  | 0, _, _, _ => False
  | fuel + 1, M, o0, a1 => ((a1 < 0 → K M) ∧ (¬ a1 < 0 → ((o0 ≤ n ∧ kd o0 = (0, 0)) ∧ (∀ r5, r5 = gR M o0 3 → ((r5 ≤ n ∧ (10 ≤ (kd r5).1 ∧ (kd r5).1 < 13) ∧ vp_in a1 (kd r5).2) ∧ (∀ r6, r6 = gR M r5 (Int32.toNatClampNeg a1) → ((r6 ≤ n ∧ kd r6 = (1, 0)) ∧ w_X0_partAt n M o0 (gI M r6 6) (fun r9 M8 => (∀ r10, r10 = gR M8 o0 3 → ((r10 ≤ n ∧ (10 ≤ (kd r10).1 ∧ (kd r10).1 < 13) ∧ vp_in a1 (kd r10).2) ∧ (∀ r11, r11 = gR M8 r10 (Int32.toNatClampNeg a1) → ((r11 ≤ n ∧ kd r11 = (1, 0)) ∧ (∀ M13, M13 = sI M8 r11 6 (-5 : Int32) → ((r9 = 0 → (∀ x14, x14 = a1 + (-1 : Int32) → w_X0_takeFromHeads_L8 n K fuel M13 o0 x14)) ∧ (¬ r9 = 0 → w_X0_putInFront n M13 o0 r9 (fun M15 => (∀ x16, x16 = a1 + (-1 : Int32) → w_X0_takeFromHeads_L8 n K fuel M15 o0 x16)))))))))))))))))
def w_X0_takeFromHeads (n : Nat) (M : Mem) (t : Nat) (K : Mem → Prop) : Prop := ((t ≤ n ∧ kd t = (0, 0)) ∧ (∀ r2, r2 = gR M t 3 → ((r2 ≤ n ∧ 7 ≤ (kd r2).1 ∧ (kd r2).1 < 13) ∧ (∀ x3, x3 = (nI (kd r2).2) - (1 : Int32) → w_X0_takeFromHeads_L8 n K 4000 M t x3))))
set_option maxHeartbeats 4000000 in
set_option maxRecDepth 20000 in
theorem c_X0_takeFromHeads (l : Launch) (E : Gl) (n : Nat) (M : Mem) (t : Nat) (K : Mem → Prop) (hw : w_X0_takeFromHeads n M t K) : CT E l yX0_takeFromHeads cX0_takeFromHeads 3 none rmX0_takeFromHeads n M [rV t] (PV E n K) := by
  refine g_met l (by decide) (Nat.le_of_ble_eq_true rfl) ?_
  intro p e s m args below meth c X hr hlk hnm hSz hOld
  change CX E p s m c _ _ RX0 at X
  have L8 : ∀ (fuel8 : Nat) (M : Mem) (o0 : Nat) (a1 : Int32), w_X0_takeFromHeads_L8 n K fuel8 M o0 a1 → G E p l e rmX0_takeFromHeads s m args below meth c 3 n M 0 0 (MQD lw_cs below (PV E n K) args s rmX0_takeFromHeads.cells rmX0_takeFromHeads.slots (Ab E)) 8 [(0, rV o0), (1, iV a1)] [] := by
    intro fuel8
    induction fuel8 with
    | zero => intro M o0 a1 hw; exact False.elim hw
    | succ fuel8 ih8 =>
      intro M o0 a1 hw
      unfold w_X0_takeFromHeads_L8 at hw
      refine g_iload_n X dX0_takeFromHeads_8 1 rfl ?_
      refine g_if_lt X 52 dX0_takeFromHeads_9 (by decide) hw (fun hw => ?_) (fun hw => ?_)
      · exact g_vret X hr hlk hSz hOld (Nat.le_refl _) dX0_takeFromHeads_52 hw
      · refine g_aload_n X dX0_takeFromHeads_12 0 rfl ?_
        refine g_aload_n X dX0_takeFromHeads_13 0 rfl ?_
        obtain ⟨hk4, hw⟩ := hw
        refine g_get X (rV (gR M o0 3)) dX0_takeFromHeads_14 fl_X0_44 (fun _ => rfl) ⟨hk4, hw⟩ (fun hw => ?_)
        refine g_topR (fun r5 hr5 => ?_)
        have hw := hw r5 hr5
        refine g_iload_n X dX0_takeFromHeads_17 1 rfl ?_
        refine g_aald X dX0_takeFromHeads_18 hw (fun hw => ?_)
        refine g_topR (fun r6 hr6 => ?_)
        have hw := hw r6 hr6
        obtain ⟨hk7, hw⟩ := hw
        refine g_get X (iV (gI M r6 6)) dX0_takeFromHeads_19 fl_X0_102 (fun _ => rfl) ⟨hk7, hw⟩ (fun hw => ?_)
        refine g_callr (pc' := 25) (rest := []) rfl (fun H locs ls d qR qL => g_runV X cw_X0_105 iv_X0_partAt ⟨Nat.le_of_ble_eq_true rfl, Nat.le_of_ble_eq_true rfl⟩ dX0_takeFromHeads_22 (c_X0_partAt l E n M o0 (gI M r6 6) _ hw) hk4 rfl rfl (Nat.le_of_ble_eq_true rfl) ⟨Nat.le_of_ble_eq_true rfl, Nat.le_of_ble_eq_true rfl⟩ qR qL) (fun r9 M8 hw => ?_)
        refine g_astore_n (lv' := [(2, rV r9), (0, rV o0), (1, iV a1)]) X dX0_takeFromHeads_25 (by decide) rfl ?_
        refine g_aload_n X dX0_takeFromHeads_26 1 rfl ?_
        refine g_get X (rV (gR M8 o0 3)) dX0_takeFromHeads_27 fl_X0_44 (fun _ => rfl) ⟨hk4, hw⟩ (fun hw => ?_)
        refine g_topR (fun r10 hr10 => ?_)
        have hw := hw r10 hr10
        refine g_iload_n X dX0_takeFromHeads_30 2 rfl ?_
        refine g_aald X dX0_takeFromHeads_31 hw (fun hw => ?_)
        refine g_topR (fun r11 hr11 => ?_)
        have hw := hw r11 hr11
        refine g_bipush X (-5 : Int32) dX0_takeFromHeads_32 (by decide) ?_
        obtain ⟨hk12, hw⟩ := hw
        refine g_putI X dX0_takeFromHeads_34 fl_X0_102 rfl (Or.inl rfl) ⟨hk12, hw⟩ (fun hw => ?_)
        refine g_topM (fun M13 hM13 => ?_)
        have hw := hw M13 hM13
        refine g_aload_n X dX0_takeFromHeads_37 0 rfl ?_
        refine g_ifnull X 46 dX0_takeFromHeads_38 (by decide) hw (fun hw => ?_) (fun hw => ?_)
        · obtain ⟨x14, hx14⟩ : ∃ y : Int32, y = a1 + (-1 : Int32) := ⟨_, rfl⟩
          have hw := hw x14 hx14
          refine g_iinc (lv' := [(1, iV x14), (2, rV r9), (0, rV o0)]) X x14 dX0_takeFromHeads_46 2 rfl (by rw [hx14]; rfl) (by decide) rfl ?_
          refine g_goto X 8 dX0_takeFromHeads_49 (by decide) ?_
          refine g_lvsub (lv' := [(0, rV o0), (1, iV x14)]) [2, 0] rfl ?_
          exact ih8 _ _ _ hw
        · refine g_aload_n X dX0_takeFromHeads_41 1 rfl ?_
          refine g_aload_n X dX0_takeFromHeads_42 0 rfl ?_
          refine g_callv (pc' := 46) (rest := []) rfl (fun H locs ls d qR qL => g_runV X cw_X0_109 iv_X0_putInFront ⟨Nat.le_of_ble_eq_true rfl, Nat.le_of_ble_eq_true rfl⟩ dX0_takeFromHeads_43 (c_X0_putInFront l E n M13 o0 r9 _ hw) hk4 rfl rfl (Nat.le_of_ble_eq_true rfl) ⟨Nat.le_of_ble_eq_true rfl, Nat.le_of_ble_eq_true rfl⟩ qR qL) (fun M15 hw => ?_)
          obtain ⟨x16, hx16⟩ : ∃ y : Int32, y = a1 + (-1 : Int32) := ⟨_, rfl⟩
          have hw := hw x16 hx16
          refine g_iinc (lv' := [(1, iV x16), (2, rV r9), (0, rV o0)]) X x16 dX0_takeFromHeads_46 2 rfl (by rw [hx16]; rfl) (by decide) rfl ?_
          refine g_goto X 8 dX0_takeFromHeads_49 (by decide) ?_
          refine g_lvsub (lv' := [(0, rV o0), (1, iV x16)]) [2, 0] rfl ?_
          exact ih8 _ _ _ hw
  unfold w_X0_takeFromHeads at hw
  refine g_aload_n X dX0_takeFromHeads_0 0 rfl ?_
  obtain ⟨hk1, hw⟩ := hw
  refine g_get X (rV (gR M t 3)) dX0_takeFromHeads_1 fl_X0_44 (fun _ => rfl) ⟨hk1, hw⟩ (fun hw => ?_)
  refine g_topR (fun r2 hr2 => ?_)
  have hw := hw r2 hr2
  refine g_alen X dX0_takeFromHeads_4 hw (fun hw => ?_)
  refine g_iconst X (1 : Int32) dX0_takeFromHeads_5 (by decide) ?_
  refine g_isub X dX0_takeFromHeads_6 ?_
  refine g_topI (fun x3 hx3 => ?_)
  have hw := hw x3 hx3
  refine g_istore_n (lv' := [(1, iV x3), (0, rV t)]) X dX0_takeFromHeads_7 (by decide) rfl ?_
  refine g_lvsub (lv' := [(0, rV t), (1, iV x3)]) [1, 0] rfl ?_
  exact L8 _ _ _ _ hw
theorem dX0_causeAgainst_0 : decode cX0_causeAgainst 0 = .ok (.aload_n 2, 1) := by decide +kernel
theorem dX0_causeAgainst_1 : decode cX0_causeAgainst 1 = .ok (.getfield 133, 3) := by decide +kernel
theorem dX0_causeAgainst_4 : decode cX0_causeAgainst 4 = .ok (.aload_n 2, 1) := by decide +kernel
theorem dX0_causeAgainst_5 : decode cX0_causeAgainst 5 = .ok (.getfield 129, 3) := by decide +kernel
theorem dX0_causeAgainst_8 : decode cX0_causeAgainst 8 = .ok (.ldc2_w 179, 3) := by decide +kernel
theorem dX0_causeAgainst_11 : decode cX0_causeAgainst 11 = .ok (.ddiv, 1) := by decide +kernel
theorem dX0_causeAgainst_12 : decode cX0_causeAgainst 12 = .ok (.dcmp .g, 1) := by decide +kernel
theorem dX0_causeAgainst_13 : decode cX0_causeAgainst 13 = .ok (.ifCond .ge 5, 3) := by decide +kernel
theorem dX0_causeAgainst_16 : decode cX0_causeAgainst 16 = .ok (.iconst 1, 1) := by decide +kernel
theorem dX0_causeAgainst_17 : decode cX0_causeAgainst 17 = .ok (.ireturn, 1) := by decide +kernel
theorem dX0_causeAgainst_18 : decode cX0_causeAgainst 18 = .ok (.aload_n 2, 1) := by decide +kernel
theorem dX0_causeAgainst_19 : decode cX0_causeAgainst 19 = .ok (.getfield 150, 3) := by decide +kernel
theorem dX0_causeAgainst_22 : decode cX0_causeAgainst 22 = .ok (.aload_n 0, 1) := by decide +kernel
theorem dX0_causeAgainst_23 : decode cX0_causeAgainst 23 = .ok (.getfield 38, 3) := by decide +kernel
theorem dX0_causeAgainst_26 : decode cX0_causeAgainst 26 = .ok (.if_icmp .le 5, 3) := by decide +kernel
theorem dX0_causeAgainst_29 : decode cX0_causeAgainst 29 = .ok (.iconst 4, 1) := by decide +kernel
theorem dX0_causeAgainst_30 : decode cX0_causeAgainst 30 = .ok (.ireturn, 1) := by decide +kernel
theorem dX0_causeAgainst_31 : decode cX0_causeAgainst 31 = .ok (.aload_n 1, 1) := by decide +kernel
theorem dX0_causeAgainst_32 : decode cX0_causeAgainst 32 = .ok (.getfield 140, 3) := by decide +kernel
theorem dX0_causeAgainst_35 : decode cX0_causeAgainst 35 = .ok (.aload_n 0, 1) := by decide +kernel
theorem dX0_causeAgainst_36 : decode cX0_causeAgainst 36 = .ok (.getfield 30, 3) := by decide +kernel
theorem dX0_causeAgainst_39 : decode cX0_causeAgainst 39 = .ok (.getfield 181, 3) := by decide +kernel
theorem dX0_causeAgainst_42 : decode cX0_causeAgainst 42 = .ok (.dcmp .g, 1) := by decide +kernel
theorem dX0_causeAgainst_43 : decode cX0_causeAgainst 43 = .ok (.ifCond .gt 6, 3) := by decide +kernel
theorem dX0_causeAgainst_46 : decode cX0_causeAgainst 46 = .ok (.bipush (-5), 2) := by decide +kernel
theorem dX0_causeAgainst_48 : decode cX0_causeAgainst 48 = .ok (.ireturn, 1) := by decide +kernel
theorem dX0_causeAgainst_49 : decode cX0_causeAgainst 49 = .ok (.aload_n 1, 1) := by decide +kernel
theorem dX0_causeAgainst_50 : decode cX0_causeAgainst 50 = .ok (.getfield 140, 3) := by decide +kernel
theorem dX0_causeAgainst_53 : decode cX0_causeAgainst 53 = .ok (.aload_n 0, 1) := by decide +kernel
theorem dX0_causeAgainst_54 : decode cX0_causeAgainst 54 = .ok (.getfield 35, 3) := by decide +kernel
theorem dX0_causeAgainst_57 : decode cX0_causeAgainst 57 = .ok (.getfield 181, 3) := by decide +kernel
theorem dX0_causeAgainst_60 : decode cX0_causeAgainst 60 = .ok (.dcmp .l, 1) := by decide +kernel
theorem dX0_causeAgainst_61 : decode cX0_causeAgainst 61 = .ok (.ifCond .le 7, 3) := by decide +kernel
theorem dX0_causeAgainst_64 : decode cX0_causeAgainst 64 = .ok (.iconst 2, 1) := by decide +kernel
theorem dX0_causeAgainst_65 : decode cX0_causeAgainst 65 = .ok (.goto 4, 3) := by decide +kernel
theorem dX0_causeAgainst_68 : decode cX0_causeAgainst 68 = .ok (.iconst 3, 1) := by decide +kernel
theorem dX0_causeAgainst_69 : decode cX0_causeAgainst 69 = .ok (.ireturn, 1) := by decide +kernel
abbrev rmX0_causeAgainst : Room := { frames := 0, cells := 0, slots := 0, locals := 0 }
def w_X0_causeAgainst (n : Nat) (M : Mem) (t : Nat) (p1 : Nat) (p2 : Nat) (K : Int32 → Mem → Prop) : Prop := ((p2 ≤ n ∧ kd p2 = (1, 0)) ∧ (vf_n64 (FP.ddiv (gD M p2 7) (4611686018427387904 : UInt64)) ∧ (∀ z2, z2 = FP.ddiv (gD M p2 7) (4611686018427387904 : UInt64) → ((0 ≤ (Op.cmpValue (FP.dcmp (gD M p2 8) z2) CmpOp.g) → ((t ≤ n ∧ kd t = (0, 0)) ∧ (((gI M p2 5) ≤ (gI M t 5) → ((p1 ≤ n ∧ kd p1 = (2, 0)) ∧ (∀ r5, r5 = gR M t 1 → ((r5 ≤ n ∧ kd r5 = (3, 0)) ∧ ((0 < (Op.cmpValue (FP.dcmp (gD M p1 9) (gD M r5 3)) CmpOp.g) → (∀ r7, r7 = gR M t 2 → ((r7 ≤ n ∧ kd r7 = (3, 0)) ∧ (((Op.cmpValue (FP.dcmp (gD M p1 9) (gD M r7 3)) CmpOp.l) ≤ 0 → K (3 : Int32) M) ∧ (¬ (Op.cmpValue (FP.dcmp (gD M p1 9) (gD M r7 3)) CmpOp.l) ≤ 0 → K (2 : Int32) M))))) ∧ (¬ 0 < (Op.cmpValue (FP.dcmp (gD M p1 9) (gD M r5 3)) CmpOp.g) → K (-5 : Int32) M)))))) ∧ (¬ (gI M p2 5) ≤ (gI M t 5) → K (4 : Int32) M)))) ∧ (¬ 0 ≤ (Op.cmpValue (FP.dcmp (gD M p2 8) z2) CmpOp.g) → K (1 : Int32) M)))))
set_option maxHeartbeats 4000000 in
set_option maxRecDepth 20000 in
theorem c_X0_causeAgainst (l : Launch) (E : Gl) (n : Nat) (M : Mem) (t : Nat) (p1 : Nat) (p2 : Nat) (K : Int32 → Mem → Prop) (hw : w_X0_causeAgainst n M t p1 p2 K) : CT E l yX0_causeAgainst cX0_causeAgainst 3 (some .int) rmX0_causeAgainst n M [rV t, rV p1, rV p2] (PI E n K) := by
  refine g_met l (by decide) (Nat.le_of_ble_eq_true rfl) ?_
  intro p e s m args below meth c X hr hlk hnm hSz hOld
  change CX E p s m c _ _ RX0 at X
  unfold w_X0_causeAgainst at hw
  refine g_aload_n X dX0_causeAgainst_0 2 rfl ?_
  obtain ⟨hk1, hw⟩ := hw
  refine g_get X (dV (gD M p2 8)) dX0_causeAgainst_1 fl_X0_133 (fun _ => rfl) ⟨hk1, hw⟩ (fun hw => ?_)
  refine g_aload_n X dX0_causeAgainst_4 2 rfl ?_
  refine g_get X (dV (gD M p2 7)) dX0_causeAgainst_5 fl_X0_129 (fun _ => rfl) ⟨hk1, hw⟩ (fun hw => ?_)
  refine g_ldcD X (4611686018427387904 : UInt64) dX0_causeAgainst_8 wk_X0_179 ?_
  refine g_ddiv X dX0_causeAgainst_11 hw (fun hw => ?_)
  refine g_topD (fun z2 hz2 => ?_)
  have hw := hw z2 hz2
  refine g_dcmp X dX0_causeAgainst_12 ?_
  refine g_if_ge X 18 dX0_causeAgainst_13 (by decide) hw (fun hw => ?_) (fun hw => ?_)
  · refine g_aload_n X dX0_causeAgainst_18 2 rfl ?_
    refine g_get X (iV (gI M p2 5)) dX0_causeAgainst_19 fl_X0_150 (fun _ => rfl) ⟨hk1, hw⟩ (fun hw => ?_)
    refine g_aload_n X dX0_causeAgainst_22 0 rfl ?_
    obtain ⟨hk3, hw⟩ := hw
    refine g_get X (iV (gI M t 5)) dX0_causeAgainst_23 fl_X0_38 (fun _ => rfl) ⟨hk3, hw⟩ (fun hw => ?_)
    refine g_icmp_le X 31 dX0_causeAgainst_26 (by decide) hw (fun hw => ?_) (fun hw => ?_)
    · refine g_aload_n X dX0_causeAgainst_31 1 rfl ?_
      obtain ⟨hk4, hw⟩ := hw
      refine g_get X (dV (gD M p1 9)) dX0_causeAgainst_32 fl_X0_140 (fun _ => rfl) ⟨hk4, hw⟩ (fun hw => ?_)
      refine g_aload_n X dX0_causeAgainst_35 0 rfl ?_
      refine g_get X (rV (gR M t 1)) dX0_causeAgainst_36 fl_X0_30 (fun _ => rfl) ⟨hk3, hw⟩ (fun hw => ?_)
      refine g_topR (fun r5 hr5 => ?_)
      have hw := hw r5 hr5
      obtain ⟨hk6, hw⟩ := hw
      refine g_get X (dV (gD M r5 3)) dX0_causeAgainst_39 fl_X0_181 (fun _ => rfl) ⟨hk6, hw⟩ (fun hw => ?_)
      refine g_dcmp X dX0_causeAgainst_42 ?_
      refine g_if_gt X 49 dX0_causeAgainst_43 (by decide) hw (fun hw => ?_) (fun hw => ?_)
      · refine g_aload_n X dX0_causeAgainst_49 1 rfl ?_
        refine g_get X (dV (gD M p1 9)) dX0_causeAgainst_50 fl_X0_140 (fun _ => rfl) ⟨hk4, hw⟩ (fun hw => ?_)
        refine g_aload_n X dX0_causeAgainst_53 0 rfl ?_
        refine g_get X (rV (gR M t 2)) dX0_causeAgainst_54 fl_X0_35 (fun _ => rfl) ⟨hk3, hw⟩ (fun hw => ?_)
        refine g_topR (fun r7 hr7 => ?_)
        have hw := hw r7 hr7
        obtain ⟨hk8, hw⟩ := hw
        refine g_get X (dV (gD M r7 3)) dX0_causeAgainst_57 fl_X0_181 (fun _ => rfl) ⟨hk8, hw⟩ (fun hw => ?_)
        refine g_dcmp X dX0_causeAgainst_60 ?_
        refine g_if_le X 68 dX0_causeAgainst_61 (by decide) hw (fun hw => ?_) (fun hw => ?_)
        · refine g_iconst X (3 : Int32) dX0_causeAgainst_68 (by decide) ?_
          exact g_iret X hr hlk hSz hOld (Nat.le_refl _) dX0_causeAgainst_69 hw
        · refine g_iconst X (2 : Int32) dX0_causeAgainst_64 (by decide) ?_
          refine g_goto X 69 dX0_causeAgainst_65 (by decide) ?_
          exact g_iret X hr hlk hSz hOld (Nat.le_refl _) dX0_causeAgainst_69 hw
      · refine g_bipush X (-5 : Int32) dX0_causeAgainst_46 (by decide) ?_
        exact g_iret X hr hlk hSz hOld (Nat.le_refl _) dX0_causeAgainst_48 hw
    · refine g_iconst X (4 : Int32) dX0_causeAgainst_29 (by decide) ?_
      exact g_iret X hr hlk hSz hOld (Nat.le_refl _) dX0_causeAgainst_30 hw
  · refine g_iconst X (1 : Int32) dX0_causeAgainst_16 (by decide) ?_
    exact g_iret X hr hlk hSz hOld (Nat.le_refl _) dX0_causeAgainst_17 hw
theorem dX0_judge_0 : decode cX0_judge 0 = .ok (.aload_n 0, 1) := by decide +kernel
theorem dX0_judge_1 : decode cX0_judge 1 = .ok (.aload_n 1, 1) := by decide +kernel
theorem dX0_judge_2 : decode cX0_judge 2 = .ok (.aload_n 2, 1) := by decide +kernel
theorem dX0_judge_3 : decode cX0_judge 3 = .ok (.invokevirtual 165, 3) := by decide +kernel
theorem dX0_judge_6 : decode cX0_judge 6 = .ok (.istore_n 3, 1) := by decide +kernel
theorem dX0_judge_7 : decode cX0_judge 7 = .ok (.iload_n 3, 1) := by decide +kernel
theorem dX0_judge_8 : decode cX0_judge 8 = .ok (.iconst 3, 1) := by decide +kernel
theorem dX0_judge_9 : decode cX0_judge 9 = .ok (.if_icmp .eq 8, 3) := by decide +kernel
theorem dX0_judge_12 : decode cX0_judge 12 = .ok (.iload_n 3, 1) := by decide +kernel
theorem dX0_judge_13 : decode cX0_judge 13 = .ok (.iconst 4, 1) := by decide +kernel
theorem dX0_judge_14 : decode cX0_judge 14 = .ok (.if_icmp .ne 7, 3) := by decide +kernel
theorem dX0_judge_17 : decode cX0_judge 17 = .ok (.iconst 1, 1) := by decide +kernel
theorem dX0_judge_18 : decode cX0_judge 18 = .ok (.goto 4, 3) := by decide +kernel
theorem dX0_judge_21 : decode cX0_judge 21 = .ok (.iconst 0, 1) := by decide +kernel
theorem dX0_judge_22 : decode cX0_judge 22 = .ok (.istore 4, 2) := by decide +kernel
theorem dX0_judge_24 : decode cX0_judge 24 = .ok (.iload_n 3, 1) := by decide +kernel
theorem dX0_judge_25 : decode cX0_judge 25 = .ok (.bipush (-5), 2) := by decide +kernel
theorem dX0_judge_27 : decode cX0_judge 27 = .ok (.if_icmp .ne 21, 3) := by decide +kernel
theorem dX0_judge_30 : decode cX0_judge 30 = .ok (.aload_n 1, 1) := by decide +kernel
theorem dX0_judge_31 : decode cX0_judge 31 = .ok (.iconst 2, 1) := by decide +kernel
theorem dX0_judge_32 : decode cX0_judge 32 = .ok (.putfield 93, 3) := by decide +kernel
theorem dX0_judge_35 : decode cX0_judge 35 = .ok (.aload_n 2, 1) := by decide +kernel
theorem dX0_judge_36 : decode cX0_judge 36 = .ok (.dup, 1) := by decide +kernel
theorem dX0_judge_37 : decode cX0_judge 37 = .ok (.getfield 169, 3) := by decide +kernel
theorem dX0_judge_40 : decode cX0_judge 40 = .ok (.iconst 1, 1) := by decide +kernel
theorem dX0_judge_41 : decode cX0_judge 41 = .ok (.iadd, 1) := by decide +kernel
theorem dX0_judge_42 : decode cX0_judge 42 = .ok (.putfield 169, 3) := by decide +kernel
theorem dX0_judge_45 : decode cX0_judge 45 = .ok (.goto 59, 3) := by decide +kernel
theorem dX0_judge_48 : decode cX0_judge 48 = .ok (.iload 4, 2) := by decide +kernel
theorem dX0_judge_50 : decode cX0_judge 50 = .ok (.ifCond .eq 39, 3) := by decide +kernel
theorem dX0_judge_53 : decode cX0_judge 53 = .ok (.aload_n 1, 1) := by decide +kernel
theorem dX0_judge_54 : decode cX0_judge 54 = .ok (.getfield 172, 3) := by decide +kernel
theorem dX0_judge_57 : decode cX0_judge 57 = .ok (.iconst 2, 1) := by decide +kernel
theorem dX0_judge_58 : decode cX0_judge 58 = .ok (.if_icmp .ge 31, 3) := by decide +kernel
theorem dX0_judge_61 : decode cX0_judge 61 = .ok (.aload_n 1, 1) := by decide +kernel
theorem dX0_judge_62 : decode cX0_judge 62 = .ok (.dup, 1) := by decide +kernel
theorem dX0_judge_63 : decode cX0_judge 63 = .ok (.getfield 172, 3) := by decide +kernel
theorem dX0_judge_66 : decode cX0_judge 66 = .ok (.iconst 1, 1) := by decide +kernel
theorem dX0_judge_67 : decode cX0_judge 67 = .ok (.iadd, 1) := by decide +kernel
theorem dX0_judge_68 : decode cX0_judge 68 = .ok (.putfield 172, 3) := by decide +kernel
theorem dX0_judge_71 : decode cX0_judge 71 = .ok (.aload_n 2, 1) := by decide +kernel
theorem dX0_judge_72 : decode cX0_judge 72 = .ok (.dup, 1) := by decide +kernel
theorem dX0_judge_73 : decode cX0_judge 73 = .ok (.getfield 175, 3) := by decide +kernel
theorem dX0_judge_76 : decode cX0_judge 76 = .ok (.iconst 1, 1) := by decide +kernel
theorem dX0_judge_77 : decode cX0_judge 77 = .ok (.iadd, 1) := by decide +kernel
theorem dX0_judge_78 : decode cX0_judge 78 = .ok (.putfield 175, 3) := by decide +kernel
theorem dX0_judge_81 : decode cX0_judge 81 = .ok (.aload_n 0, 1) := by decide +kernel
theorem dX0_judge_82 : decode cX0_judge 82 = .ok (.aload_n 1, 1) := by decide +kernel
theorem dX0_judge_83 : decode cX0_judge 83 = .ok (.invokevirtual 109, 3) := by decide +kernel
theorem dX0_judge_86 : decode cX0_judge 86 = .ok (.goto 18, 3) := by decide +kernel
theorem dX0_judge_89 : decode cX0_judge 89 = .ok (.aload_n 1, 1) := by decide +kernel
theorem dX0_judge_90 : decode cX0_judge 90 = .ok (.iload_n 3, 1) := by decide +kernel
theorem dX0_judge_91 : decode cX0_judge 91 = .ok (.invokevirtual 99, 3) := by decide +kernel
theorem dX0_judge_94 : decode cX0_judge 94 = .ok (.aload_n 2, 1) := by decide +kernel
theorem dX0_judge_95 : decode cX0_judge 95 = .ok (.dup, 1) := by decide +kernel
theorem dX0_judge_96 : decode cX0_judge 96 = .ok (.getfield 176, 3) := by decide +kernel
theorem dX0_judge_99 : decode cX0_judge 99 = .ok (.iconst 1, 1) := by decide +kernel
theorem dX0_judge_100 : decode cX0_judge 100 = .ok (.iadd, 1) := by decide +kernel
theorem dX0_judge_101 : decode cX0_judge 101 = .ok (.putfield 176, 3) := by decide +kernel
theorem dX0_judge_104 : decode cX0_judge 104 = .ok (.return_, 1) := by decide +kernel
abbrev rmX0_judge : Room := { frames := 1, cells := 0, slots := 0, locals := 25 }
def w_X0_judge (n : Nat) (M : Mem) (t : Nat) (p1 : Nat) (p2 : Nat) (K : Mem → Prop) : Prop := ((t ≤ n ∧ kd t = (0, 0)) ∧ w_X0_causeAgainst n M t p1 p2 (fun x3 M2 => ((x3 = (3 : Int32) → ((¬ x3 = (-5 : Int32) → ((p1 ≤ n ∧ kd p1 = (2, 0)) ∧ (((2 : Int32) ≤ (gI M2 p1 7) → w_X2_rejectFor n M2 p1 x3 (fun M5 => ((p2 ≤ n ∧ kd p2 = (1, 0)) ∧ (∀ M7, M7 = sI M5 p2 12 ((gI M5 p2 12) + (1 : Int32)) → K M7)))) ∧ (¬ (2 : Int32) ≤ (gI M2 p1 7) → (∀ M8, M8 = sI M2 p1 7 ((gI M2 p1 7) + (1 : Int32)) → ((p2 ≤ n ∧ kd p2 = (1, 0)) ∧ (∀ M10, M10 = sI M8 p2 13 ((gI M8 p2 13) + (1 : Int32)) → w_X0_putInFront n M10 t p1 (fun M11 => K M11)))))))) ∧ (x3 = (-5 : Int32) → ((p1 ≤ n ∧ kd p1 = (2, 0)) ∧ (∀ M13, M13 = sI M2 p1 4 (2 : Int32) → ((p2 ≤ n ∧ kd p2 = (1, 0)) ∧ (∀ M15, M15 = sI M13 p2 11 ((gI M13 p2 11) + (1 : Int32)) → K M15))))))) ∧ (¬ x3 = (3 : Int32) → ((¬ x3 = (4 : Int32) → ((¬ x3 = (-5 : Int32) → ((p1 ≤ n ∧ kd p1 = (2, 0)) ∧ w_X2_rejectFor n M2 p1 x3 (fun M17 => ((p2 ≤ n ∧ kd p2 = (1, 0)) ∧ (∀ M19, M19 = sI M17 p2 12 ((gI M17 p2 12) + (1 : Int32)) → K M19))))) ∧ (x3 = (-5 : Int32) → ((p1 ≤ n ∧ kd p1 = (2, 0)) ∧ (∀ M21, M21 = sI M2 p1 4 (2 : Int32) → ((p2 ≤ n ∧ kd p2 = (1, 0)) ∧ (∀ M23, M23 = sI M21 p2 11 ((gI M21 p2 11) + (1 : Int32)) → K M23))))))) ∧ (x3 = (4 : Int32) → ((¬ x3 = (-5 : Int32) → ((p1 ≤ n ∧ kd p1 = (2, 0)) ∧ (((2 : Int32) ≤ (gI M2 p1 7) → w_X2_rejectFor n M2 p1 x3 (fun M25 => ((p2 ≤ n ∧ kd p2 = (1, 0)) ∧ (∀ M27, M27 = sI M25 p2 12 ((gI M25 p2 12) + (1 : Int32)) → K M27)))) ∧ (¬ (2 : Int32) ≤ (gI M2 p1 7) → (∀ M28, M28 = sI M2 p1 7 ((gI M2 p1 7) + (1 : Int32)) → ((p2 ≤ n ∧ kd p2 = (1, 0)) ∧ (∀ M30, M30 = sI M28 p2 13 ((gI M28 p2 13) + (1 : Int32)) → w_X0_putInFront n M30 t p1 (fun M31 => K M31)))))))) ∧ (x3 = (-5 : Int32) → ((p1 ≤ n ∧ kd p1 = (2, 0)) ∧ (∀ M33, M33 = sI M2 p1 4 (2 : Int32) → ((p2 ≤ n ∧ kd p2 = (1, 0)) ∧ (∀ M35, M35 = sI M33 p2 11 ((gI M33 p2 11) + (1 : Int32)) → K M35))))))))))))
set_option maxHeartbeats 4000000 in
set_option maxRecDepth 20000 in
theorem c_X0_judge (l : Launch) (E : Gl) (n : Nat) (M : Mem) (t : Nat) (p1 : Nat) (p2 : Nat) (K : Mem → Prop) (hw : w_X0_judge n M t p1 p2 K) : CT E l yX0_judge cX0_judge 5 none rmX0_judge n M [rV t, rV p1, rV p2] (PV E n K) := by
  refine g_met l (by decide) (Nat.le_of_ble_eq_true rfl) ?_
  intro p e s m args below meth c X hr hlk hnm hSz hOld
  change CX E p s m c _ _ RX0 at X
  unfold w_X0_judge at hw
  refine g_aload_n X dX0_judge_0 0 rfl ?_
  refine g_aload_n X dX0_judge_1 1 rfl ?_
  refine g_aload_n X dX0_judge_2 2 rfl ?_
  obtain ⟨hk1, hw⟩ := hw
  refine g_calli (pc' := 6) (rest := []) rfl (fun H locs ls d qR qL => g_runV X cw_X0_165 iv_X0_causeAgainst ⟨Nat.le_of_ble_eq_true rfl, Nat.le_of_ble_eq_true rfl⟩ dX0_judge_3 (c_X0_causeAgainst l E n M t p1 p2 _ hw) hk1 rfl rfl (Nat.le_of_ble_eq_true rfl) ⟨Nat.le_of_ble_eq_true rfl, Nat.le_of_ble_eq_true rfl⟩ qR qL) (fun x3 M2 hw => ?_)
  refine g_istore_n (lv' := [(3, iV x3), (0, rV t), (1, rV p1), (2, rV p2)]) X dX0_judge_6 (by decide) rfl ?_
  refine g_iload_n X dX0_judge_7 0 rfl ?_
  refine g_iconst X (3 : Int32) dX0_judge_8 (by decide) ?_
  refine g_icmp_eq X 17 dX0_judge_9 (by decide) hw (fun hw => ?_) (fun hw => ?_)
  · refine g_iconst X (1 : Int32) dX0_judge_17 (by decide) ?_
    refine g_goto X 22 dX0_judge_18 (by decide) ?_
    refine g_istore (lv' := [(4, iV (1 : Int32)), (3, iV x3), (0, rV t), (1, rV p1), (2, rV p2)]) X dX0_judge_22 (by decide) rfl ?_
    refine g_iload_n X dX0_judge_24 1 rfl ?_
    refine g_bipush X (-5 : Int32) dX0_judge_25 (by decide) ?_
    refine g_icmp_ne X 48 dX0_judge_27 (by decide) hw (fun hw => ?_) (fun hw => ?_)
    · refine g_iload X dX0_judge_48 0 rfl ?_
      refine g_if_eq (A := False) X 89 dX0_judge_50 (by decide) ⟨fun h => absurd h (by decide), fun _ => hw⟩ (fun h => h.elim) (fun hw => ?_)
      refine g_aload_n X dX0_judge_53 3 rfl ?_
      obtain ⟨hk4, hw⟩ := hw
      refine g_get X (iV (gI M2 p1 7)) dX0_judge_54 fl_X0_172 (fun _ => rfl) ⟨hk4, hw⟩ (fun hw => ?_)
      refine g_iconst X (2 : Int32) dX0_judge_57 (by decide) ?_
      refine g_icmp_ge X 89 dX0_judge_58 (by decide) hw (fun hw => ?_) (fun hw => ?_)
      · refine g_aload_n X dX0_judge_89 3 rfl ?_
        refine g_iload_n X dX0_judge_90 1 rfl ?_
        refine g_callv (pc' := 94) (rest := []) rfl (fun H locs ls d qR qL => g_runV X cw_X0_99 iv_X2_rejectFor ⟨Nat.le_of_ble_eq_true rfl, Nat.le_of_ble_eq_true rfl⟩ dX0_judge_91 (c_X2_rejectFor l E n M2 p1 x3 _ hw) hk4 rfl rfl (Nat.le_of_ble_eq_true rfl) ⟨Nat.le_of_ble_eq_true rfl, Nat.le_of_ble_eq_true rfl⟩ qR qL) (fun M5 hw => ?_)
        refine g_aload_n X dX0_judge_94 4 rfl ?_
        refine g_dup X dX0_judge_95 rfl ?_
        obtain ⟨hk6, hw⟩ := hw
        refine g_get X (iV (gI M5 p2 12)) dX0_judge_96 fl_X0_176 (fun _ => rfl) ⟨hk6, hw⟩ (fun hw => ?_)
        refine g_iconst X (1 : Int32) dX0_judge_99 (by decide) ?_
        refine g_iadd X dX0_judge_100 ?_
        refine g_putI X dX0_judge_101 fl_X0_176 rfl (Or.inl rfl) ⟨hk6, hw⟩ (fun hw => ?_)
        refine g_topM (fun M7 hM7 => ?_)
        have hw := hw M7 hM7
        exact g_vret X hr hlk hSz hOld (Nat.le_refl _) dX0_judge_104 hw
      · refine g_aload_n X dX0_judge_61 3 rfl ?_
        refine g_dup X dX0_judge_62 rfl ?_
        refine g_get X (iV (gI M2 p1 7)) dX0_judge_63 fl_X0_172 (fun _ => rfl) ⟨hk4, hw⟩ (fun hw => ?_)
        refine g_iconst X (1 : Int32) dX0_judge_66 (by decide) ?_
        refine g_iadd X dX0_judge_67 ?_
        refine g_putI X dX0_judge_68 fl_X0_172 rfl (Or.inl rfl) ⟨hk4, hw⟩ (fun hw => ?_)
        refine g_topM (fun M8 hM8 => ?_)
        have hw := hw M8 hM8
        refine g_aload_n X dX0_judge_71 4 rfl ?_
        refine g_dup X dX0_judge_72 rfl ?_
        obtain ⟨hk9, hw⟩ := hw
        refine g_get X (iV (gI M8 p2 13)) dX0_judge_73 fl_X0_175 (fun _ => rfl) ⟨hk9, hw⟩ (fun hw => ?_)
        refine g_iconst X (1 : Int32) dX0_judge_76 (by decide) ?_
        refine g_iadd X dX0_judge_77 ?_
        refine g_putI X dX0_judge_78 fl_X0_175 rfl (Or.inl rfl) ⟨hk9, hw⟩ (fun hw => ?_)
        refine g_topM (fun M10 hM10 => ?_)
        have hw := hw M10 hM10
        refine g_aload_n X dX0_judge_81 2 rfl ?_
        refine g_aload_n X dX0_judge_82 3 rfl ?_
        refine g_callv (pc' := 86) (rest := []) rfl (fun H locs ls d qR qL => g_runV X cw_X0_109 iv_X0_putInFront ⟨Nat.le_of_ble_eq_true rfl, Nat.le_of_ble_eq_true rfl⟩ dX0_judge_83 (c_X0_putInFront l E n M10 t p1 _ hw) hk1 rfl rfl (Nat.le_of_ble_eq_true rfl) ⟨Nat.le_of_ble_eq_true rfl, Nat.le_of_ble_eq_true rfl⟩ qR qL) (fun M11 hw => ?_)
        refine g_goto X 104 dX0_judge_86 (by decide) ?_
        exact g_vret X hr hlk hSz hOld (Nat.le_refl _) dX0_judge_104 hw
    · refine g_aload_n X dX0_judge_30 3 rfl ?_
      refine g_iconst X (2 : Int32) dX0_judge_31 (by decide) ?_
      obtain ⟨hk12, hw⟩ := hw
      refine g_putI X dX0_judge_32 fl_X0_93 rfl (Or.inl rfl) ⟨hk12, hw⟩ (fun hw => ?_)
      refine g_topM (fun M13 hM13 => ?_)
      have hw := hw M13 hM13
      refine g_aload_n X dX0_judge_35 4 rfl ?_
      refine g_dup X dX0_judge_36 rfl ?_
      obtain ⟨hk14, hw⟩ := hw
      refine g_get X (iV (gI M13 p2 11)) dX0_judge_37 fl_X0_169 (fun _ => rfl) ⟨hk14, hw⟩ (fun hw => ?_)
      refine g_iconst X (1 : Int32) dX0_judge_40 (by decide) ?_
      refine g_iadd X dX0_judge_41 ?_
      refine g_putI X dX0_judge_42 fl_X0_169 rfl (Or.inl rfl) ⟨hk14, hw⟩ (fun hw => ?_)
      refine g_topM (fun M15 hM15 => ?_)
      have hw := hw M15 hM15
      refine g_goto X 104 dX0_judge_45 (by decide) ?_
      exact g_vret X hr hlk hSz hOld (Nat.le_refl _) dX0_judge_104 hw
  · refine g_iload_n X dX0_judge_12 0 rfl ?_
    refine g_iconst X (4 : Int32) dX0_judge_13 (by decide) ?_
    refine g_icmp_ne X 21 dX0_judge_14 (by decide) hw (fun hw => ?_) (fun hw => ?_)
    · refine g_iconst X (0 : Int32) dX0_judge_21 (by decide) ?_
      refine g_istore (lv' := [(4, iV (0 : Int32)), (3, iV x3), (0, rV t), (1, rV p1), (2, rV p2)]) X dX0_judge_22 (by decide) rfl ?_
      refine g_iload_n X dX0_judge_24 1 rfl ?_
      refine g_bipush X (-5 : Int32) dX0_judge_25 (by decide) ?_
      refine g_icmp_ne X 48 dX0_judge_27 (by decide) hw (fun hw => ?_) (fun hw => ?_)
      · refine g_iload X dX0_judge_48 0 rfl ?_
        refine g_if_eq (B := False) X 89 dX0_judge_50 (by decide) ⟨fun _ => hw, fun h => absurd h (by decide)⟩ (fun hw => ?_) (fun h => h.elim)
        refine g_aload_n X dX0_judge_89 3 rfl ?_
        refine g_iload_n X dX0_judge_90 1 rfl ?_
        obtain ⟨hk16, hw⟩ := hw
        refine g_callv (pc' := 94) (rest := []) rfl (fun H locs ls d qR qL => g_runV X cw_X0_99 iv_X2_rejectFor ⟨Nat.le_of_ble_eq_true rfl, Nat.le_of_ble_eq_true rfl⟩ dX0_judge_91 (c_X2_rejectFor l E n M2 p1 x3 _ hw) hk16 rfl rfl (Nat.le_of_ble_eq_true rfl) ⟨Nat.le_of_ble_eq_true rfl, Nat.le_of_ble_eq_true rfl⟩ qR qL) (fun M17 hw => ?_)
        refine g_aload_n X dX0_judge_94 4 rfl ?_
        refine g_dup X dX0_judge_95 rfl ?_
        obtain ⟨hk18, hw⟩ := hw
        refine g_get X (iV (gI M17 p2 12)) dX0_judge_96 fl_X0_176 (fun _ => rfl) ⟨hk18, hw⟩ (fun hw => ?_)
        refine g_iconst X (1 : Int32) dX0_judge_99 (by decide) ?_
        refine g_iadd X dX0_judge_100 ?_
        refine g_putI X dX0_judge_101 fl_X0_176 rfl (Or.inl rfl) ⟨hk18, hw⟩ (fun hw => ?_)
        refine g_topM (fun M19 hM19 => ?_)
        have hw := hw M19 hM19
        exact g_vret X hr hlk hSz hOld (Nat.le_refl _) dX0_judge_104 hw
      · refine g_aload_n X dX0_judge_30 3 rfl ?_
        refine g_iconst X (2 : Int32) dX0_judge_31 (by decide) ?_
        obtain ⟨hk20, hw⟩ := hw
        refine g_putI X dX0_judge_32 fl_X0_93 rfl (Or.inl rfl) ⟨hk20, hw⟩ (fun hw => ?_)
        refine g_topM (fun M21 hM21 => ?_)
        have hw := hw M21 hM21
        refine g_aload_n X dX0_judge_35 4 rfl ?_
        refine g_dup X dX0_judge_36 rfl ?_
        obtain ⟨hk22, hw⟩ := hw
        refine g_get X (iV (gI M21 p2 11)) dX0_judge_37 fl_X0_169 (fun _ => rfl) ⟨hk22, hw⟩ (fun hw => ?_)
        refine g_iconst X (1 : Int32) dX0_judge_40 (by decide) ?_
        refine g_iadd X dX0_judge_41 ?_
        refine g_putI X dX0_judge_42 fl_X0_169 rfl (Or.inl rfl) ⟨hk22, hw⟩ (fun hw => ?_)
        refine g_topM (fun M23 hM23 => ?_)
        have hw := hw M23 hM23
        refine g_goto X 104 dX0_judge_45 (by decide) ?_
        exact g_vret X hr hlk hSz hOld (Nat.le_refl _) dX0_judge_104 hw
    · refine g_iconst X (1 : Int32) dX0_judge_17 (by decide) ?_
      refine g_goto X 22 dX0_judge_18 (by decide) ?_
      refine g_istore (lv' := [(4, iV (1 : Int32)), (3, iV x3), (0, rV t), (1, rV p1), (2, rV p2)]) X dX0_judge_22 (by decide) rfl ?_
      refine g_iload_n X dX0_judge_24 1 rfl ?_
      refine g_bipush X (-5 : Int32) dX0_judge_25 (by decide) ?_
      refine g_icmp_ne X 48 dX0_judge_27 (by decide) hw (fun hw => ?_) (fun hw => ?_)
      · refine g_iload X dX0_judge_48 0 rfl ?_
        refine g_if_eq (A := False) X 89 dX0_judge_50 (by decide) ⟨fun h => absurd h (by decide), fun _ => hw⟩ (fun h => h.elim) (fun hw => ?_)
        refine g_aload_n X dX0_judge_53 3 rfl ?_
        obtain ⟨hk24, hw⟩ := hw
        refine g_get X (iV (gI M2 p1 7)) dX0_judge_54 fl_X0_172 (fun _ => rfl) ⟨hk24, hw⟩ (fun hw => ?_)
        refine g_iconst X (2 : Int32) dX0_judge_57 (by decide) ?_
        refine g_icmp_ge X 89 dX0_judge_58 (by decide) hw (fun hw => ?_) (fun hw => ?_)
        · refine g_aload_n X dX0_judge_89 3 rfl ?_
          refine g_iload_n X dX0_judge_90 1 rfl ?_
          refine g_callv (pc' := 94) (rest := []) rfl (fun H locs ls d qR qL => g_runV X cw_X0_99 iv_X2_rejectFor ⟨Nat.le_of_ble_eq_true rfl, Nat.le_of_ble_eq_true rfl⟩ dX0_judge_91 (c_X2_rejectFor l E n M2 p1 x3 _ hw) hk24 rfl rfl (Nat.le_of_ble_eq_true rfl) ⟨Nat.le_of_ble_eq_true rfl, Nat.le_of_ble_eq_true rfl⟩ qR qL) (fun M25 hw => ?_)
          refine g_aload_n X dX0_judge_94 4 rfl ?_
          refine g_dup X dX0_judge_95 rfl ?_
          obtain ⟨hk26, hw⟩ := hw
          refine g_get X (iV (gI M25 p2 12)) dX0_judge_96 fl_X0_176 (fun _ => rfl) ⟨hk26, hw⟩ (fun hw => ?_)
          refine g_iconst X (1 : Int32) dX0_judge_99 (by decide) ?_
          refine g_iadd X dX0_judge_100 ?_
          refine g_putI X dX0_judge_101 fl_X0_176 rfl (Or.inl rfl) ⟨hk26, hw⟩ (fun hw => ?_)
          refine g_topM (fun M27 hM27 => ?_)
          have hw := hw M27 hM27
          exact g_vret X hr hlk hSz hOld (Nat.le_refl _) dX0_judge_104 hw
        · refine g_aload_n X dX0_judge_61 3 rfl ?_
          refine g_dup X dX0_judge_62 rfl ?_
          refine g_get X (iV (gI M2 p1 7)) dX0_judge_63 fl_X0_172 (fun _ => rfl) ⟨hk24, hw⟩ (fun hw => ?_)
          refine g_iconst X (1 : Int32) dX0_judge_66 (by decide) ?_
          refine g_iadd X dX0_judge_67 ?_
          refine g_putI X dX0_judge_68 fl_X0_172 rfl (Or.inl rfl) ⟨hk24, hw⟩ (fun hw => ?_)
          refine g_topM (fun M28 hM28 => ?_)
          have hw := hw M28 hM28
          refine g_aload_n X dX0_judge_71 4 rfl ?_
          refine g_dup X dX0_judge_72 rfl ?_
          obtain ⟨hk29, hw⟩ := hw
          refine g_get X (iV (gI M28 p2 13)) dX0_judge_73 fl_X0_175 (fun _ => rfl) ⟨hk29, hw⟩ (fun hw => ?_)
          refine g_iconst X (1 : Int32) dX0_judge_76 (by decide) ?_
          refine g_iadd X dX0_judge_77 ?_
          refine g_putI X dX0_judge_78 fl_X0_175 rfl (Or.inl rfl) ⟨hk29, hw⟩ (fun hw => ?_)
          refine g_topM (fun M30 hM30 => ?_)
          have hw := hw M30 hM30
          refine g_aload_n X dX0_judge_81 2 rfl ?_
          refine g_aload_n X dX0_judge_82 3 rfl ?_
          refine g_callv (pc' := 86) (rest := []) rfl (fun H locs ls d qR qL => g_runV X cw_X0_109 iv_X0_putInFront ⟨Nat.le_of_ble_eq_true rfl, Nat.le_of_ble_eq_true rfl⟩ dX0_judge_83 (c_X0_putInFront l E n M30 t p1 _ hw) hk1 rfl rfl (Nat.le_of_ble_eq_true rfl) ⟨Nat.le_of_ble_eq_true rfl, Nat.le_of_ble_eq_true rfl⟩ qR qL) (fun M31 hw => ?_)
          refine g_goto X 104 dX0_judge_86 (by decide) ?_
          exact g_vret X hr hlk hSz hOld (Nat.le_refl _) dX0_judge_104 hw
      · refine g_aload_n X dX0_judge_30 3 rfl ?_
        refine g_iconst X (2 : Int32) dX0_judge_31 (by decide) ?_
        obtain ⟨hk32, hw⟩ := hw
        refine g_putI X dX0_judge_32 fl_X0_93 rfl (Or.inl rfl) ⟨hk32, hw⟩ (fun hw => ?_)
        refine g_topM (fun M33 hM33 => ?_)
        have hw := hw M33 hM33
        refine g_aload_n X dX0_judge_35 4 rfl ?_
        refine g_dup X dX0_judge_36 rfl ?_
        obtain ⟨hk34, hw⟩ := hw
        refine g_get X (iV (gI M33 p2 11)) dX0_judge_37 fl_X0_169 (fun _ => rfl) ⟨hk34, hw⟩ (fun hw => ?_)
        refine g_iconst X (1 : Int32) dX0_judge_40 (by decide) ?_
        refine g_iadd X dX0_judge_41 ?_
        refine g_putI X dX0_judge_42 fl_X0_169 rfl (Or.inl rfl) ⟨hk34, hw⟩ (fun hw => ?_)
        refine g_topM (fun M35 hM35 => ?_)
        have hw := hw M35 hM35
        refine g_goto X 104 dX0_judge_45 (by decide) ?_
        exact g_vret X hr hlk hSz hOld (Nat.le_refl _) dX0_judge_104 hw
theorem dX0_valueOf_0 : decode cX0_valueOf 0 = .ok (.dload_n 1, 1) := by decide +kernel
theorem dX0_valueOf_1 : decode cX0_valueOf 1 = .ok (.aload_n 3, 1) := by decide +kernel
theorem dX0_valueOf_2 : decode cX0_valueOf 2 = .ok (.getfield 197, 3) := by decide +kernel
theorem dX0_valueOf_5 : decode cX0_valueOf 5 = .ok (.i2d, 1) := by decide +kernel
theorem dX0_valueOf_6 : decode cX0_valueOf 6 = .ok (.dmul, 1) := by decide +kernel
theorem dX0_valueOf_7 : decode cX0_valueOf 7 = .ok (.aload_n 0, 1) := by decide +kernel
theorem dX0_valueOf_8 : decode cX0_valueOf 8 = .ok (.getfield 58, 3) := by decide +kernel
theorem dX0_valueOf_11 : decode cX0_valueOf 11 = .ok (.iconst 1, 1) := by decide +kernel
theorem dX0_valueOf_12 : decode cX0_valueOf 12 = .ok (.isub, 1) := by decide +kernel
theorem dX0_valueOf_13 : decode cX0_valueOf 13 = .ok (.i2d, 1) := by decide +kernel
theorem dX0_valueOf_14 : decode cX0_valueOf 14 = .ok (.ddiv, 1) := by decide +kernel
theorem dX0_valueOf_15 : decode cX0_valueOf 15 = .ok (.aload 4, 2) := by decide +kernel
theorem dX0_valueOf_17 : decode cX0_valueOf 17 = .ok (.getfield 157, 3) := by decide +kernel
theorem dX0_valueOf_20 : decode cX0_valueOf 20 = .ok (.dmul, 1) := by decide +kernel
theorem dX0_valueOf_21 : decode cX0_valueOf 21 = .ok (.aload 4, 2) := by decide +kernel
theorem dX0_valueOf_23 : decode cX0_valueOf 23 = .ok (.getfield 207, 3) := by decide +kernel
theorem dX0_valueOf_26 : decode cX0_valueOf 26 = .ok (.dmul, 1) := by decide +kernel
theorem dX0_valueOf_27 : decode cX0_valueOf 27 = .ok (.dreturn, 1) := by decide +kernel
abbrev rmX0_valueOf : Room := { frames := 0, cells := 0, slots := 0, locals := 0 }
def w_X0_valueOf (n : Nat) (M : Mem) (t : Nat) (p1 : UInt64) (p2 : Nat) (p3 : Nat) (K : UInt64 → Mem → Prop) : Prop := ((p2 ≤ n ∧ kd p2 = (2, 0)) ∧ (vf_n64 (FP.dmul p1 (FP.i2d (gI M p2 3))) ∧ (∀ z2, z2 = FP.dmul p1 (FP.i2d (gI M p2 3)) → ((t ≤ n ∧ kd t = (0, 0)) ∧ (vf_n64 (FP.ddiv z2 (FP.i2d ((gI M t 6) - (1 : Int32)))) ∧ (∀ z4, z4 = FP.ddiv z2 (FP.i2d ((gI M t 6) - (1 : Int32))) → ((p3 ≤ n ∧ kd p3 = (1, 0)) ∧ (vf_n64 (FP.dmul z4 (gD M p3 1)) ∧ (∀ z6, z6 = FP.dmul z4 (gD M p3 1) → (vf_n64 (FP.dmul z6 (gD M p3 2)) ∧ (∀ z7, z7 = FP.dmul z6 (gD M p3 2) → K z7 M)))))))))))
set_option maxHeartbeats 4000000 in
set_option maxRecDepth 20000 in
theorem c_X0_valueOf (l : Launch) (E : Gl) (n : Nat) (M : Mem) (t : Nat) (p1 : UInt64) (p2 : Nat) (p3 : Nat) (K : UInt64 → Mem → Prop) (hw : w_X0_valueOf n M t p1 p2 p3 K) : CT E l yX0_valueOf cX0_valueOf 5 (some .double) rmX0_valueOf n M [rV t, dV p1, rV p2, rV p3] (PD E n K) := by
  refine g_met l (by decide) (Nat.le_of_ble_eq_true rfl) ?_
  intro p e s m args below meth c X hr hlk hnm hSz hOld
  change CX E p s m c _ _ RX0 at X
  unfold w_X0_valueOf at hw
  refine g_dload_n X dX0_valueOf_0 1 rfl ?_
  refine g_aload_n X dX0_valueOf_1 2 rfl ?_
  obtain ⟨hk1, hw⟩ := hw
  refine g_get X (iV (gI M p2 3)) dX0_valueOf_2 fl_X0_197 (fun _ => rfl) ⟨hk1, hw⟩ (fun hw => ?_)
  refine g_i2d X dX0_valueOf_5 ?_
  refine g_dmul X dX0_valueOf_6 hw (fun hw => ?_)
  refine g_topD (fun z2 hz2 => ?_)
  have hw := hw z2 hz2
  refine g_aload_n X dX0_valueOf_7 0 rfl ?_
  obtain ⟨hk3, hw⟩ := hw
  refine g_get X (iV (gI M t 6)) dX0_valueOf_8 fl_X0_58 (fun _ => rfl) ⟨hk3, hw⟩ (fun hw => ?_)
  refine g_iconst X (1 : Int32) dX0_valueOf_11 (by decide) ?_
  refine g_isub X dX0_valueOf_12 ?_
  refine g_i2d X dX0_valueOf_13 ?_
  refine g_ddiv X dX0_valueOf_14 hw (fun hw => ?_)
  refine g_topD (fun z4 hz4 => ?_)
  have hw := hw z4 hz4
  refine g_aload X dX0_valueOf_15 3 rfl ?_
  obtain ⟨hk5, hw⟩ := hw
  refine g_get X (dV (gD M p3 1)) dX0_valueOf_17 fl_X0_157 (fun _ => rfl) ⟨hk5, hw⟩ (fun hw => ?_)
  refine g_dmul X dX0_valueOf_20 hw (fun hw => ?_)
  refine g_topD (fun z6 hz6 => ?_)
  have hw := hw z6 hz6
  refine g_aload X dX0_valueOf_21 3 rfl ?_
  refine g_get X (dV (gD M p3 2)) dX0_valueOf_23 fl_X0_207 (fun _ => rfl) ⟨hk5, hw⟩ (fun hw => ?_)
  refine g_dmul X dX0_valueOf_26 hw (fun hw => ?_)
  refine g_topD (fun z7 hz7 => ?_)
  have hw := hw z7 hz7
  exact g_dret X hr hlk hSz hOld (Nat.le_refl _) dX0_valueOf_27 hw
theorem dX0_endTest_0 : decode cX0_endTest 0 = .ok (.aload_n 0, 1) := by decide +kernel
theorem dX0_endTest_1 : decode cX0_endTest 1 = .ok (.aload_n 1, 1) := by decide +kernel
theorem dX0_endTest_2 : decode cX0_endTest 2 = .ok (.getfield 102, 3) := by decide +kernel
theorem dX0_endTest_5 : decode cX0_endTest 5 = .ok (.invokevirtual 105, 3) := by decide +kernel
theorem dX0_endTest_8 : decode cX0_endTest 8 = .ok (.astore_n 2, 1) := by decide +kernel
theorem dX0_endTest_9 : decode cX0_endTest 9 = .ok (.aload_n 2, 1) := by decide +kernel
theorem dX0_endTest_10 : decode cX0_endTest 10 = .ok (.ifnonnull 5, 3) := by decide +kernel
theorem dX0_endTest_13 : decode cX0_endTest 13 = .ok (.iconst 0, 1) := by decide +kernel
theorem dX0_endTest_14 : decode cX0_endTest 14 = .ok (.ireturn, 1) := by decide +kernel
theorem dX0_endTest_15 : decode cX0_endTest 15 = .ok (.aload_n 2, 1) := by decide +kernel
theorem dX0_endTest_16 : decode cX0_endTest 16 = .ok (.aload_n 0, 1) := by decide +kernel
theorem dX0_endTest_17 : decode cX0_endTest 17 = .ok (.aload_n 1, 1) := by decide +kernel
theorem dX0_endTest_18 : decode cX0_endTest 18 = .ok (.getfield 129, 3) := by decide +kernel
theorem dX0_endTest_21 : decode cX0_endTest 21 = .ok (.aload_n 1, 1) := by decide +kernel
theorem dX0_endTest_22 : decode cX0_endTest 22 = .ok (.getfield 133, 3) := by decide +kernel
theorem dX0_endTest_25 : decode cX0_endTest 25 = .ok (.dsub, 1) := by decide +kernel
theorem dX0_endTest_26 : decode cX0_endTest 26 = .ok (.aload_n 2, 1) := by decide +kernel
theorem dX0_endTest_27 : decode cX0_endTest 27 = .ok (.aload_n 1, 1) := by decide +kernel
theorem dX0_endTest_28 : decode cX0_endTest 28 = .ok (.invokevirtual 136, 3) := by decide +kernel
theorem dX0_endTest_31 : decode cX0_endTest 31 = .ok (.putfield 140, 3) := by decide +kernel
theorem dX0_endTest_34 : decode cX0_endTest 34 = .ok (.aload_n 2, 1) := by decide +kernel
theorem dX0_endTest_35 : decode cX0_endTest 35 = .ok (.aload_n 1, 1) := by decide +kernel
theorem dX0_endTest_36 : decode cX0_endTest 36 = .ok (.getfield 126, 3) := by decide +kernel
theorem dX0_endTest_39 : decode cX0_endTest 39 = .ok (.putfield 143, 3) := by decide +kernel
theorem dX0_endTest_42 : decode cX0_endTest 42 = .ok (.aload_n 2, 1) := by decide +kernel
theorem dX0_endTest_43 : decode cX0_endTest 43 = .ok (.dup, 1) := by decide +kernel
theorem dX0_endTest_44 : decode cX0_endTest 44 = .ok (.getfield 146, 3) := by decide +kernel
theorem dX0_endTest_47 : decode cX0_endTest 47 = .ok (.iconst 1, 1) := by decide +kernel
theorem dX0_endTest_48 : decode cX0_endTest 48 = .ok (.iadd, 1) := by decide +kernel
theorem dX0_endTest_49 : decode cX0_endTest 49 = .ok (.putfield 146, 3) := by decide +kernel
theorem dX0_endTest_52 : decode cX0_endTest 52 = .ok (.aload_n 1, 1) := by decide +kernel
theorem dX0_endTest_53 : decode cX0_endTest 53 = .ok (.dup, 1) := by decide +kernel
theorem dX0_endTest_54 : decode cX0_endTest 54 = .ok (.getfield 149, 3) := by decide +kernel
theorem dX0_endTest_57 : decode cX0_endTest 57 = .ok (.iconst 1, 1) := by decide +kernel
theorem dX0_endTest_58 : decode cX0_endTest 58 = .ok (.iadd, 1) := by decide +kernel
theorem dX0_endTest_59 : decode cX0_endTest 59 = .ok (.putfield 149, 3) := by decide +kernel
theorem dX0_endTest_62 : decode cX0_endTest 62 = .ok (.aload_n 1, 1) := by decide +kernel
theorem dX0_endTest_63 : decode cX0_endTest 63 = .ok (.dup, 1) := by decide +kernel
theorem dX0_endTest_64 : decode cX0_endTest 64 = .ok (.getfield 150, 3) := by decide +kernel
theorem dX0_endTest_67 : decode cX0_endTest 67 = .ok (.iconst 1, 1) := by decide +kernel
theorem dX0_endTest_68 : decode cX0_endTest 68 = .ok (.iadd, 1) := by decide +kernel
theorem dX0_endTest_69 : decode cX0_endTest 69 = .ok (.putfield 150, 3) := by decide +kernel
theorem dX0_endTest_72 : decode cX0_endTest 72 = .ok (.aload_n 1, 1) := by decide +kernel
theorem dX0_endTest_73 : decode cX0_endTest 73 = .ok (.bipush (-5), 2) := by decide +kernel
theorem dX0_endTest_75 : decode cX0_endTest 75 = .ok (.putfield 102, 3) := by decide +kernel
theorem dX0_endTest_78 : decode cX0_endTest 78 = .ok (.aload_n 0, 1) := by decide +kernel
theorem dX0_endTest_79 : decode cX0_endTest 79 = .ok (.aload_n 2, 1) := by decide +kernel
theorem dX0_endTest_80 : decode cX0_endTest 80 = .ok (.aload_n 1, 1) := by decide +kernel
theorem dX0_endTest_81 : decode cX0_endTest 81 = .ok (.invokevirtual 153, 3) := by decide +kernel
theorem dX0_endTest_84 : decode cX0_endTest 84 = .ok (.aload_n 1, 1) := by decide +kernel
theorem dX0_endTest_85 : decode cX0_endTest 85 = .ok (.aload_n 1, 1) := by decide +kernel
theorem dX0_endTest_86 : decode cX0_endTest 86 = .ok (.getfield 157, 3) := by decide +kernel
theorem dX0_endTest_89 : decode cX0_endTest 89 = .ok (.dconst 1, 1) := by decide +kernel
theorem dX0_endTest_90 : decode cX0_endTest 90 = .ok (.aload_n 1, 1) := by decide +kernel
theorem dX0_endTest_91 : decode cX0_endTest 91 = .ok (.getfield 160, 3) := by decide +kernel
theorem dX0_endTest_94 : decode cX0_endTest 94 = .ok (.i2d, 1) := by decide +kernel
theorem dX0_endTest_95 : decode cX0_endTest 95 = .ok (.ldc2_w 163, 3) := by decide +kernel
theorem dX0_endTest_98 : decode cX0_endTest 98 = .ok (.ddiv, 1) := by decide +kernel
theorem dX0_endTest_99 : decode cX0_endTest 99 = .ok (.dsub, 1) := by decide +kernel
theorem dX0_endTest_100 : decode cX0_endTest 100 = .ok (.dmul, 1) := by decide +kernel
theorem dX0_endTest_101 : decode cX0_endTest 101 = .ok (.putfield 157, 3) := by decide +kernel
theorem dX0_endTest_104 : decode cX0_endTest 104 = .ok (.iconst 1, 1) := by decide +kernel
theorem dX0_endTest_105 : decode cX0_endTest 105 = .ok (.ireturn, 1) := by decide +kernel
abbrev rmX0_endTest : Room := { frames := 2, cells := 0, slots := 0, locals := 49 }
def w_X0_endTest (n : Nat) (M : Mem) (t : Nat) (p1 : Nat) (K : Int32 → Mem → Prop) : Prop := ((p1 ≤ n ∧ kd p1 = (1, 0)) ∧ ((t ≤ n ∧ kd t = (0, 0)) ∧ w_X0_partAt n M t (gI M p1 6) (fun r4 M3 => ((¬ r4 = 0 → (vf_n64 (FP.dsub (gD M3 p1 7) (gD M3 p1 8)) ∧ (∀ z5, z5 = FP.dsub (gD M3 p1 7) (gD M3 p1 8) → w_X0_valueOf n M3 t z5 r4 p1 (fun z7 M6 => ((r4 ≤ n ∧ kd r4 = (2, 0)) ∧ (∀ M9, M9 = sD M6 r4 9 z7 → (∀ M10, M10 = sI M9 r4 8 (gI M9 p1 0) → (∀ M11, M11 = sI M10 r4 6 ((gI M10 r4 6) + (1 : Int32)) → (∀ M12, M12 = sI M11 p1 10 ((gI M11 p1 10) + (1 : Int32)) → (∀ M13, M13 = sI M12 p1 5 ((gI M12 p1 5) + (1 : Int32)) → (∀ M14, M14 = sI M13 p1 6 (-5 : Int32) → w_X0_judge n M14 t r4 p1 (fun M15 => (vf_n64 (FP.ddiv (FP.i2d (gI M15 p1 3)) (4696837146684686336 : UInt64)) ∧ (∀ z16, z16 = FP.ddiv (FP.i2d (gI M15 p1 3)) (4696837146684686336 : UInt64) → (vf_n64 (FP.dsub FP.dconst1 z16) ∧ (∀ z17, z17 = FP.dsub FP.dconst1 z16 → (vf_n64 (FP.dmul (gD M15 p1 1) z17) ∧ (∀ z18, z18 = FP.dmul (gD M15 p1 1) z17 → (∀ M19, M19 = sD M15 p1 1 z18 → K (1 : Int32) M19))))))))))))))))))) ∧ (r4 = 0 → K (0 : Int32) M3)))))
set_option maxHeartbeats 4000000 in
set_option maxRecDepth 20000 in
theorem c_X0_endTest (l : Launch) (E : Gl) (n : Nat) (M : Mem) (t : Nat) (p1 : Nat) (K : Int32 → Mem → Prop) (hw : w_X0_endTest n M t p1 K) : CT E l yX0_endTest cX0_endTest 3 (some .boolean) rmX0_endTest n M [rV t, rV p1] (PI E n K) := by
  refine g_met l (by decide) (Nat.le_of_ble_eq_true rfl) ?_
  intro p e s m args below meth c X hr hlk hnm hSz hOld
  change CX E p s m c _ _ RX0 at X
  unfold w_X0_endTest at hw
  refine g_aload_n X dX0_endTest_0 0 rfl ?_
  refine g_aload_n X dX0_endTest_1 1 rfl ?_
  obtain ⟨hk1, hw⟩ := hw
  refine g_get X (iV (gI M p1 6)) dX0_endTest_2 fl_X0_102 (fun _ => rfl) ⟨hk1, hw⟩ (fun hw => ?_)
  obtain ⟨hk2, hw⟩ := hw
  refine g_callr (pc' := 8) (rest := []) rfl (fun H locs ls d qR qL => g_runV X cw_X0_105 iv_X0_partAt ⟨Nat.le_of_ble_eq_true rfl, Nat.le_of_ble_eq_true rfl⟩ dX0_endTest_5 (c_X0_partAt l E n M t (gI M p1 6) _ hw) hk2 rfl rfl (Nat.le_of_ble_eq_true rfl) ⟨Nat.le_of_ble_eq_true rfl, Nat.le_of_ble_eq_true rfl⟩ qR qL) (fun r4 M3 hw => ?_)
  refine g_astore_n (lv' := [(2, rV r4), (0, rV t), (1, rV p1)]) X dX0_endTest_8 (by decide) rfl ?_
  refine g_aload_n X dX0_endTest_9 0 rfl ?_
  refine g_ifnonnull X 15 dX0_endTest_10 (by decide) hw (fun hw => ?_) (fun hw => ?_)
  · refine g_aload_n X dX0_endTest_15 0 rfl ?_
    refine g_aload_n X dX0_endTest_16 1 rfl ?_
    refine g_aload_n X dX0_endTest_17 2 rfl ?_
    refine g_get X (dV (gD M3 p1 7)) dX0_endTest_18 fl_X0_129 (fun _ => rfl) ⟨hk1, hw⟩ (fun hw => ?_)
    refine g_aload_n X dX0_endTest_21 2 rfl ?_
    refine g_get X (dV (gD M3 p1 8)) dX0_endTest_22 fl_X0_133 (fun _ => rfl) ⟨hk1, hw⟩ (fun hw => ?_)
    refine g_dsub X dX0_endTest_25 hw (fun hw => ?_)
    refine g_topD (fun z5 hz5 => ?_)
    have hw := hw z5 hz5
    refine g_aload_n X dX0_endTest_26 0 rfl ?_
    refine g_aload_n X dX0_endTest_27 2 rfl ?_
    refine g_calld (pc' := 31) (rest := [rV r4]) rfl (fun H locs ls d qR qL => g_runV X cw_X0_136 iv_X0_valueOf ⟨Nat.le_of_ble_eq_true rfl, Nat.le_of_ble_eq_true rfl⟩ dX0_endTest_28 (c_X0_valueOf l E n M3 t z5 r4 p1 _ hw) hk2 rfl rfl (Nat.le_of_ble_eq_true rfl) ⟨Nat.le_of_ble_eq_true rfl, Nat.le_of_ble_eq_true rfl⟩ qR qL) (fun z7 M6 hw => ?_)
    obtain ⟨hk8, hw⟩ := hw
    refine g_putD X dX0_endTest_31 fl_X0_140 rfl (Or.inl rfl) ⟨hk8, hw⟩ (fun hw => ?_)
    refine g_topM (fun M9 hM9 => ?_)
    have hw := hw M9 hM9
    refine g_aload_n X dX0_endTest_34 0 rfl ?_
    refine g_aload_n X dX0_endTest_35 2 rfl ?_
    refine g_get X (iV (gI M9 p1 0)) dX0_endTest_36 fl_X0_126 (fun _ => rfl) ⟨hk1, hw⟩ (fun hw => ?_)
    refine g_putI X dX0_endTest_39 fl_X0_143 rfl (Or.inl rfl) ⟨hk8, hw⟩ (fun hw => ?_)
    refine g_topM (fun M10 hM10 => ?_)
    have hw := hw M10 hM10
    refine g_aload_n X dX0_endTest_42 0 rfl ?_
    refine g_dup X dX0_endTest_43 rfl ?_
    refine g_get X (iV (gI M10 r4 6)) dX0_endTest_44 fl_X0_146 (fun _ => rfl) ⟨hk8, hw⟩ (fun hw => ?_)
    refine g_iconst X (1 : Int32) dX0_endTest_47 (by decide) ?_
    refine g_iadd X dX0_endTest_48 ?_
    refine g_putI X dX0_endTest_49 fl_X0_146 rfl (Or.inl rfl) ⟨hk8, hw⟩ (fun hw => ?_)
    refine g_topM (fun M11 hM11 => ?_)
    have hw := hw M11 hM11
    refine g_aload_n X dX0_endTest_52 2 rfl ?_
    refine g_dup X dX0_endTest_53 rfl ?_
    refine g_get X (iV (gI M11 p1 10)) dX0_endTest_54 fl_X0_149 (fun _ => rfl) ⟨hk1, hw⟩ (fun hw => ?_)
    refine g_iconst X (1 : Int32) dX0_endTest_57 (by decide) ?_
    refine g_iadd X dX0_endTest_58 ?_
    refine g_putI X dX0_endTest_59 fl_X0_149 rfl (Or.inl rfl) ⟨hk1, hw⟩ (fun hw => ?_)
    refine g_topM (fun M12 hM12 => ?_)
    have hw := hw M12 hM12
    refine g_aload_n X dX0_endTest_62 2 rfl ?_
    refine g_dup X dX0_endTest_63 rfl ?_
    refine g_get X (iV (gI M12 p1 5)) dX0_endTest_64 fl_X0_150 (fun _ => rfl) ⟨hk1, hw⟩ (fun hw => ?_)
    refine g_iconst X (1 : Int32) dX0_endTest_67 (by decide) ?_
    refine g_iadd X dX0_endTest_68 ?_
    refine g_putI X dX0_endTest_69 fl_X0_150 rfl (Or.inl rfl) ⟨hk1, hw⟩ (fun hw => ?_)
    refine g_topM (fun M13 hM13 => ?_)
    have hw := hw M13 hM13
    refine g_aload_n X dX0_endTest_72 2 rfl ?_
    refine g_bipush X (-5 : Int32) dX0_endTest_73 (by decide) ?_
    refine g_putI X dX0_endTest_75 fl_X0_102 rfl (Or.inl rfl) ⟨hk1, hw⟩ (fun hw => ?_)
    refine g_topM (fun M14 hM14 => ?_)
    have hw := hw M14 hM14
    refine g_aload_n X dX0_endTest_78 1 rfl ?_
    refine g_aload_n X dX0_endTest_79 0 rfl ?_
    refine g_aload_n X dX0_endTest_80 2 rfl ?_
    refine g_callv (pc' := 84) (rest := []) rfl (fun H locs ls d qR qL => g_runV X cw_X0_153 iv_X0_judge ⟨Nat.le_of_ble_eq_true rfl, Nat.le_of_ble_eq_true rfl⟩ dX0_endTest_81 (c_X0_judge l E n M14 t r4 p1 _ hw) hk2 rfl rfl (Nat.le_of_ble_eq_true rfl) ⟨Nat.le_of_ble_eq_true rfl, Nat.le_of_ble_eq_true rfl⟩ qR qL) (fun M15 hw => ?_)
    refine g_aload_n X dX0_endTest_84 2 rfl ?_
    refine g_aload_n X dX0_endTest_85 2 rfl ?_
    refine g_get X (dV (gD M15 p1 1)) dX0_endTest_86 fl_X0_157 (fun _ => rfl) ⟨hk1, hw⟩ (fun hw => ?_)
    refine g_dconst1 X dX0_endTest_89 ?_
    refine g_aload_n X dX0_endTest_90 2 rfl ?_
    refine g_get X (iV (gI M15 p1 3)) dX0_endTest_91 fl_X0_160 (fun _ => rfl) ⟨hk1, hw⟩ (fun hw => ?_)
    refine g_i2d X dX0_endTest_94 ?_
    refine g_ldcD X (4696837146684686336 : UInt64) dX0_endTest_95 wk_X0_163 ?_
    refine g_ddiv X dX0_endTest_98 hw (fun hw => ?_)
    refine g_topD (fun z16 hz16 => ?_)
    have hw := hw z16 hz16
    refine g_dsub X dX0_endTest_99 hw (fun hw => ?_)
    refine g_topD (fun z17 hz17 => ?_)
    have hw := hw z17 hz17
    refine g_dmul X dX0_endTest_100 hw (fun hw => ?_)
    refine g_topD (fun z18 hz18 => ?_)
    have hw := hw z18 hz18
    refine g_putD X dX0_endTest_101 fl_X0_157 rfl (Or.inl rfl) ⟨hk1, hw⟩ (fun hw => ?_)
    refine g_topM (fun M19 hM19 => ?_)
    have hw := hw M19 hM19
    refine g_iconst X (1 : Int32) dX0_endTest_104 (by decide) ?_
    exact g_zret X hr hlk hSz hOld (Nat.le_refl _) dX0_endTest_105 ⟨rfl, hw⟩
  · refine g_iconst X (0 : Int32) dX0_endTest_13 (by decide) ?_
    exact g_zret X hr hlk hSz hOld (Nat.le_refl _) dX0_endTest_14 ⟨rfl, hw⟩
theorem dX0_leakAwayFrom_0 : decode cX0_leakAwayFrom 0 = .ok (.aload_n 0, 1) := by decide +kernel
theorem dX0_leakAwayFrom_1 : decode cX0_leakAwayFrom 1 = .ok (.getfield 44, 3) := by decide +kernel
theorem dX0_leakAwayFrom_4 : decode cX0_leakAwayFrom 4 = .ok (.astore_n 2, 1) := by decide +kernel
theorem dX0_leakAwayFrom_5 : decode cX0_leakAwayFrom 5 = .ok (.aload_n 2, 1) := by decide +kernel
theorem dX0_leakAwayFrom_6 : decode cX0_leakAwayFrom 6 = .ok (.arraylength, 1) := by decide +kernel
theorem dX0_leakAwayFrom_7 : decode cX0_leakAwayFrom 7 = .ok (.istore_n 3, 1) := by decide +kernel
theorem dX0_leakAwayFrom_8 : decode cX0_leakAwayFrom 8 = .ok (.iconst 0, 1) := by decide +kernel
theorem dX0_leakAwayFrom_9 : decode cX0_leakAwayFrom 9 = .ok (.istore 4, 2) := by decide +kernel
theorem dX0_leakAwayFrom_11 : decode cX0_leakAwayFrom 11 = .ok (.iload 4, 2) := by decide +kernel
theorem dX0_leakAwayFrom_13 : decode cX0_leakAwayFrom 13 = .ok (.iload_n 3, 1) := by decide +kernel
theorem dX0_leakAwayFrom_14 : decode cX0_leakAwayFrom 14 = .ok (.if_icmp .ge 72, 3) := by decide +kernel
theorem dX0_leakAwayFrom_17 : decode cX0_leakAwayFrom 17 = .ok (.aload_n 2, 1) := by decide +kernel
theorem dX0_leakAwayFrom_18 : decode cX0_leakAwayFrom 18 = .ok (.iload 4, 2) := by decide +kernel
theorem dX0_leakAwayFrom_20 : decode cX0_leakAwayFrom 20 = .ok (.aaload, 1) := by decide +kernel
theorem dX0_leakAwayFrom_21 : decode cX0_leakAwayFrom 21 = .ok (.astore 5, 2) := by decide +kernel
theorem dX0_leakAwayFrom_23 : decode cX0_leakAwayFrom 23 = .ok (.aload_n 0, 1) := by decide +kernel
theorem dX0_leakAwayFrom_24 : decode cX0_leakAwayFrom 24 = .ok (.aload 5, 2) := by decide +kernel
theorem dX0_leakAwayFrom_26 : decode cX0_leakAwayFrom 26 = .ok (.getfield 102, 3) := by decide +kernel
theorem dX0_leakAwayFrom_29 : decode cX0_leakAwayFrom 29 = .ok (.invokevirtual 105, 3) := by decide +kernel
theorem dX0_leakAwayFrom_32 : decode cX0_leakAwayFrom 32 = .ok (.astore 6, 2) := by decide +kernel
theorem dX0_leakAwayFrom_34 : decode cX0_leakAwayFrom 34 = .ok (.aload 5, 2) := by decide +kernel
theorem dX0_leakAwayFrom_36 : decode cX0_leakAwayFrom 36 = .ok (.aload_n 1, 1) := by decide +kernel
theorem dX0_leakAwayFrom_37 : decode cX0_leakAwayFrom 37 = .ok (.if_acmp .eq 43, 3) := by decide +kernel
theorem dX0_leakAwayFrom_40 : decode cX0_leakAwayFrom 40 = .ok (.aload 6, 2) := by decide +kernel
theorem dX0_leakAwayFrom_42 : decode cX0_leakAwayFrom 42 = .ok (.ifnull 38, 3) := by decide +kernel
theorem dX0_leakAwayFrom_45 : decode cX0_leakAwayFrom 45 = .ok (.aload 5, 2) := by decide +kernel
theorem dX0_leakAwayFrom_47 : decode cX0_leakAwayFrom 47 = .ok (.aload 5, 2) := by decide +kernel
theorem dX0_leakAwayFrom_49 : decode cX0_leakAwayFrom 49 = .ok (.getfield 133, 3) := by decide +kernel
theorem dX0_leakAwayFrom_52 : decode cX0_leakAwayFrom 52 = .ok (.aload 6, 2) := by decide +kernel
theorem dX0_leakAwayFrom_54 : decode cX0_leakAwayFrom 54 = .ok (.getfield 194, 3) := by decide +kernel
theorem dX0_leakAwayFrom_57 : decode cX0_leakAwayFrom 57 = .ok (.aload 6, 2) := by decide +kernel
theorem dX0_leakAwayFrom_59 : decode cX0_leakAwayFrom 59 = .ok (.getfield 197, 3) := by decide +kernel
theorem dX0_leakAwayFrom_62 : decode cX0_leakAwayFrom 62 = .ok (.iconst 1, 1) := by decide +kernel
theorem dX0_leakAwayFrom_63 : decode cX0_leakAwayFrom 63 = .ok (.invokestatic 200, 3) := by decide +kernel
theorem dX0_leakAwayFrom_66 : decode cX0_leakAwayFrom 66 = .ok (.putfield 133, 3) := by decide +kernel
theorem dX0_leakAwayFrom_69 : decode cX0_leakAwayFrom 69 = .ok (.aload 5, 2) := by decide +kernel
theorem dX0_leakAwayFrom_71 : decode cX0_leakAwayFrom 71 = .ok (.dup, 1) := by decide +kernel
theorem dX0_leakAwayFrom_72 : decode cX0_leakAwayFrom 72 = .ok (.getfield 204, 3) := by decide +kernel
theorem dX0_leakAwayFrom_75 : decode cX0_leakAwayFrom 75 = .ok (.iconst 1, 1) := by decide +kernel
theorem dX0_leakAwayFrom_76 : decode cX0_leakAwayFrom 76 = .ok (.iadd, 1) := by decide +kernel
theorem dX0_leakAwayFrom_77 : decode cX0_leakAwayFrom 77 = .ok (.putfield 204, 3) := by decide +kernel
theorem dX0_leakAwayFrom_80 : decode cX0_leakAwayFrom 80 = .ok (.iinc 4 1, 3) := by decide +kernel
theorem dX0_leakAwayFrom_83 : decode cX0_leakAwayFrom 83 = .ok (.goto (-72), 3) := by decide +kernel
theorem dX0_leakAwayFrom_86 : decode cX0_leakAwayFrom 86 = .ok (.return_, 1) := by decide +kernel
abbrev rmX0_leakAwayFrom : Room := { frames := 1, cells := 0, slots := 0, locals := 29 }
def w_X0_leakAwayFrom_L11 (n : Nat) (K : Mem → Prop) : Nat → Mem → Nat → Nat → Nat → Int32 → Int32 → Prop
  | 0, _, _, _, _, _, _ => False
  | fuel + 1, M, o0, o1, o2, a3, a4 => ((a3 ≤ a4 → K M) ∧ (¬ a3 ≤ a4 → ((o2 ≤ n ∧ (10 ≤ (kd o2).1 ∧ (kd o2).1 < 13) ∧ vp_in a4 (kd o2).2) ∧ (∀ r4, r4 = gR M o2 (Int32.toNatClampNeg a4) → ((r4 ≤ n ∧ kd r4 = (1, 0)) ∧ ((o0 ≤ n ∧ kd o0 = (0, 0)) ∧ w_X0_partAt n M o0 (gI M r4 6) (fun r8 M7 => ((r4 = o1 → (∀ x9, x9 = a4 + (1 : Int32) → w_X0_leakAwayFrom_L11 n K fuel M7 o0 o1 o2 a3 x9)) ∧ (¬ r4 = o1 → ((r8 = 0 → (∀ x10, x10 = a4 + (1 : Int32) → w_X0_leakAwayFrom_L11 n K fuel M7 o0 o1 o2 a3 x10)) ∧ (¬ r8 = 0 → ((r8 ≤ n ∧ kd r8 = (2, 0)) ∧ w_X5_decayed n M7 (gD M7 r4 8) (gI M7 r8 2) (gI M7 r8 3) (1 : Int32) (fun z13 M12 => (∀ M14, M14 = sD M12 r4 8 z13 → (∀ M15, M15 = sI M14 r4 9 ((gI M14 r4 9) + (1 : Int32)) → (∀ x16, x16 = a4 + (1 : Int32) → w_X0_leakAwayFrom_L11 n K fuel M15 o0 o1 o2 a3 x16))))))))))))))))
def w_X0_leakAwayFrom (n : Nat) (M : Mem) (t : Nat) (p1 : Nat) (K : Mem → Prop) : Prop := ((t ≤ n ∧ kd t = (0, 0)) ∧ (∀ r2, r2 = gR M t 3 → ((r2 ≤ n ∧ 7 ≤ (kd r2).1 ∧ (kd r2).1 < 13) ∧ (∀ x3, x3 = nI (kd r2).2 → w_X0_leakAwayFrom_L11 n K 4000 M t p1 r2 x3 (0 : Int32)))))
set_option maxHeartbeats 4000000 in
set_option maxRecDepth 20000 in
theorem c_X0_leakAwayFrom (l : Launch) (E : Gl) (n : Nat) (M : Mem) (t : Nat) (p1 : Nat) (K : Mem → Prop) (hw : w_X0_leakAwayFrom n M t p1 K) : CT E l yX0_leakAwayFrom cX0_leakAwayFrom 7 none rmX0_leakAwayFrom n M [rV t, rV p1] (PV E n K) := by
  refine g_met l (by decide) (Nat.le_of_ble_eq_true rfl) ?_
  intro p e s m args below meth c X hr hlk hnm hSz hOld
  change CX E p s m c _ _ RX0 at X
  have L11 : ∀ (fuel11 : Nat) (M : Mem) (o0 : Nat) (o1 : Nat) (o2 : Nat) (a3 : Int32) (a4 : Int32), w_X0_leakAwayFrom_L11 n K fuel11 M o0 o1 o2 a3 a4 → G E p l e rmX0_leakAwayFrom s m args below meth c 7 n M 0 0 (MQD lw_cs below (PV E n K) args s rmX0_leakAwayFrom.cells rmX0_leakAwayFrom.slots (Ab E)) 11 [(0, rV o0), (1, rV o1), (2, rV o2), (3, iV a3), (4, iV a4)] [] := by
    intro fuel11
    induction fuel11 with
    | zero => intro M o0 o1 o2 a3 a4 hw; exact False.elim hw
    | succ fuel11 ih11 =>
      intro M o0 o1 o2 a3 a4 hw
      unfold w_X0_leakAwayFrom_L11 at hw
      refine g_iload X dX0_leakAwayFrom_11 4 rfl ?_
      refine g_iload_n X dX0_leakAwayFrom_13 3 rfl ?_
      refine g_icmp_ge X 86 dX0_leakAwayFrom_14 (by decide) hw (fun hw => ?_) (fun hw => ?_)
      · exact g_vret X hr hlk hSz hOld (Nat.le_refl _) dX0_leakAwayFrom_86 hw
      · refine g_aload_n X dX0_leakAwayFrom_17 2 rfl ?_
        refine g_iload X dX0_leakAwayFrom_18 4 rfl ?_
        refine g_aald X dX0_leakAwayFrom_20 hw (fun hw => ?_)
        refine g_topR (fun r4 hr4 => ?_)
        have hw := hw r4 hr4
        refine g_astore (lv' := [(5, rV r4), (0, rV o0), (1, rV o1), (2, rV o2), (3, iV a3), (4, iV a4)]) X dX0_leakAwayFrom_21 (by decide) rfl ?_
        refine g_aload_n X dX0_leakAwayFrom_23 1 rfl ?_
        refine g_aload X dX0_leakAwayFrom_24 0 rfl ?_
        obtain ⟨hk5, hw⟩ := hw
        refine g_get X (iV (gI M r4 6)) dX0_leakAwayFrom_26 fl_X0_102 (fun _ => rfl) ⟨hk5, hw⟩ (fun hw => ?_)
        obtain ⟨hk6, hw⟩ := hw
        refine g_callr (pc' := 32) (rest := []) rfl (fun H locs ls d qR qL => g_runV X cw_X0_105 iv_X0_partAt ⟨Nat.le_of_ble_eq_true rfl, Nat.le_of_ble_eq_true rfl⟩ dX0_leakAwayFrom_29 (c_X0_partAt l E n M o0 (gI M r4 6) _ hw) hk6 rfl rfl (Nat.le_of_ble_eq_true rfl) ⟨Nat.le_of_ble_eq_true rfl, Nat.le_of_ble_eq_true rfl⟩ qR qL) (fun r8 M7 hw => ?_)
        refine g_astore (lv' := [(6, rV r8), (5, rV r4), (0, rV o0), (1, rV o1), (2, rV o2), (3, iV a3), (4, iV a4)]) X dX0_leakAwayFrom_32 (by decide) rfl ?_
        refine g_aload X dX0_leakAwayFrom_34 1 rfl ?_
        refine g_aload_n X dX0_leakAwayFrom_36 3 rfl ?_
        refine g_acmp_eq X 80 dX0_leakAwayFrom_37 (by decide) hw (fun hw => ?_) (fun hw => ?_)
        · obtain ⟨x9, hx9⟩ : ∃ y : Int32, y = a4 + (1 : Int32) := ⟨_, rfl⟩
          have hw := hw x9 hx9
          refine g_iinc (lv' := [(4, iV x9), (6, rV r8), (5, rV r4), (0, rV o0), (1, rV o1), (2, rV o2), (3, iV a3)]) X x9 dX0_leakAwayFrom_80 6 rfl (by rw [hx9]; rfl) (by decide) rfl ?_
          refine g_goto X 11 dX0_leakAwayFrom_83 (by decide) ?_
          refine g_lvsub (lv' := [(0, rV o0), (1, rV o1), (2, rV o2), (3, iV a3), (4, iV x9)]) [3, 4, 5, 6, 0] rfl ?_
          exact ih11 _ _ _ _ _ _ hw
        · refine g_aload X dX0_leakAwayFrom_40 0 rfl ?_
          refine g_ifnull X 80 dX0_leakAwayFrom_42 (by decide) hw (fun hw => ?_) (fun hw => ?_)
          · obtain ⟨x10, hx10⟩ : ∃ y : Int32, y = a4 + (1 : Int32) := ⟨_, rfl⟩
            have hw := hw x10 hx10
            refine g_iinc (lv' := [(4, iV x10), (6, rV r8), (5, rV r4), (0, rV o0), (1, rV o1), (2, rV o2), (3, iV a3)]) X x10 dX0_leakAwayFrom_80 6 rfl (by rw [hx10]; rfl) (by decide) rfl ?_
            refine g_goto X 11 dX0_leakAwayFrom_83 (by decide) ?_
            refine g_lvsub (lv' := [(0, rV o0), (1, rV o1), (2, rV o2), (3, iV a3), (4, iV x10)]) [3, 4, 5, 6, 0] rfl ?_
            exact ih11 _ _ _ _ _ _ hw
          · refine g_aload X dX0_leakAwayFrom_45 1 rfl ?_
            refine g_aload X dX0_leakAwayFrom_47 1 rfl ?_
            refine g_get X (dV (gD M7 r4 8)) dX0_leakAwayFrom_49 fl_X0_133 (fun _ => rfl) ⟨hk5, hw⟩ (fun hw => ?_)
            refine g_aload X dX0_leakAwayFrom_52 0 rfl ?_
            obtain ⟨hk11, hw⟩ := hw
            refine g_get X (iV (gI M7 r8 2)) dX0_leakAwayFrom_54 fl_X0_194 (fun _ => rfl) ⟨hk11, hw⟩ (fun hw => ?_)
            refine g_aload X dX0_leakAwayFrom_57 0 rfl ?_
            refine g_get X (iV (gI M7 r8 3)) dX0_leakAwayFrom_59 fl_X0_197 (fun _ => rfl) ⟨hk11, hw⟩ (fun hw => ?_)
            refine g_iconst X (1 : Int32) dX0_leakAwayFrom_62 (by decide) ?_
            refine g_calld (pc' := 66) (rest := [rV r4]) rfl (fun H locs ls d qR qL => g_runN X cn_X5_decayed (fun k => k.2.2.2.1) ⟨Nat.le_of_ble_eq_true rfl, Nat.le_of_ble_eq_true rfl⟩ dX0_leakAwayFrom_63 (c_X5_decayed l E n M7 (gD M7 r4 8) (gI M7 r8 2) (gI M7 r8 3) (1 : Int32) _ hw) rfl rfl (Nat.le_of_ble_eq_true rfl) ⟨Nat.le_of_ble_eq_true rfl, Nat.le_of_ble_eq_true rfl⟩ qR qL) (fun z13 M12 hw => ?_)
            refine g_putD X dX0_leakAwayFrom_66 fl_X0_133 rfl (Or.inl rfl) ⟨hk5, hw⟩ (fun hw => ?_)
            refine g_topM (fun M14 hM14 => ?_)
            have hw := hw M14 hM14
            refine g_aload X dX0_leakAwayFrom_69 1 rfl ?_
            refine g_dup X dX0_leakAwayFrom_71 rfl ?_
            refine g_get X (iV (gI M14 r4 9)) dX0_leakAwayFrom_72 fl_X0_204 (fun _ => rfl) ⟨hk5, hw⟩ (fun hw => ?_)
            refine g_iconst X (1 : Int32) dX0_leakAwayFrom_75 (by decide) ?_
            refine g_iadd X dX0_leakAwayFrom_76 ?_
            refine g_putI X dX0_leakAwayFrom_77 fl_X0_204 rfl (Or.inl rfl) ⟨hk5, hw⟩ (fun hw => ?_)
            refine g_topM (fun M15 hM15 => ?_)
            have hw := hw M15 hM15
            obtain ⟨x16, hx16⟩ : ∃ y : Int32, y = a4 + (1 : Int32) := ⟨_, rfl⟩
            have hw := hw x16 hx16
            refine g_iinc (lv' := [(4, iV x16), (6, rV r8), (5, rV r4), (0, rV o0), (1, rV o1), (2, rV o2), (3, iV a3)]) X x16 dX0_leakAwayFrom_80 6 rfl (by rw [hx16]; rfl) (by decide) rfl ?_
            refine g_goto X 11 dX0_leakAwayFrom_83 (by decide) ?_
            refine g_lvsub (lv' := [(0, rV o0), (1, rV o1), (2, rV o2), (3, iV a3), (4, iV x16)]) [3, 4, 5, 6, 0] rfl ?_
            exact ih11 _ _ _ _ _ _ hw
  unfold w_X0_leakAwayFrom at hw
  refine g_aload_n X dX0_leakAwayFrom_0 0 rfl ?_
  obtain ⟨hk1, hw⟩ := hw
  refine g_get X (rV (gR M t 3)) dX0_leakAwayFrom_1 fl_X0_44 (fun _ => rfl) ⟨hk1, hw⟩ (fun hw => ?_)
  refine g_topR (fun r2 hr2 => ?_)
  have hw := hw r2 hr2
  refine g_astore_n (lv' := [(2, rV r2), (0, rV t), (1, rV p1)]) X dX0_leakAwayFrom_4 (by decide) rfl ?_
  refine g_aload_n X dX0_leakAwayFrom_5 0 rfl ?_
  refine g_alen X dX0_leakAwayFrom_6 hw (fun hw => ?_)
  refine g_topI (fun x3 hx3 => ?_)
  have hw := hw x3 hx3
  refine g_istore_n (lv' := [(3, iV x3), (2, rV r2), (0, rV t), (1, rV p1)]) X dX0_leakAwayFrom_7 (by decide) rfl ?_
  refine g_iconst X (0 : Int32) dX0_leakAwayFrom_8 (by decide) ?_
  refine g_istore (lv' := [(4, iV (0 : Int32)), (3, iV x3), (2, rV r2), (0, rV t), (1, rV p1)]) X dX0_leakAwayFrom_9 (by decide) rfl ?_
  refine g_lvsub (lv' := [(0, rV t), (1, rV p1), (2, rV r2), (3, iV x3), (4, iV (0 : Int32))]) [3, 4, 2, 1, 0] rfl ?_
  exact L11 _ _ _ _ _ _ _ hw
theorem dX0_load_0 : decode cX0_load 0 = .ok (.aconst_null, 1) := by decide +kernel
theorem dX0_load_1 : decode cX0_load 1 = .ok (.astore_n 2, 1) := by decide +kernel
theorem dX0_load_2 : decode cX0_load 2 = .ok (.aload_n 0, 1) := by decide +kernel
theorem dX0_load_3 : decode cX0_load 3 = .ok (.getfield 53, 3) := by decide +kernel
theorem dX0_load_6 : decode cX0_load 6 = .ok (.astore_n 3, 1) := by decide +kernel
theorem dX0_load_7 : decode cX0_load 7 = .ok (.aload_n 3, 1) := by decide +kernel
theorem dX0_load_8 : decode cX0_load 8 = .ok (.arraylength, 1) := by decide +kernel
theorem dX0_load_9 : decode cX0_load 9 = .ok (.istore 4, 2) := by decide +kernel
theorem dX0_load_11 : decode cX0_load 11 = .ok (.iconst 0, 1) := by decide +kernel
theorem dX0_load_12 : decode cX0_load 12 = .ok (.istore 5, 2) := by decide +kernel
theorem dX0_load_14 : decode cX0_load 14 = .ok (.iload 5, 2) := by decide +kernel
theorem dX0_load_16 : decode cX0_load 16 = .ok (.iload 4, 2) := by decide +kernel
theorem dX0_load_18 : decode cX0_load 18 = .ok (.if_icmp .ge 75, 3) := by decide +kernel
theorem dX0_load_21 : decode cX0_load 21 = .ok (.aload_n 3, 1) := by decide +kernel
theorem dX0_load_22 : decode cX0_load 22 = .ok (.iload 5, 2) := by decide +kernel
theorem dX0_load_24 : decode cX0_load 24 = .ok (.aaload, 1) := by decide +kernel
theorem dX0_load_25 : decode cX0_load 25 = .ok (.astore 6, 2) := by decide +kernel
theorem dX0_load_27 : decode cX0_load 27 = .ok (.aload 6, 2) := by decide +kernel
theorem dX0_load_29 : decode cX0_load 29 = .ok (.getfield 93, 3) := by decide +kernel
theorem dX0_load_32 : decode cX0_load 32 = .ok (.ifCond .ne 28, 3) := by decide +kernel
theorem dX0_load_35 : decode cX0_load 35 = .ok (.aload 6, 2) := by decide +kernel
theorem dX0_load_37 : decode cX0_load 37 = .ok (.getfield 143, 3) := by decide +kernel
theorem dX0_load_40 : decode cX0_load 40 = .ok (.aload_n 1, 1) := by decide +kernel
theorem dX0_load_41 : decode cX0_load 41 = .ok (.getfield 126, 3) := by decide +kernel
theorem dX0_load_44 : decode cX0_load 44 = .ok (.if_icmp .eq 16, 3) := by decide +kernel
theorem dX0_load_47 : decode cX0_load 47 = .ok (.aload_n 1, 1) := by decide +kernel
theorem dX0_load_48 : decode cX0_load 48 = .ok (.aload 6, 2) := by decide +kernel
theorem dX0_load_50 : decode cX0_load 50 = .ok (.invokevirtual 183, 3) := by decide +kernel
theorem dX0_load_53 : decode cX0_load 53 = .ok (.ifCond .eq 7, 3) := by decide +kernel
theorem dX0_load_56 : decode cX0_load 56 = .ok (.iconst 1, 1) := by decide +kernel
theorem dX0_load_57 : decode cX0_load 57 = .ok (.goto 4, 3) := by decide +kernel
theorem dX0_load_60 : decode cX0_load 60 = .ok (.iconst 0, 1) := by decide +kernel
theorem dX0_load_61 : decode cX0_load 61 = .ok (.istore 7, 2) := by decide +kernel
theorem dX0_load_63 : decode cX0_load 63 = .ok (.iload 7, 2) := by decide +kernel
theorem dX0_load_65 : decode cX0_load 65 = .ok (.ifCond .eq 22, 3) := by decide +kernel
theorem dX0_load_68 : decode cX0_load 68 = .ok (.aload_n 2, 1) := by decide +kernel
theorem dX0_load_69 : decode cX0_load 69 = .ok (.ifnull 15, 3) := by decide +kernel
theorem dX0_load_72 : decode cX0_load 72 = .ok (.aload 6, 2) := by decide +kernel
theorem dX0_load_74 : decode cX0_load 74 = .ok (.getfield 96, 3) := by decide +kernel
theorem dX0_load_77 : decode cX0_load 77 = .ok (.aload_n 2, 1) := by decide +kernel
theorem dX0_load_78 : decode cX0_load 78 = .ok (.getfield 96, 3) := by decide +kernel
theorem dX0_load_81 : decode cX0_load 81 = .ok (.if_icmp .ge 6, 3) := by decide +kernel
theorem dX0_load_84 : decode cX0_load 84 = .ok (.aload 6, 2) := by decide +kernel
theorem dX0_load_86 : decode cX0_load 86 = .ok (.astore_n 2, 1) := by decide +kernel
theorem dX0_load_87 : decode cX0_load 87 = .ok (.iinc 5 1, 3) := by decide +kernel
theorem dX0_load_90 : decode cX0_load 90 = .ok (.goto (-76), 3) := by decide +kernel
theorem dX0_load_93 : decode cX0_load 93 = .ok (.aload_n 2, 1) := by decide +kernel
theorem dX0_load_94 : decode cX0_load 94 = .ok (.ifnull 20, 3) := by decide +kernel
theorem dX0_load_97 : decode cX0_load 97 = .ok (.aload_n 0, 1) := by decide +kernel
theorem dX0_load_98 : decode cX0_load 98 = .ok (.aload_n 2, 1) := by decide +kernel
theorem dX0_load_99 : decode cX0_load 99 = .ok (.invokevirtual 187, 3) := by decide +kernel
theorem dX0_load_102 : decode cX0_load 102 = .ok (.aload_n 1, 1) := by decide +kernel
theorem dX0_load_103 : decode cX0_load 103 = .ok (.aload_n 2, 1) := by decide +kernel
theorem dX0_load_104 : decode cX0_load 104 = .ok (.aload_n 0, 1) := by decide +kernel
theorem dX0_load_105 : decode cX0_load 105 = .ok (.getfield 20, 3) := by decide +kernel
theorem dX0_load_108 : decode cX0_load 108 = .ok (.getfield 181, 3) := by decide +kernel
theorem dX0_load_111 : decode cX0_load 111 = .ok (.invokevirtual 190, 3) := by decide +kernel
theorem dX0_load_114 : decode cX0_load 114 = .ok (.return_, 1) := by decide +kernel
abbrev rmX0_load : Room := { frames := 1, cells := 0, slots := 0, locals := 25 }
def w_X0_load_L14 (n : Nat) (K : Mem → Prop) : Nat → Mem → Nat → Nat → Nat → Nat → Int32 → Int32 → Prop
  | 0, _, _, _, _, _, _, _ => False
  | fuel + 1, M, o0, o1, o2, o3, a4, a5 => ((a4 ≤ a5 → ((o2 = 0 → K M) ∧ (¬ o2 = 0 → ((o0 ≤ n ∧ kd o0 = (0, 0)) ∧ w_X0_takeFromRow n M o0 o2 (fun M5 => (∀ r6, r6 = gR M5 o0 0 → ((r6 ≤ n ∧ kd r6 = (3, 0)) ∧ ((o1 ≤ n ∧ kd o1 = (1, 0)) ∧ w_X1_fill n M5 o1 o2 (gD M5 r6 3) (fun M9 => K M9))))))))) ∧ (¬ a4 ≤ a5 → ((o3 ≤ n ∧ (10 ≤ (kd o3).1 ∧ (kd o3).1 < 13) ∧ vp_in a5 (kd o3).2) ∧ (∀ r10, r10 = gR M o3 (Int32.toNatClampNeg a5) → ((r10 ≤ n ∧ kd r10 = (2, 0)) ∧ ((¬ (gI M r10 4) = 0 → (∀ x12, x12 = a5 + (1 : Int32) → w_X0_load_L14 n K fuel M o0 o1 o2 o3 a4 x12)) ∧ ((gI M r10 4) = 0 → ((o1 ≤ n ∧ kd o1 = (1, 0)) ∧ (((gI M r10 8) = (gI M o1 0) → (∀ x14, x14 = a5 + (1 : Int32) → w_X0_load_L14 n K fuel M o0 o1 o2 o3 a4 x14)) ∧ (¬ (gI M r10 8) = (gI M o1 0) → w_X1_takes n M o1 r10 (fun x16 M15 => ((x16 = 0 → (∀ x17, x17 = a5 + (1 : Int32) → w_X0_load_L14 n K fuel M15 o0 o1 o2 o3 a4 x17)) ∧ (¬ x16 = 0 → ((o2 = 0 → (∀ x18, x18 = a5 + (1 : Int32) → w_X0_load_L14 n K fuel M15 o0 o1 r10 o3 a4 x18)) ∧ (¬ o2 = 0 → ((o2 ≤ n ∧ kd o2 = (2, 0)) ∧ (((gI M15 o2 5) ≤ (gI M15 r10 5) → (∀ x20, x20 = a5 + (1 : Int32) → w_X0_load_L14 n K fuel M15 o0 o1 o2 o3 a4 x20)) ∧ (¬ (gI M15 o2 5) ≤ (gI M15 r10 5) → (∀ x21, x21 = a5 + (1 : Int32) → w_X0_load_L14 n K fuel M15 o0 o1 r10 o3 a4 x21)))))))))))))))))))
def w_X0_load (n : Nat) (M : Mem) (t : Nat) (p1 : Nat) (K : Mem → Prop) : Prop := ((t ≤ n ∧ kd t = (0, 0)) ∧ (∀ r2, r2 = gR M t 4 → ((r2 ≤ n ∧ 7 ≤ (kd r2).1 ∧ (kd r2).1 < 13) ∧ (∀ x3, x3 = nI (kd r2).2 → w_X0_load_L14 n K 4000 M t p1 0 r2 x3 (0 : Int32)))))
set_option maxHeartbeats 4000000 in
set_option maxRecDepth 20000 in
theorem c_X0_load (l : Launch) (E : Gl) (n : Nat) (M : Mem) (t : Nat) (p1 : Nat) (K : Mem → Prop) (hw : w_X0_load n M t p1 K) : CT E l yX0_load cX0_load 8 none rmX0_load n M [rV t, rV p1] (PV E n K) := by
  refine g_met l (by decide) (Nat.le_of_ble_eq_true rfl) ?_
  intro p e s m args below meth c X hr hlk hnm hSz hOld
  change CX E p s m c _ _ RX0 at X
  have L14 : ∀ (fuel14 : Nat) (M : Mem) (o0 : Nat) (o1 : Nat) (o2 : Nat) (o3 : Nat) (a4 : Int32) (a5 : Int32), w_X0_load_L14 n K fuel14 M o0 o1 o2 o3 a4 a5 → G E p l e rmX0_load s m args below meth c 8 n M 0 0 (MQD lw_cs below (PV E n K) args s rmX0_load.cells rmX0_load.slots (Ab E)) 14 [(0, rV o0), (1, rV o1), (2, rV o2), (3, rV o3), (4, iV a4), (5, iV a5)] [] := by
    intro fuel14
    induction fuel14 with
    | zero => intro M o0 o1 o2 o3 a4 a5 hw; exact False.elim hw
    | succ fuel14 ih14 =>
      intro M o0 o1 o2 o3 a4 a5 hw
      unfold w_X0_load_L14 at hw
      refine g_iload X dX0_load_14 5 rfl ?_
      refine g_iload X dX0_load_16 4 rfl ?_
      refine g_icmp_ge X 93 dX0_load_18 (by decide) hw (fun hw => ?_) (fun hw => ?_)
      · refine g_aload_n X dX0_load_93 2 rfl ?_
        refine g_ifnull X 114 dX0_load_94 (by decide) hw (fun hw => ?_) (fun hw => ?_)
        · exact g_vret X hr hlk hSz hOld (Nat.le_refl _) dX0_load_114 hw
        · refine g_aload_n X dX0_load_97 0 rfl ?_
          refine g_aload_n X dX0_load_98 2 rfl ?_
          obtain ⟨hk4, hw⟩ := hw
          refine g_callv (pc' := 102) (rest := []) rfl (fun H locs ls d qR qL => g_runV X cw_X0_187 iv_X0_takeFromRow ⟨Nat.le_of_ble_eq_true rfl, Nat.le_of_ble_eq_true rfl⟩ dX0_load_99 (c_X0_takeFromRow l E n M o0 o2 _ hw) hk4 rfl rfl (Nat.le_of_ble_eq_true rfl) ⟨Nat.le_of_ble_eq_true rfl, Nat.le_of_ble_eq_true rfl⟩ qR qL) (fun M5 hw => ?_)
          refine g_aload_n X dX0_load_102 1 rfl ?_
          refine g_aload_n X dX0_load_103 2 rfl ?_
          refine g_aload_n X dX0_load_104 0 rfl ?_
          refine g_get X (rV (gR M5 o0 0)) dX0_load_105 fl_X0_20 (fun _ => rfl) ⟨hk4, hw⟩ (fun hw => ?_)
          refine g_topR (fun r6 hr6 => ?_)
          have hw := hw r6 hr6
          obtain ⟨hk7, hw⟩ := hw
          refine g_get X (dV (gD M5 r6 3)) dX0_load_108 fl_X0_181 (fun _ => rfl) ⟨hk7, hw⟩ (fun hw => ?_)
          obtain ⟨hk8, hw⟩ := hw
          refine g_callv (pc' := 114) (rest := []) rfl (fun H locs ls d qR qL => g_runV X cw_X0_190 iv_X1_fill ⟨Nat.le_of_ble_eq_true rfl, Nat.le_of_ble_eq_true rfl⟩ dX0_load_111 (c_X1_fill l E n M5 o1 o2 (gD M5 r6 3) _ hw) hk8 rfl rfl (Nat.le_of_ble_eq_true rfl) ⟨Nat.le_of_ble_eq_true rfl, Nat.le_of_ble_eq_true rfl⟩ qR qL) (fun M9 hw => ?_)
          exact g_vret X hr hlk hSz hOld (Nat.le_refl _) dX0_load_114 hw
      · refine g_aload_n X dX0_load_21 3 rfl ?_
        refine g_iload X dX0_load_22 5 rfl ?_
        refine g_aald X dX0_load_24 hw (fun hw => ?_)
        refine g_topR (fun r10 hr10 => ?_)
        have hw := hw r10 hr10
        refine g_astore (lv' := [(6, rV r10), (0, rV o0), (1, rV o1), (2, rV o2), (3, rV o3), (4, iV a4), (5, iV a5)]) X dX0_load_25 (by decide) rfl ?_
        refine g_aload X dX0_load_27 0 rfl ?_
        obtain ⟨hk11, hw⟩ := hw
        refine g_get X (iV (gI M r10 4)) dX0_load_29 fl_X0_93 (fun _ => rfl) ⟨hk11, hw⟩ (fun hw => ?_)
        refine g_if_ne X 60 dX0_load_32 (by decide) hw (fun hw => ?_) (fun hw => ?_)
        · refine g_iconst X (0 : Int32) dX0_load_60 (by decide) ?_
          refine g_istore (lv' := [(7, iV (0 : Int32)), (6, rV r10), (0, rV o0), (1, rV o1), (2, rV o2), (3, rV o3), (4, iV a4), (5, iV a5)]) X dX0_load_61 (by decide) rfl ?_
          refine g_iload X dX0_load_63 0 rfl ?_
          refine g_if_eq (B := False) X 87 dX0_load_65 (by decide) ⟨fun _ => hw, fun h => absurd h (by decide)⟩ (fun hw => ?_) (fun h => h.elim)
          obtain ⟨x12, hx12⟩ : ∃ y : Int32, y = a5 + (1 : Int32) := ⟨_, rfl⟩
          have hw := hw x12 hx12
          refine g_iinc (lv' := [(5, iV x12), (7, iV (0 : Int32)), (6, rV r10), (0, rV o0), (1, rV o1), (2, rV o2), (3, rV o3), (4, iV a4)]) X x12 dX0_load_87 7 rfl (by rw [hx12]; rfl) (by decide) rfl ?_
          refine g_goto X 14 dX0_load_90 (by decide) ?_
          refine g_lvsub (lv' := [(0, rV o0), (1, rV o1), (2, rV o2), (3, rV o3), (4, iV a4), (5, iV x12)]) [3, 4, 5, 6, 7, 0] rfl ?_
          exact ih14 _ _ _ _ _ _ _ hw
        · refine g_aload X dX0_load_35 0 rfl ?_
          refine g_get X (iV (gI M r10 8)) dX0_load_37 fl_X0_143 (fun _ => rfl) ⟨hk11, hw⟩ (fun hw => ?_)
          refine g_aload_n X dX0_load_40 2 rfl ?_
          obtain ⟨hk13, hw⟩ := hw
          refine g_get X (iV (gI M o1 0)) dX0_load_41 fl_X0_126 (fun _ => rfl) ⟨hk13, hw⟩ (fun hw => ?_)
          refine g_icmp_eq X 60 dX0_load_44 (by decide) hw (fun hw => ?_) (fun hw => ?_)
          · refine g_iconst X (0 : Int32) dX0_load_60 (by decide) ?_
            refine g_istore (lv' := [(7, iV (0 : Int32)), (6, rV r10), (0, rV o0), (1, rV o1), (2, rV o2), (3, rV o3), (4, iV a4), (5, iV a5)]) X dX0_load_61 (by decide) rfl ?_
            refine g_iload X dX0_load_63 0 rfl ?_
            refine g_if_eq (B := False) X 87 dX0_load_65 (by decide) ⟨fun _ => hw, fun h => absurd h (by decide)⟩ (fun hw => ?_) (fun h => h.elim)
            obtain ⟨x14, hx14⟩ : ∃ y : Int32, y = a5 + (1 : Int32) := ⟨_, rfl⟩
            have hw := hw x14 hx14
            refine g_iinc (lv' := [(5, iV x14), (7, iV (0 : Int32)), (6, rV r10), (0, rV o0), (1, rV o1), (2, rV o2), (3, rV o3), (4, iV a4)]) X x14 dX0_load_87 7 rfl (by rw [hx14]; rfl) (by decide) rfl ?_
            refine g_goto X 14 dX0_load_90 (by decide) ?_
            refine g_lvsub (lv' := [(0, rV o0), (1, rV o1), (2, rV o2), (3, rV o3), (4, iV a4), (5, iV x14)]) [3, 4, 5, 6, 7, 0] rfl ?_
            exact ih14 _ _ _ _ _ _ _ hw
          · refine g_aload_n X dX0_load_47 2 rfl ?_
            refine g_aload X dX0_load_48 0 rfl ?_
            refine g_calli (pc' := 53) (rest := []) rfl (fun H locs ls d qR qL => g_runV X cw_X0_183 iv_X1_takes ⟨Nat.le_of_ble_eq_true rfl, Nat.le_of_ble_eq_true rfl⟩ dX0_load_50 (c_X1_takes l E n M o1 r10 _ hw) hk13 rfl rfl (Nat.le_of_ble_eq_true rfl) ⟨Nat.le_of_ble_eq_true rfl, Nat.le_of_ble_eq_true rfl⟩ qR qL) (fun x16 M15 hw => ?_)
            refine g_if_eq X 60 dX0_load_53 (by decide) hw (fun hw => ?_) (fun hw => ?_)
            · refine g_iconst X (0 : Int32) dX0_load_60 (by decide) ?_
              refine g_istore (lv' := [(7, iV (0 : Int32)), (6, rV r10), (0, rV o0), (1, rV o1), (2, rV o2), (3, rV o3), (4, iV a4), (5, iV a5)]) X dX0_load_61 (by decide) rfl ?_
              refine g_iload X dX0_load_63 0 rfl ?_
              refine g_if_eq (B := False) X 87 dX0_load_65 (by decide) ⟨fun _ => hw, fun h => absurd h (by decide)⟩ (fun hw => ?_) (fun h => h.elim)
              obtain ⟨x17, hx17⟩ : ∃ y : Int32, y = a5 + (1 : Int32) := ⟨_, rfl⟩
              have hw := hw x17 hx17
              refine g_iinc (lv' := [(5, iV x17), (7, iV (0 : Int32)), (6, rV r10), (0, rV o0), (1, rV o1), (2, rV o2), (3, rV o3), (4, iV a4)]) X x17 dX0_load_87 7 rfl (by rw [hx17]; rfl) (by decide) rfl ?_
              refine g_goto X 14 dX0_load_90 (by decide) ?_
              refine g_lvsub (lv' := [(0, rV o0), (1, rV o1), (2, rV o2), (3, rV o3), (4, iV a4), (5, iV x17)]) [3, 4, 5, 6, 7, 0] rfl ?_
              exact ih14 _ _ _ _ _ _ _ hw
            · refine g_iconst X (1 : Int32) dX0_load_56 (by decide) ?_
              refine g_goto X 61 dX0_load_57 (by decide) ?_
              refine g_istore (lv' := [(7, iV (1 : Int32)), (6, rV r10), (0, rV o0), (1, rV o1), (2, rV o2), (3, rV o3), (4, iV a4), (5, iV a5)]) X dX0_load_61 (by decide) rfl ?_
              refine g_iload X dX0_load_63 0 rfl ?_
              refine g_if_eq (A := False) X 87 dX0_load_65 (by decide) ⟨fun h => absurd h (by decide), fun _ => hw⟩ (fun h => h.elim) (fun hw => ?_)
              refine g_aload_n X dX0_load_68 4 rfl ?_
              refine g_ifnull X 84 dX0_load_69 (by decide) hw (fun hw => ?_) (fun hw => ?_)
              · refine g_aload X dX0_load_84 1 rfl ?_
                refine g_astore_n (lv' := [(2, rV r10), (7, iV (1 : Int32)), (6, rV r10), (0, rV o0), (1, rV o1), (3, rV o3), (4, iV a4), (5, iV a5)]) X dX0_load_86 (by decide) rfl ?_
                obtain ⟨x18, hx18⟩ : ∃ y : Int32, y = a5 + (1 : Int32) := ⟨_, rfl⟩
                have hw := hw x18 hx18
                refine g_iinc (lv' := [(5, iV x18), (2, rV r10), (7, iV (1 : Int32)), (6, rV r10), (0, rV o0), (1, rV o1), (3, rV o3), (4, iV a4)]) X x18 dX0_load_87 7 rfl (by rw [hx18]; rfl) (by decide) rfl ?_
                refine g_goto X 14 dX0_load_90 (by decide) ?_
                refine g_lvsub (lv' := [(0, rV o0), (1, rV o1), (2, rV r10), (3, rV o3), (4, iV a4), (5, iV x18)]) [4, 5, 1, 6, 7, 0] rfl ?_
                exact ih14 _ _ _ _ _ _ _ hw
              · refine g_aload X dX0_load_72 1 rfl ?_
                refine g_get X (iV (gI M15 r10 5)) dX0_load_74 fl_X0_96 (fun _ => rfl) ⟨hk11, hw⟩ (fun hw => ?_)
                refine g_aload_n X dX0_load_77 4 rfl ?_
                obtain ⟨hk19, hw⟩ := hw
                refine g_get X (iV (gI M15 o2 5)) dX0_load_78 fl_X0_96 (fun _ => rfl) ⟨hk19, hw⟩ (fun hw => ?_)
                refine g_icmp_ge X 87 dX0_load_81 (by decide) hw (fun hw => ?_) (fun hw => ?_)
                · obtain ⟨x20, hx20⟩ : ∃ y : Int32, y = a5 + (1 : Int32) := ⟨_, rfl⟩
                  have hw := hw x20 hx20
                  refine g_iinc (lv' := [(5, iV x20), (7, iV (1 : Int32)), (6, rV r10), (0, rV o0), (1, rV o1), (2, rV o2), (3, rV o3), (4, iV a4)]) X x20 dX0_load_87 7 rfl (by rw [hx20]; rfl) (by decide) rfl ?_
                  refine g_goto X 14 dX0_load_90 (by decide) ?_
                  refine g_lvsub (lv' := [(0, rV o0), (1, rV o1), (2, rV o2), (3, rV o3), (4, iV a4), (5, iV x20)]) [3, 4, 5, 6, 7, 0] rfl ?_
                  exact ih14 _ _ _ _ _ _ _ hw
                · refine g_aload X dX0_load_84 1 rfl ?_
                  refine g_astore_n (lv' := [(2, rV r10), (7, iV (1 : Int32)), (6, rV r10), (0, rV o0), (1, rV o1), (3, rV o3), (4, iV a4), (5, iV a5)]) X dX0_load_86 (by decide) rfl ?_
                  obtain ⟨x21, hx21⟩ : ∃ y : Int32, y = a5 + (1 : Int32) := ⟨_, rfl⟩
                  have hw := hw x21 hx21
                  refine g_iinc (lv' := [(5, iV x21), (2, rV r10), (7, iV (1 : Int32)), (6, rV r10), (0, rV o0), (1, rV o1), (3, rV o3), (4, iV a4)]) X x21 dX0_load_87 7 rfl (by rw [hx21]; rfl) (by decide) rfl ?_
                  refine g_goto X 14 dX0_load_90 (by decide) ?_
                  refine g_lvsub (lv' := [(0, rV o0), (1, rV o1), (2, rV r10), (3, rV o3), (4, iV a4), (5, iV x21)]) [4, 5, 1, 6, 7, 0] rfl ?_
                  exact ih14 _ _ _ _ _ _ _ hw
  unfold w_X0_load at hw
  refine g_null X dX0_load_0 ?_
  refine g_astore_n (lv' := [(2, rV 0), (0, rV t), (1, rV p1)]) X dX0_load_1 (by decide) rfl ?_
  refine g_aload_n X dX0_load_2 1 rfl ?_
  obtain ⟨hk1, hw⟩ := hw
  refine g_get X (rV (gR M t 4)) dX0_load_3 fl_X0_53 (fun _ => rfl) ⟨hk1, hw⟩ (fun hw => ?_)
  refine g_topR (fun r2 hr2 => ?_)
  have hw := hw r2 hr2
  refine g_astore_n (lv' := [(3, rV r2), (2, rV 0), (0, rV t), (1, rV p1)]) X dX0_load_6 (by decide) rfl ?_
  refine g_aload_n X dX0_load_7 0 rfl ?_
  refine g_alen X dX0_load_8 hw (fun hw => ?_)
  refine g_topI (fun x3 hx3 => ?_)
  have hw := hw x3 hx3
  refine g_istore (lv' := [(4, iV x3), (3, rV r2), (2, rV 0), (0, rV t), (1, rV p1)]) X dX0_load_9 (by decide) rfl ?_
  refine g_iconst X (0 : Int32) dX0_load_11 (by decide) ?_
  refine g_istore (lv' := [(5, iV (0 : Int32)), (4, iV x3), (3, rV r2), (2, rV 0), (0, rV t), (1, rV p1)]) X dX0_load_12 (by decide) rfl ?_
  refine g_lvsub (lv' := [(0, rV t), (1, rV p1), (2, rV 0), (3, rV r2), (4, iV x3), (5, iV (0 : Int32))]) [4, 5, 3, 2, 1, 0] rfl ?_
  exact L14 _ _ _ _ _ _ _ _ hw
theorem dX0_step_0 : decode cX0_step 0 = .ok (.aload_n 0, 1) := by decide +kernel
theorem dX0_step_1 : decode cX0_step 1 = .ok (.aload_n 0, 1) := by decide +kernel
theorem dX0_step_2 : decode cX0_step 2 = .ok (.getfield 67, 3) := by decide +kernel
theorem dX0_step_5 : decode cX0_step 5 = .ok (.invokevirtual 112, 3) := by decide +kernel
theorem dX0_step_8 : decode cX0_step 8 = .ok (.astore_n 1, 1) := by decide +kernel
theorem dX0_step_9 : decode cX0_step 9 = .ok (.aload_n 1, 1) := by decide +kernel
theorem dX0_step_10 : decode cX0_step 10 = .ok (.ifnonnull 5, 3) := by decide +kernel
theorem dX0_step_13 : decode cX0_step 13 = .ok (.iconst 0, 1) := by decide +kernel
theorem dX0_step_14 : decode cX0_step 14 = .ok (.ireturn, 1) := by decide +kernel
theorem dX0_step_15 : decode cX0_step 15 = .ok (.aload_n 0, 1) := by decide +kernel
theorem dX0_step_16 : decode cX0_step 16 = .ok (.aload_n 1, 1) := by decide +kernel
theorem dX0_step_17 : decode cX0_step 17 = .ok (.invokevirtual 116, 3) := by decide +kernel
theorem dX0_step_20 : decode cX0_step 20 = .ok (.istore_n 2, 1) := by decide +kernel
theorem dX0_step_21 : decode cX0_step 21 = .ok (.aload_n 0, 1) := by decide +kernel
theorem dX0_step_22 : decode cX0_step 22 = .ok (.aload_n 1, 1) := by decide +kernel
theorem dX0_step_23 : decode cX0_step 23 = .ok (.invokevirtual 120, 3) := by decide +kernel
theorem dX0_step_26 : decode cX0_step 26 = .ok (.aload_n 0, 1) := by decide +kernel
theorem dX0_step_27 : decode cX0_step 27 = .ok (.aload_n 1, 1) := by decide +kernel
theorem dX0_step_28 : decode cX0_step 28 = .ok (.invokevirtual 123, 3) := by decide +kernel
theorem dX0_step_31 : decode cX0_step 31 = .ok (.aload_n 0, 1) := by decide +kernel
theorem dX0_step_32 : decode cX0_step 32 = .ok (.dup, 1) := by decide +kernel
theorem dX0_step_33 : decode cX0_step 33 = .ok (.getfield 64, 3) := by decide +kernel
theorem dX0_step_36 : decode cX0_step 36 = .ok (.iconst 1, 1) := by decide +kernel
theorem dX0_step_37 : decode cX0_step 37 = .ok (.iadd, 1) := by decide +kernel
theorem dX0_step_38 : decode cX0_step 38 = .ok (.putfield 64, 3) := by decide +kernel
theorem dX0_step_41 : decode cX0_step 41 = .ok (.aload_n 0, 1) := by decide +kernel
theorem dX0_step_42 : decode cX0_step 42 = .ok (.aload_n 0, 1) := by decide +kernel
theorem dX0_step_43 : decode cX0_step 43 = .ok (.getfield 67, 3) := by decide +kernel
theorem dX0_step_46 : decode cX0_step 46 = .ok (.iconst 1, 1) := by decide +kernel
theorem dX0_step_47 : decode cX0_step 47 = .ok (.iadd, 1) := by decide +kernel
theorem dX0_step_48 : decode cX0_step 48 = .ok (.aload_n 0, 1) := by decide +kernel
theorem dX0_step_49 : decode cX0_step 49 = .ok (.getfield 58, 3) := by decide +kernel
theorem dX0_step_52 : decode cX0_step 52 = .ok (.if_icmp .ge 12, 3) := by decide +kernel
theorem dX0_step_55 : decode cX0_step 55 = .ok (.aload_n 0, 1) := by decide +kernel
theorem dX0_step_56 : decode cX0_step 56 = .ok (.getfield 67, 3) := by decide +kernel
theorem dX0_step_59 : decode cX0_step 59 = .ok (.iconst 1, 1) := by decide +kernel
theorem dX0_step_60 : decode cX0_step 60 = .ok (.iadd, 1) := by decide +kernel
theorem dX0_step_61 : decode cX0_step 61 = .ok (.goto 4, 3) := by decide +kernel
theorem dX0_step_64 : decode cX0_step 64 = .ok (.iconst 0, 1) := by decide +kernel
theorem dX0_step_65 : decode cX0_step 65 = .ok (.putfield 67, 3) := by decide +kernel
theorem dX0_step_68 : decode cX0_step 68 = .ok (.iload_n 2, 1) := by decide +kernel
theorem dX0_step_69 : decode cX0_step 69 = .ok (.ireturn, 1) := by decide +kernel
abbrev rmX0_step : Room := { frames := 3, cells := 0, slots := 0, locals := 71 }
def w_X0_step (n : Nat) (M : Mem) (t : Nat) (K : Int32 → Mem → Prop) : Prop := ((t ≤ n ∧ kd t = (0, 0)) ∧ w_X0_headAt n M t (gI M t 9) (fun r3 M2 => ((¬ r3 = 0 → w_X0_endTest n M2 t r3 (fun x5 M4 => w_X0_load n M4 t r3 (fun M6 => w_X0_leakAwayFrom n M6 t r3 (fun M7 => (∀ M8, M8 = sI M7 t 8 ((gI M7 t 8) + (1 : Int32)) → (((gI M8 t 6) ≤ ((gI M8 t 9) + (1 : Int32)) → (∀ M9, M9 = sI M8 t 9 (0 : Int32) → (narrow .boolean (.int x5) = .int x5 ∧ K x5 M9))) ∧ (¬ (gI M8 t 6) ≤ ((gI M8 t 9) + (1 : Int32)) → (∀ M10, M10 = sI M8 t 9 ((gI M8 t 9) + (1 : Int32)) → (narrow .boolean (.int x5) = .int x5 ∧ K x5 M10))))))))) ∧ (r3 = 0 → K (0 : Int32) M2))))
set_option maxHeartbeats 4000000 in
set_option maxRecDepth 20000 in
theorem c_X0_step (l : Launch) (E : Gl) (n : Nat) (M : Mem) (t : Nat) (K : Int32 → Mem → Prop) (hw : w_X0_step n M t K) : CT E l yX0_step cX0_step 3 (some .boolean) rmX0_step n M [rV t] (PI E n K) := by
  refine g_met l (by decide) (Nat.le_of_ble_eq_true rfl) ?_
  intro p e s m args below meth c X hr hlk hnm hSz hOld
  change CX E p s m c _ _ RX0 at X
  unfold w_X0_step at hw
  refine g_aload_n X dX0_step_0 0 rfl ?_
  refine g_aload_n X dX0_step_1 0 rfl ?_
  obtain ⟨hk1, hw⟩ := hw
  refine g_get X (iV (gI M t 9)) dX0_step_2 fl_X0_67 (fun _ => rfl) ⟨hk1, hw⟩ (fun hw => ?_)
  refine g_callr (pc' := 8) (rest := []) rfl (fun H locs ls d qR qL => g_runV X cw_X0_112 iv_X0_headAt ⟨Nat.le_of_ble_eq_true rfl, Nat.le_of_ble_eq_true rfl⟩ dX0_step_5 (c_X0_headAt l E n M t (gI M t 9) _ hw) hk1 rfl rfl (Nat.le_of_ble_eq_true rfl) ⟨Nat.le_of_ble_eq_true rfl, Nat.le_of_ble_eq_true rfl⟩ qR qL) (fun r3 M2 hw => ?_)
  refine g_astore_n (lv' := [(1, rV r3), (0, rV t)]) X dX0_step_8 (by decide) rfl ?_
  refine g_aload_n X dX0_step_9 0 rfl ?_
  refine g_ifnonnull X 15 dX0_step_10 (by decide) hw (fun hw => ?_) (fun hw => ?_)
  · refine g_aload_n X dX0_step_15 1 rfl ?_
    refine g_aload_n X dX0_step_16 0 rfl ?_
    refine g_calli (pc' := 20) (rest := []) rfl (fun H locs ls d qR qL => g_runV X cw_X0_116 iv_X0_endTest ⟨Nat.le_of_ble_eq_true rfl, Nat.le_of_ble_eq_true rfl⟩ dX0_step_17 (c_X0_endTest l E n M2 t r3 _ hw) hk1 rfl rfl (Nat.le_of_ble_eq_true rfl) ⟨Nat.le_of_ble_eq_true rfl, Nat.le_of_ble_eq_true rfl⟩ qR qL) (fun x5 M4 hw => ?_)
    refine g_istore_n (lv' := [(2, iV x5), (1, rV r3), (0, rV t)]) X dX0_step_20 (by decide) rfl ?_
    refine g_aload_n X dX0_step_21 2 rfl ?_
    refine g_aload_n X dX0_step_22 1 rfl ?_
    refine g_callv (pc' := 26) (rest := []) rfl (fun H locs ls d qR qL => g_runV X cw_X0_120 iv_X0_load ⟨Nat.le_of_ble_eq_true rfl, Nat.le_of_ble_eq_true rfl⟩ dX0_step_23 (c_X0_load l E n M4 t r3 _ hw) hk1 rfl rfl (Nat.le_of_ble_eq_true rfl) ⟨Nat.le_of_ble_eq_true rfl, Nat.le_of_ble_eq_true rfl⟩ qR qL) (fun M6 hw => ?_)
    refine g_aload_n X dX0_step_26 2 rfl ?_
    refine g_aload_n X dX0_step_27 1 rfl ?_
    refine g_callv (pc' := 31) (rest := []) rfl (fun H locs ls d qR qL => g_runV X cw_X0_123 iv_X0_leakAwayFrom ⟨Nat.le_of_ble_eq_true rfl, Nat.le_of_ble_eq_true rfl⟩ dX0_step_28 (c_X0_leakAwayFrom l E n M6 t r3 _ hw) hk1 rfl rfl (Nat.le_of_ble_eq_true rfl) ⟨Nat.le_of_ble_eq_true rfl, Nat.le_of_ble_eq_true rfl⟩ qR qL) (fun M7 hw => ?_)
    refine g_aload_n X dX0_step_31 2 rfl ?_
    refine g_dup X dX0_step_32 rfl ?_
    refine g_get X (iV (gI M7 t 8)) dX0_step_33 fl_X0_64 (fun _ => rfl) ⟨hk1, hw⟩ (fun hw => ?_)
    refine g_iconst X (1 : Int32) dX0_step_36 (by decide) ?_
    refine g_iadd X dX0_step_37 ?_
    refine g_putI X dX0_step_38 fl_X0_64 rfl (Or.inl rfl) ⟨hk1, hw⟩ (fun hw => ?_)
    refine g_topM (fun M8 hM8 => ?_)
    have hw := hw M8 hM8
    refine g_aload_n X dX0_step_41 2 rfl ?_
    refine g_aload_n X dX0_step_42 2 rfl ?_
    refine g_get X (iV (gI M8 t 9)) dX0_step_43 fl_X0_67 (fun _ => rfl) ⟨hk1, hw⟩ (fun hw => ?_)
    refine g_iconst X (1 : Int32) dX0_step_46 (by decide) ?_
    refine g_iadd X dX0_step_47 ?_
    refine g_aload_n X dX0_step_48 2 rfl ?_
    refine g_get X (iV (gI M8 t 6)) dX0_step_49 fl_X0_58 (fun _ => rfl) ⟨hk1, hw⟩ (fun hw => ?_)
    refine g_icmp_ge X 64 dX0_step_52 (by decide) hw (fun hw => ?_) (fun hw => ?_)
    · refine g_iconst X (0 : Int32) dX0_step_64 (by decide) ?_
      refine g_putI X dX0_step_65 fl_X0_67 rfl (Or.inl rfl) ⟨hk1, hw⟩ (fun hw => ?_)
      refine g_topM (fun M9 hM9 => ?_)
      have hw := hw M9 hM9
      refine g_iload_n X dX0_step_68 0 rfl ?_
      exact g_zret X hr hlk hSz hOld (Nat.le_refl _) dX0_step_69 hw
    · refine g_aload_n X dX0_step_55 2 rfl ?_
      refine g_get X (iV (gI M8 t 9)) dX0_step_56 fl_X0_67 (fun _ => rfl) ⟨hk1, hw⟩ (fun hw => ?_)
      refine g_iconst X (1 : Int32) dX0_step_59 (by decide) ?_
      refine g_iadd X dX0_step_60 ?_
      refine g_goto X 65 dX0_step_61 (by decide) ?_
      refine g_putI X dX0_step_65 fl_X0_67 rfl (Or.inl rfl) ⟨hk1, hw⟩ (fun hw => ?_)
      refine g_topM (fun M10 hM10 => ?_)
      have hw := hw M10 hM10
      refine g_iload_n X dX0_step_68 0 rfl ?_
      exact g_zret X hr hlk hSz hOld (Nat.le_refl _) dX0_step_69 hw
  · refine g_iconst X (0 : Int32) dX0_step_13 (by decide) ?_
    exact g_zret X hr hlk hSz hOld (Nat.le_refl _) dX0_step_14 ⟨rfl, hw⟩
theorem dX0_stepsUntil_0 : decode cX0_stepsUntil 0 = .ok (.aload_n 1, 1) := by decide +kernel
theorem dX0_stepsUntil_1 : decode cX0_stepsUntil 1 = .ok (.getfield 126, 3) := by decide +kernel
theorem dX0_stepsUntil_4 : decode cX0_stepsUntil 4 = .ok (.aload_n 0, 1) := by decide +kernel
theorem dX0_stepsUntil_5 : decode cX0_stepsUntil 5 = .ok (.getfield 67, 3) := by decide +kernel
theorem dX0_stepsUntil_8 : decode cX0_stepsUntil 8 = .ok (.isub, 1) := by decide +kernel
theorem dX0_stepsUntil_9 : decode cX0_stepsUntil 9 = .ok (.istore_n 2, 1) := by decide +kernel
theorem dX0_stepsUntil_10 : decode cX0_stepsUntil 10 = .ok (.iload_n 2, 1) := by decide +kernel
theorem dX0_stepsUntil_11 : decode cX0_stepsUntil 11 = .ok (.ifCond .ge 12, 3) := by decide +kernel
theorem dX0_stepsUntil_14 : decode cX0_stepsUntil 14 = .ok (.iload_n 2, 1) := by decide +kernel
theorem dX0_stepsUntil_15 : decode cX0_stepsUntil 15 = .ok (.aload_n 0, 1) := by decide +kernel
theorem dX0_stepsUntil_16 : decode cX0_stepsUntil 16 = .ok (.getfield 58, 3) := by decide +kernel
theorem dX0_stepsUntil_19 : decode cX0_stepsUntil 19 = .ok (.iadd, 1) := by decide +kernel
theorem dX0_stepsUntil_20 : decode cX0_stepsUntil 20 = .ok (.goto 4, 3) := by decide +kernel
theorem dX0_stepsUntil_23 : decode cX0_stepsUntil 23 = .ok (.iload_n 2, 1) := by decide +kernel
theorem dX0_stepsUntil_24 : decode cX0_stepsUntil 24 = .ok (.ireturn, 1) := by decide +kernel
abbrev rmX0_stepsUntil : Room := { frames := 0, cells := 0, slots := 0, locals := 0 }
def w_X0_stepsUntil (n : Nat) (M : Mem) (t : Nat) (p1 : Nat) (K : Int32 → Mem → Prop) : Prop := ((p1 ≤ n ∧ kd p1 = (1, 0)) ∧ ((t ≤ n ∧ kd t = (0, 0)) ∧ (∀ x3, x3 = (gI M p1 0) - (gI M t 9) → ((0 ≤ x3 → K x3 M) ∧ (¬ 0 ≤ x3 → K (x3 + (gI M t 6)) M)))))
set_option maxHeartbeats 4000000 in
set_option maxRecDepth 20000 in
theorem c_X0_stepsUntil (l : Launch) (E : Gl) (n : Nat) (M : Mem) (t : Nat) (p1 : Nat) (K : Int32 → Mem → Prop) (hw : w_X0_stepsUntil n M t p1 K) : CT E l yX0_stepsUntil cX0_stepsUntil 3 (some .int) rmX0_stepsUntil n M [rV t, rV p1] (PI E n K) := by
  refine g_met l (by decide) (Nat.le_of_ble_eq_true rfl) ?_
  intro p e s m args below meth c X hr hlk hnm hSz hOld
  change CX E p s m c _ _ RX0 at X
  unfold w_X0_stepsUntil at hw
  refine g_aload_n X dX0_stepsUntil_0 1 rfl ?_
  obtain ⟨hk1, hw⟩ := hw
  refine g_get X (iV (gI M p1 0)) dX0_stepsUntil_1 fl_X0_126 (fun _ => rfl) ⟨hk1, hw⟩ (fun hw => ?_)
  refine g_aload_n X dX0_stepsUntil_4 0 rfl ?_
  obtain ⟨hk2, hw⟩ := hw
  refine g_get X (iV (gI M t 9)) dX0_stepsUntil_5 fl_X0_67 (fun _ => rfl) ⟨hk2, hw⟩ (fun hw => ?_)
  refine g_isub X dX0_stepsUntil_8 ?_
  refine g_topI (fun x3 hx3 => ?_)
  have hw := hw x3 hx3
  refine g_istore_n (lv' := [(2, iV x3), (0, rV t), (1, rV p1)]) X dX0_stepsUntil_9 (by decide) rfl ?_
  refine g_iload_n X dX0_stepsUntil_10 0 rfl ?_
  refine g_if_ge X 23 dX0_stepsUntil_11 (by decide) hw (fun hw => ?_) (fun hw => ?_)
  · refine g_iload_n X dX0_stepsUntil_23 0 rfl ?_
    exact g_iret X hr hlk hSz hOld (Nat.le_refl _) dX0_stepsUntil_24 hw
  · refine g_iload_n X dX0_stepsUntil_14 0 rfl ?_
    refine g_aload_n X dX0_stepsUntil_15 1 rfl ?_
    refine g_get X (iV (gI M t 6)) dX0_stepsUntil_16 fl_X0_58 (fun _ => rfl) ⟨hk2, hw⟩ (fun hw => ?_)
    refine g_iadd X dX0_stepsUntil_19 ?_
    refine g_goto X 24 dX0_stepsUntil_20 (by decide) ?_
    exact g_iret X hr hlk hSz hOld (Nat.le_refl _) dX0_stepsUntil_24 hw
theorem dX0_calibrateWith_0 : decode cX0_calibrateWith 0 = .ok (.aload_n 0, 1) := by decide +kernel
theorem dX0_calibrateWith_1 : decode cX0_calibrateWith 1 = .ok (.getfield 20, 3) := by decide +kernel
theorem dX0_calibrateWith_4 : decode cX0_calibrateWith 4 = .ok (.getfield 181, 3) := by decide +kernel
theorem dX0_calibrateWith_7 : decode cX0_calibrateWith 7 = .ok (.iload_n 2, 1) := by decide +kernel
theorem dX0_calibrateWith_8 : decode cX0_calibrateWith 8 = .ok (.bipush 100, 2) := by decide +kernel
theorem dX0_calibrateWith_10 : decode cX0_calibrateWith 10 = .ok (.aload_n 0, 1) := by decide +kernel
theorem dX0_calibrateWith_11 : decode cX0_calibrateWith 11 = .ok (.getfield 58, 3) := by decide +kernel
theorem dX0_calibrateWith_14 : decode cX0_calibrateWith 14 = .ok (.iconst 1, 1) := by decide +kernel
theorem dX0_calibrateWith_15 : decode cX0_calibrateWith 15 = .ok (.isub, 1) := by decide +kernel
theorem dX0_calibrateWith_16 : decode cX0_calibrateWith 16 = .ok (.invokestatic 200, 3) := by decide +kernel
theorem dX0_calibrateWith_19 : decode cX0_calibrateWith 19 = .ok (.dstore_n 3, 1) := by decide +kernel
theorem dX0_calibrateWith_20 : decode cX0_calibrateWith 20 = .ok (.aload_n 0, 1) := by decide +kernel
theorem dX0_calibrateWith_21 : decode cX0_calibrateWith 21 = .ok (.getfield 20, 3) := by decide +kernel
theorem dX0_calibrateWith_24 : decode cX0_calibrateWith 24 = .ok (.getfield 181, 3) := by decide +kernel
theorem dX0_calibrateWith_27 : decode cX0_calibrateWith 27 = .ok (.dload_n 3, 1) := by decide +kernel
theorem dX0_calibrateWith_28 : decode cX0_calibrateWith 28 = .ok (.dsub, 1) := by decide +kernel
theorem dX0_calibrateWith_29 : decode cX0_calibrateWith 29 = .ok (.ldc2_w 210, 3) := by decide +kernel
theorem dX0_calibrateWith_32 : decode cX0_calibrateWith 32 = .ok (.dmul, 1) := by decide +kernel
theorem dX0_calibrateWith_33 : decode cX0_calibrateWith 33 = .ok (.aload_n 0, 1) := by decide +kernel
theorem dX0_calibrateWith_34 : decode cX0_calibrateWith 34 = .ok (.getfield 58, 3) := by decide +kernel
theorem dX0_calibrateWith_37 : decode cX0_calibrateWith 37 = .ok (.iconst 1, 1) := by decide +kernel
theorem dX0_calibrateWith_38 : decode cX0_calibrateWith 38 = .ok (.isub, 1) := by decide +kernel
theorem dX0_calibrateWith_39 : decode cX0_calibrateWith 39 = .ok (.i2d, 1) := by decide +kernel
theorem dX0_calibrateWith_40 : decode cX0_calibrateWith 40 = .ok (.ddiv, 1) := by decide +kernel
theorem dX0_calibrateWith_41 : decode cX0_calibrateWith 41 = .ok (.dstore 5, 2) := by decide +kernel
theorem dX0_calibrateWith_43 : decode cX0_calibrateWith 43 = .ok (.aload_n 1, 1) := by decide +kernel
theorem dX0_calibrateWith_44 : decode cX0_calibrateWith 44 = .ok (.iconst 0, 1) := by decide +kernel
theorem dX0_calibrateWith_45 : decode cX0_calibrateWith 45 = .ok (.putfield 150, 3) := by decide +kernel
theorem dX0_calibrateWith_48 : decode cX0_calibrateWith 48 = .ok (.aload_n 1, 1) := by decide +kernel
theorem dX0_calibrateWith_49 : decode cX0_calibrateWith 49 = .ok (.getfield 157, 3) := by decide +kernel
theorem dX0_calibrateWith_52 : decode cX0_calibrateWith 52 = .ok (.ldc2_w 212, 3) := by decide +kernel
theorem dX0_calibrateWith_55 : decode cX0_calibrateWith 55 = .ok (.dcmp .l, 1) := by decide +kernel
theorem dX0_calibrateWith_56 : decode cX0_calibrateWith 56 = .ok (.ifCond .le 17, 3) := by decide +kernel
theorem dX0_calibrateWith_59 : decode cX0_calibrateWith 59 = .ok (.aload_n 1, 1) := by decide +kernel
theorem dX0_calibrateWith_60 : decode cX0_calibrateWith 60 = .ok (.dload 5, 2) := by decide +kernel
theorem dX0_calibrateWith_62 : decode cX0_calibrateWith 62 = .ok (.dload 5, 2) := by decide +kernel
theorem dX0_calibrateWith_64 : decode cX0_calibrateWith 64 = .ok (.aload_n 1, 1) := by decide +kernel
theorem dX0_calibrateWith_65 : decode cX0_calibrateWith 65 = .ok (.getfield 157, 3) := by decide +kernel
theorem dX0_calibrateWith_68 : decode cX0_calibrateWith 68 = .ok (.dmul, 1) := by decide +kernel
theorem dX0_calibrateWith_69 : decode cX0_calibrateWith 69 = .ok (.ddiv, 1) := by decide +kernel
theorem dX0_calibrateWith_70 : decode cX0_calibrateWith 70 = .ok (.putfield 207, 3) := by decide +kernel
theorem dX0_calibrateWith_73 : decode cX0_calibrateWith 73 = .ok (.return_, 1) := by decide +kernel
abbrev rmX0_calibrateWith : Room := { frames := 1, cells := 0, slots := 0, locals := 29 }
def w_X0_calibrateWith (n : Nat) (M : Mem) (t : Nat) (p1 : Nat) (p2 : Int32) (K : Mem → Prop) : Prop := ((t ≤ n ∧ kd t = (0, 0)) ∧ (∀ r2, r2 = gR M t 0 → ((r2 ≤ n ∧ kd r2 = (3, 0)) ∧ w_X5_decayed n M (gD M r2 3) p2 (100 : Int32) ((gI M t 6) - (1 : Int32)) (fun z5 M4 => (∀ r6, r6 = gR M4 t 0 → ((r6 ≤ n ∧ kd r6 = (3, 0)) ∧ (vf_n64 (FP.dsub (gD M4 r6 3) z5) ∧ (∀ z8, z8 = FP.dsub (gD M4 r6 3) z5 → (vf_n64 (FP.dmul z8 (4636737291354636288 : UInt64)) ∧ (∀ z9, z9 = FP.dmul z8 (4636737291354636288 : UInt64) → (vf_n64 (FP.ddiv z9 (FP.i2d ((gI M4 t 6) - (1 : Int32)))) ∧ (∀ z10, z10 = FP.ddiv z9 (FP.i2d ((gI M4 t 6) - (1 : Int32))) → ((p1 ≤ n ∧ kd p1 = (1, 0)) ∧ (∀ M12, M12 = sI M4 p1 5 (0 : Int32) → (((Op.cmpValue (FP.dcmp (gD M12 p1 1) (118622047889322841 : UInt64)) CmpOp.l) ≤ 0 → K M12) ∧ (¬ (Op.cmpValue (FP.dcmp (gD M12 p1 1) (118622047889322841 : UInt64)) CmpOp.l) ≤ 0 → (vf_n64 (FP.dmul z10 (gD M12 p1 1)) ∧ (∀ z13, z13 = FP.dmul z10 (gD M12 p1 1) → (vf_n64 (FP.ddiv z10 z13) ∧ (∀ z14, z14 = FP.ddiv z10 z13 → (∀ M15, M15 = sD M12 p1 2 z14 → K M15)))))))))))))))))))))
set_option maxHeartbeats 4000000 in
set_option maxRecDepth 20000 in
theorem c_X0_calibrateWith (l : Launch) (E : Gl) (n : Nat) (M : Mem) (t : Nat) (p1 : Nat) (p2 : Int32) (K : Mem → Prop) (hw : w_X0_calibrateWith n M t p1 p2 K) : CT E l yX0_calibrateWith cX0_calibrateWith 7 none rmX0_calibrateWith n M [rV t, rV p1, iV p2] (PV E n K) := by
  refine g_met l (by decide) (Nat.le_of_ble_eq_true rfl) ?_
  intro p e s m args below meth c X hr hlk hnm hSz hOld
  change CX E p s m c _ _ RX0 at X
  unfold w_X0_calibrateWith at hw
  refine g_aload_n X dX0_calibrateWith_0 0 rfl ?_
  obtain ⟨hk1, hw⟩ := hw
  refine g_get X (rV (gR M t 0)) dX0_calibrateWith_1 fl_X0_20 (fun _ => rfl) ⟨hk1, hw⟩ (fun hw => ?_)
  refine g_topR (fun r2 hr2 => ?_)
  have hw := hw r2 hr2
  obtain ⟨hk3, hw⟩ := hw
  refine g_get X (dV (gD M r2 3)) dX0_calibrateWith_4 fl_X0_181 (fun _ => rfl) ⟨hk3, hw⟩ (fun hw => ?_)
  refine g_iload_n X dX0_calibrateWith_7 2 rfl ?_
  refine g_bipush X (100 : Int32) dX0_calibrateWith_8 (by decide) ?_
  refine g_aload_n X dX0_calibrateWith_10 0 rfl ?_
  refine g_get X (iV (gI M t 6)) dX0_calibrateWith_11 fl_X0_58 (fun _ => rfl) ⟨hk1, hw⟩ (fun hw => ?_)
  refine g_iconst X (1 : Int32) dX0_calibrateWith_14 (by decide) ?_
  refine g_isub X dX0_calibrateWith_15 ?_
  refine g_calld (pc' := 19) (rest := []) rfl (fun H locs ls d qR qL => g_runN X cn_X5_decayed (fun k => k.2.2.2.1) ⟨Nat.le_of_ble_eq_true rfl, Nat.le_of_ble_eq_true rfl⟩ dX0_calibrateWith_16 (c_X5_decayed l E n M (gD M r2 3) p2 (100 : Int32) ((gI M t 6) - (1 : Int32)) _ hw) rfl rfl (Nat.le_of_ble_eq_true rfl) ⟨Nat.le_of_ble_eq_true rfl, Nat.le_of_ble_eq_true rfl⟩ qR qL) (fun z5 M4 hw => ?_)
  refine g_dstore_n (lv' := [(3, dV z5), (0, rV t), (1, rV p1), (2, iV p2)]) X dX0_calibrateWith_19 (by decide) rfl ?_
  refine g_aload_n X dX0_calibrateWith_20 1 rfl ?_
  refine g_get X (rV (gR M4 t 0)) dX0_calibrateWith_21 fl_X0_20 (fun _ => rfl) ⟨hk1, hw⟩ (fun hw => ?_)
  refine g_topR (fun r6 hr6 => ?_)
  have hw := hw r6 hr6
  obtain ⟨hk7, hw⟩ := hw
  refine g_get X (dV (gD M4 r6 3)) dX0_calibrateWith_24 fl_X0_181 (fun _ => rfl) ⟨hk7, hw⟩ (fun hw => ?_)
  refine g_dload_n X dX0_calibrateWith_27 0 rfl ?_
  refine g_dsub X dX0_calibrateWith_28 hw (fun hw => ?_)
  refine g_topD (fun z8 hz8 => ?_)
  have hw := hw z8 hz8
  refine g_ldcD X (4636737291354636288 : UInt64) dX0_calibrateWith_29 wk_X0_210 ?_
  refine g_dmul X dX0_calibrateWith_32 hw (fun hw => ?_)
  refine g_topD (fun z9 hz9 => ?_)
  have hw := hw z9 hz9
  refine g_aload_n X dX0_calibrateWith_33 1 rfl ?_
  refine g_get X (iV (gI M4 t 6)) dX0_calibrateWith_34 fl_X0_58 (fun _ => rfl) ⟨hk1, hw⟩ (fun hw => ?_)
  refine g_iconst X (1 : Int32) dX0_calibrateWith_37 (by decide) ?_
  refine g_isub X dX0_calibrateWith_38 ?_
  refine g_i2d X dX0_calibrateWith_39 ?_
  refine g_ddiv X dX0_calibrateWith_40 hw (fun hw => ?_)
  refine g_topD (fun z10 hz10 => ?_)
  have hw := hw z10 hz10
  refine g_dstore (lv' := [(5, dV z10), (3, dV z5), (0, rV t), (1, rV p1), (2, iV p2)]) X dX0_calibrateWith_41 (by decide) rfl ?_
  refine g_aload_n X dX0_calibrateWith_43 3 rfl ?_
  refine g_iconst X (0 : Int32) dX0_calibrateWith_44 (by decide) ?_
  obtain ⟨hk11, hw⟩ := hw
  refine g_putI X dX0_calibrateWith_45 fl_X0_150 rfl (Or.inl rfl) ⟨hk11, hw⟩ (fun hw => ?_)
  refine g_topM (fun M12 hM12 => ?_)
  have hw := hw M12 hM12
  refine g_aload_n X dX0_calibrateWith_48 3 rfl ?_
  refine g_get X (dV (gD M12 p1 1)) dX0_calibrateWith_49 fl_X0_157 (fun _ => rfl) ⟨hk11, hw⟩ (fun hw => ?_)
  refine g_ldcD X (118622047889322841 : UInt64) dX0_calibrateWith_52 wk_X0_212 ?_
  refine g_dcmp X dX0_calibrateWith_55 ?_
  refine g_if_le X 73 dX0_calibrateWith_56 (by decide) hw (fun hw => ?_) (fun hw => ?_)
  · exact g_vret X hr hlk hSz hOld (Nat.le_refl _) dX0_calibrateWith_73 hw
  · refine g_aload_n X dX0_calibrateWith_59 3 rfl ?_
    refine g_dload X dX0_calibrateWith_60 0 rfl ?_
    refine g_dload X dX0_calibrateWith_62 0 rfl ?_
    refine g_aload_n X dX0_calibrateWith_64 3 rfl ?_
    refine g_get X (dV (gD M12 p1 1)) dX0_calibrateWith_65 fl_X0_157 (fun _ => rfl) ⟨hk11, hw⟩ (fun hw => ?_)
    refine g_dmul X dX0_calibrateWith_68 hw (fun hw => ?_)
    refine g_topD (fun z13 hz13 => ?_)
    have hw := hw z13 hz13
    refine g_ddiv X dX0_calibrateWith_69 hw (fun hw => ?_)
    refine g_topD (fun z14 hz14 => ?_)
    have hw := hw z14 hz14
    refine g_putD X dX0_calibrateWith_70 fl_X0_207 rfl (Or.inl rfl) ⟨hk11, hw⟩ (fun hw => ?_)
    refine g_topM (fun M15 hM15 => ?_)
    have hw := hw M15 hM15
    exact g_vret X hr hlk hSz hOld (Nat.le_refl _) dX0_calibrateWith_73 hw
theorem dX0_partsRejectedFor_0 : decode cX0_partsRejectedFor 0 = .ok (.iconst 0, 1) := by decide +kernel
theorem dX0_partsRejectedFor_1 : decode cX0_partsRejectedFor 1 = .ok (.istore_n 2, 1) := by decide +kernel
theorem dX0_partsRejectedFor_2 : decode cX0_partsRejectedFor 2 = .ok (.aload_n 0, 1) := by decide +kernel
theorem dX0_partsRejectedFor_3 : decode cX0_partsRejectedFor 3 = .ok (.getfield 53, 3) := by decide +kernel
theorem dX0_partsRejectedFor_6 : decode cX0_partsRejectedFor 6 = .ok (.astore_n 3, 1) := by decide +kernel
theorem dX0_partsRejectedFor_7 : decode cX0_partsRejectedFor 7 = .ok (.aload_n 3, 1) := by decide +kernel
theorem dX0_partsRejectedFor_8 : decode cX0_partsRejectedFor 8 = .ok (.arraylength, 1) := by decide +kernel
theorem dX0_partsRejectedFor_9 : decode cX0_partsRejectedFor 9 = .ok (.istore 4, 2) := by decide +kernel
theorem dX0_partsRejectedFor_11 : decode cX0_partsRejectedFor 11 = .ok (.iconst 0, 1) := by decide +kernel
theorem dX0_partsRejectedFor_12 : decode cX0_partsRejectedFor 12 = .ok (.istore 5, 2) := by decide +kernel
theorem dX0_partsRejectedFor_14 : decode cX0_partsRejectedFor 14 = .ok (.iload 5, 2) := by decide +kernel
theorem dX0_partsRejectedFor_16 : decode cX0_partsRejectedFor 16 = .ok (.iload 4, 2) := by decide +kernel
theorem dX0_partsRejectedFor_18 : decode cX0_partsRejectedFor 18 = .ok (.if_icmp .ge 27, 3) := by decide +kernel
theorem dX0_partsRejectedFor_21 : decode cX0_partsRejectedFor 21 = .ok (.aload_n 3, 1) := by decide +kernel
theorem dX0_partsRejectedFor_22 : decode cX0_partsRejectedFor 22 = .ok (.iload 5, 2) := by decide +kernel
theorem dX0_partsRejectedFor_24 : decode cX0_partsRejectedFor 24 = .ok (.aaload, 1) := by decide +kernel
theorem dX0_partsRejectedFor_25 : decode cX0_partsRejectedFor 25 = .ok (.astore 6, 2) := by decide +kernel
theorem dX0_partsRejectedFor_27 : decode cX0_partsRejectedFor 27 = .ok (.aload 6, 2) := by decide +kernel
theorem dX0_partsRejectedFor_29 : decode cX0_partsRejectedFor 29 = .ok (.getfield 214, 3) := by decide +kernel
theorem dX0_partsRejectedFor_32 : decode cX0_partsRejectedFor 32 = .ok (.iload_n 1, 1) := by decide +kernel
theorem dX0_partsRejectedFor_33 : decode cX0_partsRejectedFor 33 = .ok (.if_icmp .ne 6, 3) := by decide +kernel
theorem dX0_partsRejectedFor_36 : decode cX0_partsRejectedFor 36 = .ok (.iinc 2 1, 3) := by decide +kernel
theorem dX0_partsRejectedFor_39 : decode cX0_partsRejectedFor 39 = .ok (.iinc 5 1, 3) := by decide +kernel
theorem dX0_partsRejectedFor_42 : decode cX0_partsRejectedFor 42 = .ok (.goto (-28), 3) := by decide +kernel
theorem dX0_partsRejectedFor_45 : decode cX0_partsRejectedFor 45 = .ok (.iload_n 2, 1) := by decide +kernel
theorem dX0_partsRejectedFor_46 : decode cX0_partsRejectedFor 46 = .ok (.ireturn, 1) := by decide +kernel
abbrev rmX0_partsRejectedFor : Room := { frames := 0, cells := 0, slots := 0, locals := 0 }
def w_X0_partsRejectedFor_L14 (n : Nat) (K : Int32 → Mem → Prop) : Nat → Mem → Int32 → Int32 → Nat → Int32 → Int32 → Prop
  | 0, _, _, _, _, _, _ => False
  | fuel + 1, M, a1, a2, o3, a4, a5 => ((a4 ≤ a5 → K a2 M) ∧ (¬ a4 ≤ a5 → ((o3 ≤ n ∧ (10 ≤ (kd o3).1 ∧ (kd o3).1 < 13) ∧ vp_in a5 (kd o3).2) ∧ (∀ r4, r4 = gR M o3 (Int32.toNatClampNeg a5) → ((r4 ≤ n ∧ kd r4 = (2, 0)) ∧ ((¬ (gI M r4 10) = a1 → (∀ x6, x6 = a5 + (1 : Int32) → w_X0_partsRejectedFor_L14 n K fuel M a1 a2 o3 a4 x6)) ∧ ((gI M r4 10) = a1 → (∀ x7, x7 = a2 + (1 : Int32) → (∀ x8, x8 = a5 + (1 : Int32) → w_X0_partsRejectedFor_L14 n K fuel M a1 x7 o3 a4 x8)))))))))
def w_X0_partsRejectedFor (n : Nat) (M : Mem) (t : Nat) (p1 : Int32) (K : Int32 → Mem → Prop) : Prop := ((t ≤ n ∧ kd t = (0, 0)) ∧ (∀ r2, r2 = gR M t 4 → ((r2 ≤ n ∧ 7 ≤ (kd r2).1 ∧ (kd r2).1 < 13) ∧ (∀ x3, x3 = nI (kd r2).2 → w_X0_partsRejectedFor_L14 n K 4000 M p1 (0 : Int32) r2 x3 (0 : Int32)))))
set_option maxHeartbeats 4000000 in
set_option maxRecDepth 20000 in
theorem c_X0_partsRejectedFor (l : Launch) (E : Gl) (n : Nat) (M : Mem) (t : Nat) (p1 : Int32) (K : Int32 → Mem → Prop) (hw : w_X0_partsRejectedFor n M t p1 K) : CT E l yX0_partsRejectedFor cX0_partsRejectedFor 7 (some .int) rmX0_partsRejectedFor n M [rV t, iV p1] (PI E n K) := by
  refine g_met l (by decide) (Nat.le_of_ble_eq_true rfl) ?_
  intro p e s m args below meth c X hr hlk hnm hSz hOld
  change CX E p s m c _ _ RX0 at X
  have L14 : ∀ (fuel14 : Nat) (M : Mem) (a1 : Int32) (a2 : Int32) (o3 : Nat) (a4 : Int32) (a5 : Int32), w_X0_partsRejectedFor_L14 n K fuel14 M a1 a2 o3 a4 a5 → G E p l e rmX0_partsRejectedFor s m args below meth c 7 n M 0 0 (MQD lw_cs below (PI E n K) args s rmX0_partsRejectedFor.cells rmX0_partsRejectedFor.slots (Ab E)) 14 [(1, iV a1), (2, iV a2), (3, rV o3), (4, iV a4), (5, iV a5)] [] := by
    intro fuel14
    induction fuel14 with
    | zero => intro M a1 a2 o3 a4 a5 hw; exact False.elim hw
    | succ fuel14 ih14 =>
      intro M a1 a2 o3 a4 a5 hw
      unfold w_X0_partsRejectedFor_L14 at hw
      refine g_iload X dX0_partsRejectedFor_14 4 rfl ?_
      refine g_iload X dX0_partsRejectedFor_16 3 rfl ?_
      refine g_icmp_ge X 45 dX0_partsRejectedFor_18 (by decide) hw (fun hw => ?_) (fun hw => ?_)
      · refine g_iload_n X dX0_partsRejectedFor_45 1 rfl ?_
        exact g_iret X hr hlk hSz hOld (Nat.le_refl _) dX0_partsRejectedFor_46 hw
      · refine g_aload_n X dX0_partsRejectedFor_21 2 rfl ?_
        refine g_iload X dX0_partsRejectedFor_22 4 rfl ?_
        refine g_aald X dX0_partsRejectedFor_24 hw (fun hw => ?_)
        refine g_topR (fun r4 hr4 => ?_)
        have hw := hw r4 hr4
        refine g_astore (lv' := [(6, rV r4), (1, iV a1), (2, iV a2), (3, rV o3), (4, iV a4), (5, iV a5)]) X dX0_partsRejectedFor_25 (by decide) rfl ?_
        refine g_aload X dX0_partsRejectedFor_27 0 rfl ?_
        obtain ⟨hk5, hw⟩ := hw
        refine g_get X (iV (gI M r4 10)) dX0_partsRejectedFor_29 fl_X0_214 (fun _ => rfl) ⟨hk5, hw⟩ (fun hw => ?_)
        refine g_iload_n X dX0_partsRejectedFor_32 1 rfl ?_
        refine g_icmp_ne X 39 dX0_partsRejectedFor_33 (by decide) hw (fun hw => ?_) (fun hw => ?_)
        · obtain ⟨x6, hx6⟩ : ∃ y : Int32, y = a5 + (1 : Int32) := ⟨_, rfl⟩
          have hw := hw x6 hx6
          refine g_iinc (lv' := [(5, iV x6), (6, rV r4), (1, iV a1), (2, iV a2), (3, rV o3), (4, iV a4)]) X x6 dX0_partsRejectedFor_39 5 rfl (by rw [hx6]; rfl) (by decide) rfl ?_
          refine g_goto X 14 dX0_partsRejectedFor_42 (by decide) ?_
          refine g_lvsub (lv' := [(1, iV a1), (2, iV a2), (3, rV o3), (4, iV a4), (5, iV x6)]) [2, 3, 4, 5, 0] rfl ?_
          exact ih14 _ _ _ _ _ _ hw
        · obtain ⟨x7, hx7⟩ : ∃ y : Int32, y = a2 + (1 : Int32) := ⟨_, rfl⟩
          have hw := hw x7 hx7
          refine g_iinc (lv' := [(2, iV x7), (6, rV r4), (1, iV a1), (3, rV o3), (4, iV a4), (5, iV a5)]) X x7 dX0_partsRejectedFor_36 2 rfl (by rw [hx7]; rfl) (by decide) rfl ?_
          obtain ⟨x8, hx8⟩ : ∃ y : Int32, y = a5 + (1 : Int32) := ⟨_, rfl⟩
          have hw := hw x8 hx8
          refine g_iinc (lv' := [(5, iV x8), (2, iV x7), (6, rV r4), (1, iV a1), (3, rV o3), (4, iV a4)]) X x8 dX0_partsRejectedFor_39 5 rfl (by rw [hx8]; rfl) (by decide) rfl ?_
          refine g_goto X 14 dX0_partsRejectedFor_42 (by decide) ?_
          refine g_lvsub (lv' := [(1, iV a1), (2, iV x7), (3, rV o3), (4, iV a4), (5, iV x8)]) [3, 1, 4, 5, 0] rfl ?_
          exact ih14 _ _ _ _ _ _ hw
  unfold w_X0_partsRejectedFor at hw
  refine g_iconst X (0 : Int32) dX0_partsRejectedFor_0 (by decide) ?_
  refine g_istore_n (lv' := [(2, iV (0 : Int32)), (0, rV t), (1, iV p1)]) X dX0_partsRejectedFor_1 (by decide) rfl ?_
  refine g_aload_n X dX0_partsRejectedFor_2 1 rfl ?_
  obtain ⟨hk1, hw⟩ := hw
  refine g_get X (rV (gR M t 4)) dX0_partsRejectedFor_3 fl_X0_53 (fun _ => rfl) ⟨hk1, hw⟩ (fun hw => ?_)
  refine g_topR (fun r2 hr2 => ?_)
  have hw := hw r2 hr2
  refine g_astore_n (lv' := [(3, rV r2), (2, iV (0 : Int32)), (0, rV t), (1, iV p1)]) X dX0_partsRejectedFor_6 (by decide) rfl ?_
  refine g_aload_n X dX0_partsRejectedFor_7 0 rfl ?_
  refine g_alen X dX0_partsRejectedFor_8 hw (fun hw => ?_)
  refine g_topI (fun x3 hx3 => ?_)
  have hw := hw x3 hx3
  refine g_istore (lv' := [(4, iV x3), (3, rV r2), (2, iV (0 : Int32)), (0, rV t), (1, iV p1)]) X dX0_partsRejectedFor_9 (by decide) rfl ?_
  refine g_iconst X (0 : Int32) dX0_partsRejectedFor_11 (by decide) ?_
  refine g_istore (lv' := [(5, iV (0 : Int32)), (4, iV x3), (3, rV r2), (2, iV (0 : Int32)), (0, rV t), (1, iV p1)]) X dX0_partsRejectedFor_12 (by decide) rfl ?_
  refine g_lvsub (lv' := [(1, iV p1), (2, iV (0 : Int32)), (3, rV r2), (4, iV x3), (5, iV (0 : Int32))]) [5, 3, 2, 1, 0] rfl ?_
  exact L14 _ _ _ _ _ _ _ hw
theorem dX0_testsEnded_0 : decode cX0_testsEnded 0 = .ok (.iconst 0, 1) := by decide +kernel
theorem dX0_testsEnded_1 : decode cX0_testsEnded 1 = .ok (.istore_n 1, 1) := by decide +kernel
theorem dX0_testsEnded_2 : decode cX0_testsEnded 2 = .ok (.aload_n 0, 1) := by decide +kernel
theorem dX0_testsEnded_3 : decode cX0_testsEnded 3 = .ok (.getfield 44, 3) := by decide +kernel
theorem dX0_testsEnded_6 : decode cX0_testsEnded 6 = .ok (.astore_n 2, 1) := by decide +kernel
theorem dX0_testsEnded_7 : decode cX0_testsEnded 7 = .ok (.aload_n 2, 1) := by decide +kernel
theorem dX0_testsEnded_8 : decode cX0_testsEnded 8 = .ok (.arraylength, 1) := by decide +kernel
theorem dX0_testsEnded_9 : decode cX0_testsEnded 9 = .ok (.istore_n 3, 1) := by decide +kernel
theorem dX0_testsEnded_10 : decode cX0_testsEnded 10 = .ok (.iconst 0, 1) := by decide +kernel
theorem dX0_testsEnded_11 : decode cX0_testsEnded 11 = .ok (.istore 4, 2) := by decide +kernel
theorem dX0_testsEnded_13 : decode cX0_testsEnded 13 = .ok (.iload 4, 2) := by decide +kernel
theorem dX0_testsEnded_15 : decode cX0_testsEnded 15 = .ok (.iload_n 3, 1) := by decide +kernel
theorem dX0_testsEnded_16 : decode cX0_testsEnded 16 = .ok (.if_icmp .ge 23, 3) := by decide +kernel
theorem dX0_testsEnded_19 : decode cX0_testsEnded 19 = .ok (.aload_n 2, 1) := by decide +kernel
theorem dX0_testsEnded_20 : decode cX0_testsEnded 20 = .ok (.iload 4, 2) := by decide +kernel
theorem dX0_testsEnded_22 : decode cX0_testsEnded 22 = .ok (.aaload, 1) := by decide +kernel
theorem dX0_testsEnded_23 : decode cX0_testsEnded 23 = .ok (.astore 5, 2) := by decide +kernel
theorem dX0_testsEnded_25 : decode cX0_testsEnded 25 = .ok (.iload_n 1, 1) := by decide +kernel
theorem dX0_testsEnded_26 : decode cX0_testsEnded 26 = .ok (.aload 5, 2) := by decide +kernel
theorem dX0_testsEnded_28 : decode cX0_testsEnded 28 = .ok (.getfield 149, 3) := by decide +kernel
theorem dX0_testsEnded_31 : decode cX0_testsEnded 31 = .ok (.iadd, 1) := by decide +kernel
theorem dX0_testsEnded_32 : decode cX0_testsEnded 32 = .ok (.istore_n 1, 1) := by decide +kernel
theorem dX0_testsEnded_33 : decode cX0_testsEnded 33 = .ok (.iinc 4 1, 3) := by decide +kernel
theorem dX0_testsEnded_36 : decode cX0_testsEnded 36 = .ok (.goto (-23), 3) := by decide +kernel
theorem dX0_testsEnded_39 : decode cX0_testsEnded 39 = .ok (.iload_n 1, 1) := by decide +kernel
theorem dX0_testsEnded_40 : decode cX0_testsEnded 40 = .ok (.ireturn, 1) := by decide +kernel
abbrev rmX0_testsEnded : Room := { frames := 0, cells := 0, slots := 0, locals := 0 }
def w_X0_testsEnded_L13 (n : Nat) (K : Int32 → Mem → Prop) : Nat → Mem → Int32 → Nat → Int32 → Int32 → Prop
  | 0, _, _, _, _, _ => False
  | fuel + 1, M, a1, o2, a3, a4 => ((a3 ≤ a4 → K a1 M) ∧ (¬ a3 ≤ a4 → ((o2 ≤ n ∧ (10 ≤ (kd o2).1 ∧ (kd o2).1 < 13) ∧ vp_in a4 (kd o2).2) ∧ (∀ r4, r4 = gR M o2 (Int32.toNatClampNeg a4) → ((r4 ≤ n ∧ kd r4 = (1, 0)) ∧ (∀ x6, x6 = a1 + (gI M r4 10) → (∀ x7, x7 = a4 + (1 : Int32) → w_X0_testsEnded_L13 n K fuel M x6 o2 a3 x7)))))))
def w_X0_testsEnded (n : Nat) (M : Mem) (t : Nat) (K : Int32 → Mem → Prop) : Prop := ((t ≤ n ∧ kd t = (0, 0)) ∧ (∀ r2, r2 = gR M t 3 → ((r2 ≤ n ∧ 7 ≤ (kd r2).1 ∧ (kd r2).1 < 13) ∧ (∀ x3, x3 = nI (kd r2).2 → w_X0_testsEnded_L13 n K 4000 M (0 : Int32) r2 x3 (0 : Int32)))))
set_option maxHeartbeats 4000000 in
set_option maxRecDepth 20000 in
theorem c_X0_testsEnded (l : Launch) (E : Gl) (n : Nat) (M : Mem) (t : Nat) (K : Int32 → Mem → Prop) (hw : w_X0_testsEnded n M t K) : CT E l yX0_testsEnded cX0_testsEnded 6 (some .int) rmX0_testsEnded n M [rV t] (PI E n K) := by
  refine g_met l (by decide) (Nat.le_of_ble_eq_true rfl) ?_
  intro p e s m args below meth c X hr hlk hnm hSz hOld
  change CX E p s m c _ _ RX0 at X
  have L13 : ∀ (fuel13 : Nat) (M : Mem) (a1 : Int32) (o2 : Nat) (a3 : Int32) (a4 : Int32), w_X0_testsEnded_L13 n K fuel13 M a1 o2 a3 a4 → G E p l e rmX0_testsEnded s m args below meth c 6 n M 0 0 (MQD lw_cs below (PI E n K) args s rmX0_testsEnded.cells rmX0_testsEnded.slots (Ab E)) 13 [(1, iV a1), (2, rV o2), (3, iV a3), (4, iV a4)] [] := by
    intro fuel13
    induction fuel13 with
    | zero => intro M a1 o2 a3 a4 hw; exact False.elim hw
    | succ fuel13 ih13 =>
      intro M a1 o2 a3 a4 hw
      unfold w_X0_testsEnded_L13 at hw
      refine g_iload X dX0_testsEnded_13 3 rfl ?_
      refine g_iload_n X dX0_testsEnded_15 2 rfl ?_
      refine g_icmp_ge X 39 dX0_testsEnded_16 (by decide) hw (fun hw => ?_) (fun hw => ?_)
      · refine g_iload_n X dX0_testsEnded_39 0 rfl ?_
        exact g_iret X hr hlk hSz hOld (Nat.le_refl _) dX0_testsEnded_40 hw
      · refine g_aload_n X dX0_testsEnded_19 1 rfl ?_
        refine g_iload X dX0_testsEnded_20 3 rfl ?_
        refine g_aald X dX0_testsEnded_22 hw (fun hw => ?_)
        refine g_topR (fun r4 hr4 => ?_)
        have hw := hw r4 hr4
        refine g_astore (lv' := [(5, rV r4), (1, iV a1), (2, rV o2), (3, iV a3), (4, iV a4)]) X dX0_testsEnded_23 (by decide) rfl ?_
        refine g_iload_n X dX0_testsEnded_25 1 rfl ?_
        refine g_aload X dX0_testsEnded_26 0 rfl ?_
        obtain ⟨hk5, hw⟩ := hw
        refine g_get X (iV (gI M r4 10)) dX0_testsEnded_28 fl_X0_149 (fun _ => rfl) ⟨hk5, hw⟩ (fun hw => ?_)
        refine g_iadd X dX0_testsEnded_31 ?_
        refine g_topI (fun x6 hx6 => ?_)
        have hw := hw x6 hx6
        refine g_istore_n (lv' := [(1, iV x6), (5, rV r4), (2, rV o2), (3, iV a3), (4, iV a4)]) X dX0_testsEnded_32 (by decide) rfl ?_
        obtain ⟨x7, hx7⟩ : ∃ y : Int32, y = a4 + (1 : Int32) := ⟨_, rfl⟩
        have hw := hw x7 hx7
        refine g_iinc (lv' := [(4, iV x7), (1, iV x6), (5, rV r4), (2, rV o2), (3, iV a3)]) X x7 dX0_testsEnded_33 4 rfl (by rw [hx7]; rfl) (by decide) rfl ?_
        refine g_goto X 13 dX0_testsEnded_36 (by decide) ?_
        refine g_lvsub (lv' := [(1, iV x6), (2, rV o2), (3, iV a3), (4, iV x7)]) [1, 3, 4, 0] rfl ?_
        exact ih13 _ _ _ _ _ hw
  unfold w_X0_testsEnded at hw
  refine g_iconst X (0 : Int32) dX0_testsEnded_0 (by decide) ?_
  refine g_istore_n (lv' := [(1, iV (0 : Int32)), (0, rV t)]) X dX0_testsEnded_1 (by decide) rfl ?_
  refine g_aload_n X dX0_testsEnded_2 1 rfl ?_
  obtain ⟨hk1, hw⟩ := hw
  refine g_get X (rV (gR M t 3)) dX0_testsEnded_3 fl_X0_44 (fun _ => rfl) ⟨hk1, hw⟩ (fun hw => ?_)
  refine g_topR (fun r2 hr2 => ?_)
  have hw := hw r2 hr2
  refine g_astore_n (lv' := [(2, rV r2), (1, iV (0 : Int32)), (0, rV t)]) X dX0_testsEnded_6 (by decide) rfl ?_
  refine g_aload_n X dX0_testsEnded_7 0 rfl ?_
  refine g_alen X dX0_testsEnded_8 hw (fun hw => ?_)
  refine g_topI (fun x3 hx3 => ?_)
  have hw := hw x3 hx3
  refine g_istore_n (lv' := [(3, iV x3), (2, rV r2), (1, iV (0 : Int32)), (0, rV t)]) X dX0_testsEnded_9 (by decide) rfl ?_
  refine g_iconst X (0 : Int32) dX0_testsEnded_10 (by decide) ?_
  refine g_istore (lv' := [(4, iV (0 : Int32)), (3, iV x3), (2, rV r2), (1, iV (0 : Int32)), (0, rV t)]) X dX0_testsEnded_11 (by decide) rfl ?_
  refine g_lvsub (lv' := [(1, iV (0 : Int32)), (2, rV r2), (3, iV x3), (4, iV (0 : Int32))]) [3, 2, 1, 0] rfl ?_
  exact L13 _ _ _ _ _ _ hw
theorem dX0_testsRepeated_0 : decode cX0_testsRepeated 0 = .ok (.iconst 0, 1) := by decide +kernel
theorem dX0_testsRepeated_1 : decode cX0_testsRepeated 1 = .ok (.istore_n 1, 1) := by decide +kernel
theorem dX0_testsRepeated_2 : decode cX0_testsRepeated 2 = .ok (.aload_n 0, 1) := by decide +kernel
theorem dX0_testsRepeated_3 : decode cX0_testsRepeated 3 = .ok (.getfield 44, 3) := by decide +kernel
theorem dX0_testsRepeated_6 : decode cX0_testsRepeated 6 = .ok (.astore_n 2, 1) := by decide +kernel
theorem dX0_testsRepeated_7 : decode cX0_testsRepeated 7 = .ok (.aload_n 2, 1) := by decide +kernel
theorem dX0_testsRepeated_8 : decode cX0_testsRepeated 8 = .ok (.arraylength, 1) := by decide +kernel
theorem dX0_testsRepeated_9 : decode cX0_testsRepeated 9 = .ok (.istore_n 3, 1) := by decide +kernel
theorem dX0_testsRepeated_10 : decode cX0_testsRepeated 10 = .ok (.iconst 0, 1) := by decide +kernel
theorem dX0_testsRepeated_11 : decode cX0_testsRepeated 11 = .ok (.istore 4, 2) := by decide +kernel
theorem dX0_testsRepeated_13 : decode cX0_testsRepeated 13 = .ok (.iload 4, 2) := by decide +kernel
theorem dX0_testsRepeated_15 : decode cX0_testsRepeated 15 = .ok (.iload_n 3, 1) := by decide +kernel
theorem dX0_testsRepeated_16 : decode cX0_testsRepeated 16 = .ok (.if_icmp .ge 23, 3) := by decide +kernel
theorem dX0_testsRepeated_19 : decode cX0_testsRepeated 19 = .ok (.aload_n 2, 1) := by decide +kernel
theorem dX0_testsRepeated_20 : decode cX0_testsRepeated 20 = .ok (.iload 4, 2) := by decide +kernel
theorem dX0_testsRepeated_22 : decode cX0_testsRepeated 22 = .ok (.aaload, 1) := by decide +kernel
theorem dX0_testsRepeated_23 : decode cX0_testsRepeated 23 = .ok (.astore 5, 2) := by decide +kernel
theorem dX0_testsRepeated_25 : decode cX0_testsRepeated 25 = .ok (.iload_n 1, 1) := by decide +kernel
theorem dX0_testsRepeated_26 : decode cX0_testsRepeated 26 = .ok (.aload 5, 2) := by decide +kernel
theorem dX0_testsRepeated_28 : decode cX0_testsRepeated 28 = .ok (.getfield 175, 3) := by decide +kernel
theorem dX0_testsRepeated_31 : decode cX0_testsRepeated 31 = .ok (.iadd, 1) := by decide +kernel
theorem dX0_testsRepeated_32 : decode cX0_testsRepeated 32 = .ok (.istore_n 1, 1) := by decide +kernel
theorem dX0_testsRepeated_33 : decode cX0_testsRepeated 33 = .ok (.iinc 4 1, 3) := by decide +kernel
theorem dX0_testsRepeated_36 : decode cX0_testsRepeated 36 = .ok (.goto (-23), 3) := by decide +kernel
theorem dX0_testsRepeated_39 : decode cX0_testsRepeated 39 = .ok (.iload_n 1, 1) := by decide +kernel
theorem dX0_testsRepeated_40 : decode cX0_testsRepeated 40 = .ok (.ireturn, 1) := by decide +kernel
abbrev rmX0_testsRepeated : Room := { frames := 0, cells := 0, slots := 0, locals := 0 }
def w_X0_testsRepeated_L13 (n : Nat) (K : Int32 → Mem → Prop) : Nat → Mem → Int32 → Nat → Int32 → Int32 → Prop
  | 0, _, _, _, _, _ => False
  | fuel + 1, M, a1, o2, a3, a4 => ((a3 ≤ a4 → K a1 M) ∧ (¬ a3 ≤ a4 → ((o2 ≤ n ∧ (10 ≤ (kd o2).1 ∧ (kd o2).1 < 13) ∧ vp_in a4 (kd o2).2) ∧ (∀ r4, r4 = gR M o2 (Int32.toNatClampNeg a4) → ((r4 ≤ n ∧ kd r4 = (1, 0)) ∧ (∀ x6, x6 = a1 + (gI M r4 13) → (∀ x7, x7 = a4 + (1 : Int32) → w_X0_testsRepeated_L13 n K fuel M x6 o2 a3 x7)))))))
def w_X0_testsRepeated (n : Nat) (M : Mem) (t : Nat) (K : Int32 → Mem → Prop) : Prop := ((t ≤ n ∧ kd t = (0, 0)) ∧ (∀ r2, r2 = gR M t 3 → ((r2 ≤ n ∧ 7 ≤ (kd r2).1 ∧ (kd r2).1 < 13) ∧ (∀ x3, x3 = nI (kd r2).2 → w_X0_testsRepeated_L13 n K 4000 M (0 : Int32) r2 x3 (0 : Int32)))))
set_option maxHeartbeats 4000000 in
set_option maxRecDepth 20000 in
theorem c_X0_testsRepeated (l : Launch) (E : Gl) (n : Nat) (M : Mem) (t : Nat) (K : Int32 → Mem → Prop) (hw : w_X0_testsRepeated n M t K) : CT E l yX0_testsRepeated cX0_testsRepeated 6 (some .int) rmX0_testsRepeated n M [rV t] (PI E n K) := by
  refine g_met l (by decide) (Nat.le_of_ble_eq_true rfl) ?_
  intro p e s m args below meth c X hr hlk hnm hSz hOld
  change CX E p s m c _ _ RX0 at X
  have L13 : ∀ (fuel13 : Nat) (M : Mem) (a1 : Int32) (o2 : Nat) (a3 : Int32) (a4 : Int32), w_X0_testsRepeated_L13 n K fuel13 M a1 o2 a3 a4 → G E p l e rmX0_testsRepeated s m args below meth c 6 n M 0 0 (MQD lw_cs below (PI E n K) args s rmX0_testsRepeated.cells rmX0_testsRepeated.slots (Ab E)) 13 [(1, iV a1), (2, rV o2), (3, iV a3), (4, iV a4)] [] := by
    intro fuel13
    induction fuel13 with
    | zero => intro M a1 o2 a3 a4 hw; exact False.elim hw
    | succ fuel13 ih13 =>
      intro M a1 o2 a3 a4 hw
      unfold w_X0_testsRepeated_L13 at hw
      refine g_iload X dX0_testsRepeated_13 3 rfl ?_
      refine g_iload_n X dX0_testsRepeated_15 2 rfl ?_
      refine g_icmp_ge X 39 dX0_testsRepeated_16 (by decide) hw (fun hw => ?_) (fun hw => ?_)
      · refine g_iload_n X dX0_testsRepeated_39 0 rfl ?_
        exact g_iret X hr hlk hSz hOld (Nat.le_refl _) dX0_testsRepeated_40 hw
      · refine g_aload_n X dX0_testsRepeated_19 1 rfl ?_
        refine g_iload X dX0_testsRepeated_20 3 rfl ?_
        refine g_aald X dX0_testsRepeated_22 hw (fun hw => ?_)
        refine g_topR (fun r4 hr4 => ?_)
        have hw := hw r4 hr4
        refine g_astore (lv' := [(5, rV r4), (1, iV a1), (2, rV o2), (3, iV a3), (4, iV a4)]) X dX0_testsRepeated_23 (by decide) rfl ?_
        refine g_iload_n X dX0_testsRepeated_25 1 rfl ?_
        refine g_aload X dX0_testsRepeated_26 0 rfl ?_
        obtain ⟨hk5, hw⟩ := hw
        refine g_get X (iV (gI M r4 13)) dX0_testsRepeated_28 fl_X0_175 (fun _ => rfl) ⟨hk5, hw⟩ (fun hw => ?_)
        refine g_iadd X dX0_testsRepeated_31 ?_
        refine g_topI (fun x6 hx6 => ?_)
        have hw := hw x6 hx6
        refine g_istore_n (lv' := [(1, iV x6), (5, rV r4), (2, rV o2), (3, iV a3), (4, iV a4)]) X dX0_testsRepeated_32 (by decide) rfl ?_
        obtain ⟨x7, hx7⟩ : ∃ y : Int32, y = a4 + (1 : Int32) := ⟨_, rfl⟩
        have hw := hw x7 hx7
        refine g_iinc (lv' := [(4, iV x7), (1, iV x6), (5, rV r4), (2, rV o2), (3, iV a3)]) X x7 dX0_testsRepeated_33 4 rfl (by rw [hx7]; rfl) (by decide) rfl ?_
        refine g_goto X 13 dX0_testsRepeated_36 (by decide) ?_
        refine g_lvsub (lv' := [(1, iV x6), (2, rV o2), (3, iV a3), (4, iV x7)]) [1, 3, 4, 0] rfl ?_
        exact ih13 _ _ _ _ _ hw
  unfold w_X0_testsRepeated at hw
  refine g_iconst X (0 : Int32) dX0_testsRepeated_0 (by decide) ?_
  refine g_istore_n (lv' := [(1, iV (0 : Int32)), (0, rV t)]) X dX0_testsRepeated_1 (by decide) rfl ?_
  refine g_aload_n X dX0_testsRepeated_2 1 rfl ?_
  obtain ⟨hk1, hw⟩ := hw
  refine g_get X (rV (gR M t 3)) dX0_testsRepeated_3 fl_X0_44 (fun _ => rfl) ⟨hk1, hw⟩ (fun hw => ?_)
  refine g_topR (fun r2 hr2 => ?_)
  have hw := hw r2 hr2
  refine g_astore_n (lv' := [(2, rV r2), (1, iV (0 : Int32)), (0, rV t)]) X dX0_testsRepeated_6 (by decide) rfl ?_
  refine g_aload_n X dX0_testsRepeated_7 0 rfl ?_
  refine g_alen X dX0_testsRepeated_8 hw (fun hw => ?_)
  refine g_topI (fun x3 hx3 => ?_)
  have hw := hw x3 hx3
  refine g_istore_n (lv' := [(3, iV x3), (2, rV r2), (1, iV (0 : Int32)), (0, rV t)]) X dX0_testsRepeated_9 (by decide) rfl ?_
  refine g_iconst X (0 : Int32) dX0_testsRepeated_10 (by decide) ?_
  refine g_istore (lv' := [(4, iV (0 : Int32)), (3, iV x3), (2, rV r2), (1, iV (0 : Int32)), (0, rV t)]) X dX0_testsRepeated_11 (by decide) rfl ?_
  refine g_lvsub (lv' := [(1, iV (0 : Int32)), (2, rV r2), (3, iV x3), (4, iV (0 : Int32))]) [3, 2, 1, 0] rfl ?_
  exact L13 _ _ _ _ _ _ hw
theorem dX4_addPartsTo_0 : decode cX4_addPartsTo 0 = .ok (.iconst 0, 1) := by decide +kernel
theorem dX4_addPartsTo_1 : decode cX4_addPartsTo 1 = .ok (.istore_n 3, 1) := by decide +kernel
theorem dX4_addPartsTo_2 : decode cX4_addPartsTo 2 = .ok (.iconst 0, 1) := by decide +kernel
theorem dX4_addPartsTo_3 : decode cX4_addPartsTo 3 = .ok (.istore 4, 2) := by decide +kernel
theorem dX4_addPartsTo_5 : decode cX4_addPartsTo 5 = .ok (.iload 4, 2) := by decide +kernel
theorem dX4_addPartsTo_7 : decode cX4_addPartsTo 7 = .ok (.iload_n 2, 1) := by decide +kernel
theorem dX4_addPartsTo_8 : decode cX4_addPartsTo 8 = .ok (.if_icmp .ge 75, 3) := by decide +kernel
theorem dX4_addPartsTo_11 : decode cX4_addPartsTo 11 = .ok (.iload_n 3, 1) := by decide +kernel
theorem dX4_addPartsTo_12 : decode cX4_addPartsTo 12 = .ok (.iconst 1, 1) := by decide +kernel
theorem dX4_addPartsTo_13 : decode cX4_addPartsTo 13 = .ok (.iadd, 1) := by decide +kernel
theorem dX4_addPartsTo_14 : decode cX4_addPartsTo 14 = .ok (.istore 5, 2) := by decide +kernel
theorem dX4_addPartsTo_16 : decode cX4_addPartsTo 16 = .ok (.aload_n 0, 1) := by decide +kernel
theorem dX4_addPartsTo_17 : decode cX4_addPartsTo 17 = .ok (.iload 5, 2) := by decide +kernel
theorem dX4_addPartsTo_19 : decode cX4_addPartsTo 19 = .ok (.invokevirtual 32, 3) := by decide +kernel
theorem dX4_addPartsTo_22 : decode cX4_addPartsTo 22 = .ok (.istore 6, 2) := by decide +kernel
theorem dX4_addPartsTo_24 : decode cX4_addPartsTo 24 = .ok (.aload_n 0, 1) := by decide +kernel
theorem dX4_addPartsTo_25 : decode cX4_addPartsTo 25 = .ok (.iload 6, 2) := by decide +kernel
theorem dX4_addPartsTo_27 : decode cX4_addPartsTo 27 = .ok (.iconst 1, 1) := by decide +kernel
theorem dX4_addPartsTo_28 : decode cX4_addPartsTo 28 = .ok (.iadd, 1) := by decide +kernel
theorem dX4_addPartsTo_29 : decode cX4_addPartsTo 29 = .ok (.invokevirtual 35, 3) := by decide +kernel
theorem dX4_addPartsTo_32 : decode cX4_addPartsTo 32 = .ok (.istore 7, 2) := by decide +kernel
theorem dX4_addPartsTo_34 : decode cX4_addPartsTo 34 = .ok (.aload_n 1, 1) := by decide +kernel
theorem dX4_addPartsTo_35 : decode cX4_addPartsTo 35 = .ok (.aload_n 0, 1) := by decide +kernel
theorem dX4_addPartsTo_36 : decode cX4_addPartsTo 36 = .ok (.iload_n 3, 1) := by decide +kernel
theorem dX4_addPartsTo_37 : decode cX4_addPartsTo 37 = .ok (.invokevirtual 24, 3) := by decide +kernel
theorem dX4_addPartsTo_40 : decode cX4_addPartsTo 40 = .ok (.bipush 112, 2) := by decide +kernel
theorem dX4_addPartsTo_42 : decode cX4_addPartsTo 42 = .ok (.if_icmp .ne 7, 3) := by decide +kernel
theorem dX4_addPartsTo_45 : decode cX4_addPartsTo 45 = .ok (.iconst 1, 1) := by decide +kernel
theorem dX4_addPartsTo_46 : decode cX4_addPartsTo 46 = .ok (.goto 4, 3) := by decide +kernel
theorem dX4_addPartsTo_49 : decode cX4_addPartsTo 49 = .ok (.iconst 0, 1) := by decide +kernel
theorem dX4_addPartsTo_50 : decode cX4_addPartsTo 50 = .ok (.aload_n 0, 1) := by decide +kernel
theorem dX4_addPartsTo_51 : decode cX4_addPartsTo 51 = .ok (.iload 5, 2) := by decide +kernel
theorem dX4_addPartsTo_53 : decode cX4_addPartsTo 53 = .ok (.iload 6, 2) := by decide +kernel
theorem dX4_addPartsTo_55 : decode cX4_addPartsTo 55 = .ok (.invokevirtual 46, 3) := by decide +kernel
theorem dX4_addPartsTo_58 : decode cX4_addPartsTo 58 = .ok (.aload_n 0, 1) := by decide +kernel
theorem dX4_addPartsTo_59 : decode cX4_addPartsTo 59 = .ok (.iload 6, 2) := by decide +kernel
theorem dX4_addPartsTo_61 : decode cX4_addPartsTo 61 = .ok (.iconst 1, 1) := by decide +kernel
theorem dX4_addPartsTo_62 : decode cX4_addPartsTo 62 = .ok (.iadd, 1) := by decide +kernel
theorem dX4_addPartsTo_63 : decode cX4_addPartsTo 63 = .ok (.iload 7, 2) := by decide +kernel
theorem dX4_addPartsTo_65 : decode cX4_addPartsTo 65 = .ok (.invokevirtual 46, 3) := by decide +kernel
theorem dX4_addPartsTo_68 : decode cX4_addPartsTo 68 = .ok (.invokevirtual 49, 3) := by decide +kernel
theorem dX4_addPartsTo_71 : decode cX4_addPartsTo 71 = .ok (.pop, 1) := by decide +kernel
theorem dX4_addPartsTo_72 : decode cX4_addPartsTo 72 = .ok (.iload 7, 2) := by decide +kernel
theorem dX4_addPartsTo_74 : decode cX4_addPartsTo 74 = .ok (.iconst 1, 1) := by decide +kernel
theorem dX4_addPartsTo_75 : decode cX4_addPartsTo 75 = .ok (.iadd, 1) := by decide +kernel
theorem dX4_addPartsTo_76 : decode cX4_addPartsTo 76 = .ok (.istore_n 3, 1) := by decide +kernel
theorem dX4_addPartsTo_77 : decode cX4_addPartsTo 77 = .ok (.iinc 4 1, 3) := by decide +kernel
theorem dX4_addPartsTo_80 : decode cX4_addPartsTo 80 = .ok (.goto (-75), 3) := by decide +kernel
theorem dX4_addPartsTo_83 : decode cX4_addPartsTo 83 = .ok (.return_, 1) := by decide +kernel
abbrev rmX4_addPartsTo : Room := { frames := 4, cells := 0, slots := 0, locals := 86 }
def w_X4_addPartsTo_L5 (n : Nat) (K : Mem → Prop) : Nat → Mem → Nat → Nat → Int32 → Int32 → Int32 → Prop
  | 0, _, _, _, _, _, _ => False
  | fuel + 1, M, o0, o1, a2, a3, a4 => ((a2 ≤ a4 → K M) ∧ (¬ a2 ≤ a4 → (∀ x1, x1 = a3 + (1 : Int32) → ((o0 ≤ n ∧ kd o0 = (4, 0)) ∧ w_X4_behindLeak n M o0 x1 (fun x4 M3 => w_X4_behindVolume n M3 o0 (x4 + (1 : Int32)) (fun x6 M5 => w_X4_signAt n M5 o0 a3 (fun x8 M7 => ((¬ x8 = (112 : Int32) → w_X4_wholeIn n M7 o0 x1 x4 (fun x10 M9 => w_X4_wholeIn n M9 o0 (x4 + (1 : Int32)) x6 (fun x12 M11 => ((o1 ≤ n ∧ kd o1 = (0, 0)) ∧ w_X0_addPart n M11 o1 (0 : Int32) x10 x12 (fun x15 M14 => (∀ x16, x16 = x6 + (1 : Int32) → (∀ x17, x17 = a4 + (1 : Int32) → w_X4_addPartsTo_L5 n K fuel M14 o0 o1 a2 x16 x17))))))) ∧ (x8 = (112 : Int32) → w_X4_wholeIn n M7 o0 x1 x4 (fun x19 M18 => w_X4_wholeIn n M18 o0 (x4 + (1 : Int32)) x6 (fun x21 M20 => ((o1 ≤ n ∧ kd o1 = (0, 0)) ∧ w_X0_addPart n M20 o1 (1 : Int32) x19 x21 (fun x24 M23 => (∀ x25, x25 = x6 + (1 : Int32) → (∀ x26, x26 = a4 + (1 : Int32) → w_X4_addPartsTo_L5 n K fuel M23 o0 o1 a2 x25 x26)))))))))))))))
def w_X4_addPartsTo (n : Nat) (M : Mem) (t : Nat) (p1 : Nat) (p2 : Int32) (K : Mem → Prop) : Prop := w_X4_addPartsTo_L5 n K 4000 M t p1 p2 (0 : Int32) (0 : Int32)
set_option maxHeartbeats 4000000 in
set_option maxRecDepth 20000 in
theorem c_X4_addPartsTo (l : Launch) (E : Gl) (n : Nat) (M : Mem) (t : Nat) (p1 : Nat) (p2 : Int32) (K : Mem → Prop) (hw : w_X4_addPartsTo n M t p1 p2 K) : CT E l yX4_addPartsTo cX4_addPartsTo 8 none rmX4_addPartsTo n M [rV t, rV p1, iV p2] (PV E n K) := by
  refine g_met l (by decide) (Nat.le_of_ble_eq_true rfl) ?_
  intro p e s m args below meth c X hr hlk hnm hSz hOld
  change CX E p s m c _ _ RX4 at X
  have L5 : ∀ (fuel5 : Nat) (M : Mem) (o0 : Nat) (o1 : Nat) (a2 : Int32) (a3 : Int32) (a4 : Int32), w_X4_addPartsTo_L5 n K fuel5 M o0 o1 a2 a3 a4 → G E p l e rmX4_addPartsTo s m args below meth c 8 n M 0 0 (MQD lw_cs below (PV E n K) args s rmX4_addPartsTo.cells rmX4_addPartsTo.slots (Ab E)) 5 [(0, rV o0), (1, rV o1), (2, iV a2), (3, iV a3), (4, iV a4)] [] := by
    intro fuel5
    induction fuel5 with
    | zero => intro M o0 o1 a2 a3 a4 hw; exact False.elim hw
    | succ fuel5 ih5 =>
      intro M o0 o1 a2 a3 a4 hw
      unfold w_X4_addPartsTo_L5 at hw
      refine g_iload X dX4_addPartsTo_5 4 rfl ?_
      refine g_iload_n X dX4_addPartsTo_7 2 rfl ?_
      refine g_icmp_ge X 83 dX4_addPartsTo_8 (by decide) hw (fun hw => ?_) (fun hw => ?_)
      · exact g_vret X hr hlk hSz hOld (Nat.le_refl _) dX4_addPartsTo_83 hw
      · refine g_iload_n X dX4_addPartsTo_11 3 rfl ?_
        refine g_iconst X (1 : Int32) dX4_addPartsTo_12 (by decide) ?_
        refine g_iadd X dX4_addPartsTo_13 ?_
        refine g_topI (fun x1 hx1 => ?_)
        have hw := hw x1 hx1
        refine g_istore (lv' := [(5, iV x1), (0, rV o0), (1, rV o1), (2, iV a2), (3, iV a3), (4, iV a4)]) X dX4_addPartsTo_14 (by decide) rfl ?_
        refine g_aload_n X dX4_addPartsTo_16 1 rfl ?_
        refine g_iload X dX4_addPartsTo_17 0 rfl ?_
        obtain ⟨hk2, hw⟩ := hw
        refine g_calli (pc' := 22) (rest := []) rfl (fun H locs ls d qR qL => g_runV X cw_X4_32 iv_X4_behindLeak ⟨Nat.le_of_ble_eq_true rfl, Nat.le_of_ble_eq_true rfl⟩ dX4_addPartsTo_19 (c_X4_behindLeak l E n M o0 x1 _ hw) hk2 rfl rfl (Nat.le_of_ble_eq_true rfl) ⟨Nat.le_of_ble_eq_true rfl, Nat.le_of_ble_eq_true rfl⟩ qR qL) (fun x4 M3 hw => ?_)
        refine g_istore (lv' := [(6, iV x4), (5, iV x1), (0, rV o0), (1, rV o1), (2, iV a2), (3, iV a3), (4, iV a4)]) X dX4_addPartsTo_22 (by decide) rfl ?_
        refine g_aload_n X dX4_addPartsTo_24 2 rfl ?_
        refine g_iload X dX4_addPartsTo_25 0 rfl ?_
        refine g_iconst X (1 : Int32) dX4_addPartsTo_27 (by decide) ?_
        refine g_iadd X dX4_addPartsTo_28 ?_
        refine g_calli (pc' := 32) (rest := []) rfl (fun H locs ls d qR qL => g_runV X cw_X4_35 iv_X4_behindVolume ⟨Nat.le_of_ble_eq_true rfl, Nat.le_of_ble_eq_true rfl⟩ dX4_addPartsTo_29 (c_X4_behindVolume l E n M3 o0 (x4 + (1 : Int32)) _ hw) hk2 rfl rfl (Nat.le_of_ble_eq_true rfl) ⟨Nat.le_of_ble_eq_true rfl, Nat.le_of_ble_eq_true rfl⟩ qR qL) (fun x6 M5 hw => ?_)
        refine g_istore (lv' := [(7, iV x6), (6, iV x4), (5, iV x1), (0, rV o0), (1, rV o1), (2, iV a2), (3, iV a3), (4, iV a4)]) X dX4_addPartsTo_32 (by decide) rfl ?_
        refine g_aload_n X dX4_addPartsTo_34 4 rfl ?_
        refine g_aload_n X dX4_addPartsTo_35 3 rfl ?_
        refine g_iload_n X dX4_addPartsTo_36 6 rfl ?_
        refine g_calli (pc' := 40) (rest := [rV o1]) rfl (fun H locs ls d qR qL => g_runV X cw_X4_24 iv_X4_signAt ⟨Nat.le_of_ble_eq_true rfl, Nat.le_of_ble_eq_true rfl⟩ dX4_addPartsTo_37 (c_X4_signAt l E n M5 o0 a3 _ hw) hk2 rfl rfl (Nat.le_of_ble_eq_true rfl) ⟨Nat.le_of_ble_eq_true rfl, Nat.le_of_ble_eq_true rfl⟩ qR qL) (fun x8 M7 hw => ?_)
        refine g_bipush X (112 : Int32) dX4_addPartsTo_40 (by decide) ?_
        refine g_icmp_ne X 49 dX4_addPartsTo_42 (by decide) hw (fun hw => ?_) (fun hw => ?_)
        · refine g_iconst X (0 : Int32) dX4_addPartsTo_49 (by decide) ?_
          refine g_aload_n X dX4_addPartsTo_50 3 rfl ?_
          refine g_iload X dX4_addPartsTo_51 2 rfl ?_
          refine g_iload X dX4_addPartsTo_53 1 rfl ?_
          refine g_calli (pc' := 58) (rest := [iV (0 : Int32), rV o1]) rfl (fun H locs ls d qR qL => g_runV X cw_X4_46 iv_X4_wholeIn ⟨Nat.le_of_ble_eq_true rfl, Nat.le_of_ble_eq_true rfl⟩ dX4_addPartsTo_55 (c_X4_wholeIn l E n M7 o0 x1 x4 _ hw) hk2 rfl rfl (Nat.le_of_ble_eq_true rfl) ⟨Nat.le_of_ble_eq_true rfl, Nat.le_of_ble_eq_true rfl⟩ qR qL) (fun x10 M9 hw => ?_)
          refine g_aload_n X dX4_addPartsTo_58 3 rfl ?_
          refine g_iload X dX4_addPartsTo_59 1 rfl ?_
          refine g_iconst X (1 : Int32) dX4_addPartsTo_61 (by decide) ?_
          refine g_iadd X dX4_addPartsTo_62 ?_
          refine g_iload X dX4_addPartsTo_63 0 rfl ?_
          refine g_calli (pc' := 68) (rest := [iV x10, iV (0 : Int32), rV o1]) rfl (fun H locs ls d qR qL => g_runV X cw_X4_46 iv_X4_wholeIn ⟨Nat.le_of_ble_eq_true rfl, Nat.le_of_ble_eq_true rfl⟩ dX4_addPartsTo_65 (c_X4_wholeIn l E n M9 o0 (x4 + (1 : Int32)) x6 _ hw) hk2 rfl rfl (Nat.le_of_ble_eq_true rfl) ⟨Nat.le_of_ble_eq_true rfl, Nat.le_of_ble_eq_true rfl⟩ qR qL) (fun x12 M11 hw => ?_)
          obtain ⟨hk13, hw⟩ := hw
          refine g_calli (pc' := 71) (rest := []) rfl (fun H locs ls d qR qL => g_runV X cw_X4_49 iv_X0_addPart ⟨Nat.le_of_ble_eq_true rfl, Nat.le_of_ble_eq_true rfl⟩ dX4_addPartsTo_68 (c_X0_addPart l E n M11 o1 (0 : Int32) x10 x12 _ hw) hk13 rfl rfl (Nat.le_of_ble_eq_true rfl) ⟨Nat.le_of_ble_eq_true rfl, Nat.le_of_ble_eq_true rfl⟩ qR qL) (fun x15 M14 hw => ?_)
          refine g_pop X dX4_addPartsTo_71 rfl ?_
          refine g_iload X dX4_addPartsTo_72 0 rfl ?_
          refine g_iconst X (1 : Int32) dX4_addPartsTo_74 (by decide) ?_
          refine g_iadd X dX4_addPartsTo_75 ?_
          refine g_topI (fun x16 hx16 => ?_)
          have hw := hw x16 hx16
          refine g_istore_n (lv' := [(3, iV x16), (7, iV x6), (6, iV x4), (5, iV x1), (0, rV o0), (1, rV o1), (2, iV a2), (4, iV a4)]) X dX4_addPartsTo_76 (by decide) rfl ?_
          obtain ⟨x17, hx17⟩ : ∃ y : Int32, y = a4 + (1 : Int32) := ⟨_, rfl⟩
          have hw := hw x17 hx17
          refine g_iinc (lv' := [(4, iV x17), (3, iV x16), (7, iV x6), (6, iV x4), (5, iV x1), (0, rV o0), (1, rV o1), (2, iV a2)]) X x17 dX4_addPartsTo_77 7 rfl (by rw [hx17]; rfl) (by decide) rfl ?_
          refine g_goto X 5 dX4_addPartsTo_80 (by decide) ?_
          refine g_lvsub (lv' := [(0, rV o0), (1, rV o1), (2, iV a2), (3, iV x16), (4, iV x17)]) [5, 6, 7, 1, 0] rfl ?_
          exact ih5 _ _ _ _ _ _ hw
        · refine g_iconst X (1 : Int32) dX4_addPartsTo_45 (by decide) ?_
          refine g_goto X 50 dX4_addPartsTo_46 (by decide) ?_
          refine g_aload_n X dX4_addPartsTo_50 3 rfl ?_
          refine g_iload X dX4_addPartsTo_51 2 rfl ?_
          refine g_iload X dX4_addPartsTo_53 1 rfl ?_
          refine g_calli (pc' := 58) (rest := [iV (1 : Int32), rV o1]) rfl (fun H locs ls d qR qL => g_runV X cw_X4_46 iv_X4_wholeIn ⟨Nat.le_of_ble_eq_true rfl, Nat.le_of_ble_eq_true rfl⟩ dX4_addPartsTo_55 (c_X4_wholeIn l E n M7 o0 x1 x4 _ hw) hk2 rfl rfl (Nat.le_of_ble_eq_true rfl) ⟨Nat.le_of_ble_eq_true rfl, Nat.le_of_ble_eq_true rfl⟩ qR qL) (fun x19 M18 hw => ?_)
          refine g_aload_n X dX4_addPartsTo_58 3 rfl ?_
          refine g_iload X dX4_addPartsTo_59 1 rfl ?_
          refine g_iconst X (1 : Int32) dX4_addPartsTo_61 (by decide) ?_
          refine g_iadd X dX4_addPartsTo_62 ?_
          refine g_iload X dX4_addPartsTo_63 0 rfl ?_
          refine g_calli (pc' := 68) (rest := [iV x19, iV (1 : Int32), rV o1]) rfl (fun H locs ls d qR qL => g_runV X cw_X4_46 iv_X4_wholeIn ⟨Nat.le_of_ble_eq_true rfl, Nat.le_of_ble_eq_true rfl⟩ dX4_addPartsTo_65 (c_X4_wholeIn l E n M18 o0 (x4 + (1 : Int32)) x6 _ hw) hk2 rfl rfl (Nat.le_of_ble_eq_true rfl) ⟨Nat.le_of_ble_eq_true rfl, Nat.le_of_ble_eq_true rfl⟩ qR qL) (fun x21 M20 hw => ?_)
          obtain ⟨hk22, hw⟩ := hw
          refine g_calli (pc' := 71) (rest := []) rfl (fun H locs ls d qR qL => g_runV X cw_X4_49 iv_X0_addPart ⟨Nat.le_of_ble_eq_true rfl, Nat.le_of_ble_eq_true rfl⟩ dX4_addPartsTo_68 (c_X0_addPart l E n M20 o1 (1 : Int32) x19 x21 _ hw) hk22 rfl rfl (Nat.le_of_ble_eq_true rfl) ⟨Nat.le_of_ble_eq_true rfl, Nat.le_of_ble_eq_true rfl⟩ qR qL) (fun x24 M23 hw => ?_)
          refine g_pop X dX4_addPartsTo_71 rfl ?_
          refine g_iload X dX4_addPartsTo_72 0 rfl ?_
          refine g_iconst X (1 : Int32) dX4_addPartsTo_74 (by decide) ?_
          refine g_iadd X dX4_addPartsTo_75 ?_
          refine g_topI (fun x25 hx25 => ?_)
          have hw := hw x25 hx25
          refine g_istore_n (lv' := [(3, iV x25), (7, iV x6), (6, iV x4), (5, iV x1), (0, rV o0), (1, rV o1), (2, iV a2), (4, iV a4)]) X dX4_addPartsTo_76 (by decide) rfl ?_
          obtain ⟨x26, hx26⟩ : ∃ y : Int32, y = a4 + (1 : Int32) := ⟨_, rfl⟩
          have hw := hw x26 hx26
          refine g_iinc (lv' := [(4, iV x26), (3, iV x25), (7, iV x6), (6, iV x4), (5, iV x1), (0, rV o0), (1, rV o1), (2, iV a2)]) X x26 dX4_addPartsTo_77 7 rfl (by rw [hx26]; rfl) (by decide) rfl ?_
          refine g_goto X 5 dX4_addPartsTo_80 (by decide) ?_
          refine g_lvsub (lv' := [(0, rV o0), (1, rV o1), (2, iV a2), (3, iV x25), (4, iV x26)]) [5, 6, 7, 1, 0] rfl ?_
          exact ih5 _ _ _ _ _ _ hw
  unfold w_X4_addPartsTo at hw
  refine g_iconst X (0 : Int32) dX4_addPartsTo_0 (by decide) ?_
  refine g_istore_n (lv' := [(3, iV (0 : Int32)), (0, rV t), (1, rV p1), (2, iV p2)]) X dX4_addPartsTo_1 (by decide) rfl ?_
  refine g_iconst X (0 : Int32) dX4_addPartsTo_2 (by decide) ?_
  refine g_istore (lv' := [(4, iV (0 : Int32)), (3, iV (0 : Int32)), (0, rV t), (1, rV p1), (2, iV p2)]) X dX4_addPartsTo_3 (by decide) rfl ?_
  refine g_lvsub (lv' := [(0, rV t), (1, rV p1), (2, iV p2), (3, iV (0 : Int32)), (4, iV (0 : Int32))]) [2, 3, 4, 1, 0] rfl ?_
  exact L5 _ _ _ _ _ _ _ hw
