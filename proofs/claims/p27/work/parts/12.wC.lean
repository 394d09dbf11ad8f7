/-! written by wip/p27/gen out of the bytecode -/
theorem wm_X5_1 : Cond.methodLink RX5 1 objectInit ∈ lwG := lwG_of (tb1 _ (List.mem_of_getElem? (i := 16) (by decide +kernel))) (by decide +kernel)
theorem wl_X5_7 : Cond.classLink RX5 7 RX0 ∈ lwG := lwG_of (tb1 _ (List.mem_of_getElem? (i := 19) (by decide +kernel))) (by decide +kernel)
theorem wx_X0 : Cond.instantiable RX0 10 ∈ lwG := lwG_of (tb1 _ (List.mem_of_getElem? (i := 20) (by decide +kernel))) (by decide +kernel)
theorem wc_X0_init : Cond.code yX0_init cX0_init 2 none ∈ lwG := lwG_of (tb1 _ (List.mem_of_getElem? (i := 23) (by decide +kernel))) (by decide +kernel)
theorem wm_X5_9 : Cond.methodLink RX5 9 yX0_init ∈ lwG := lwG_of (tb1 _ (List.mem_of_getElem? (i := 21) (by decide +kernel))) (by decide +kernel)
theorem cw_X5_9 : CW RX5 9 yX0_init cX0_init 2 none 0 := ⟨by decide +kernel, by decide +kernel, wc_X0_init, wi_X0, wm_X5_9⟩
theorem wn_X0_init : Cond.instanceMethod yX0_init ∈ lwG := lwG_of (tb1 _ (List.mem_of_getElem? (i := 22) (by decide +kernel))) (by decide +kernel)
theorem wfl_X5_10 : Cond.fieldLink RX5 10 RX5 "now" "LLeakCarousel$Carousel;" ∈ lwG := lwG_of (tb2 _ (List.mem_of_getElem? (i := 22) (by decide +kernel))) (by decide +kernel)
theorem fl_X5_10 : FL RX5 10 5 0 := ⟨by decide, by decide, rfl, wfl_X5_10⟩
theorem wfl_X5_16 : Cond.fieldLink RX5 16 RX5 "history" "[LLeakCarousel$Carousel;" ∈ lwG := lwG_of (tb2 _ (List.mem_of_getElem? (i := 23) (by decide +kernel))) (by decide +kernel)
theorem fl_X5_16 : FL RX5 16 5 1 := ⟨by decide, by decide, rfl, wfl_X5_16⟩
theorem wfl_X5_20 : Cond.fieldLink RX5 20 RX5 "snapshot" "LLeakCarousel$Carousel;" ∈ lwG := lwG_of (tb2 _ (List.mem_of_getElem? (i := 24) (by decide +kernel))) (by decide +kernel)
theorem fl_X5_20 : FL RX5 20 5 2 := ⟨by decide, by decide, rfl, wfl_X5_20⟩
theorem wl_X5_23 : Cond.classLink RX5 23 RX4 ∈ lwG := lwG_of (tb2 _ (List.mem_of_getElem? (i := 7) (by decide +kernel))) (by decide +kernel)
theorem wx_X4 : Cond.instantiable RX4 2 ∈ lwG := lwG_of (tb2 _ (List.mem_of_getElem? (i := 8) (by decide +kernel))) (by decide +kernel)
theorem wc_X4_init : Cond.code yX4_init cX4_init 1 none ∈ lwG := lwG_of (tb2 _ (List.mem_of_getElem? (i := 11) (by decide +kernel))) (by decide +kernel)
theorem wm_X5_25 : Cond.methodLink RX5 25 yX4_init ∈ lwG := lwG_of (tb2 _ (List.mem_of_getElem? (i := 9) (by decide +kernel))) (by decide +kernel)
theorem cw_X5_25 : CW RX5 25 yX4_init cX4_init 1 none 0 := ⟨by decide +kernel, by decide +kernel, wc_X4_init, wi_X4, wm_X5_25⟩
theorem wn_X4_init : Cond.instanceMethod yX4_init ∈ lwG := lwG_of (tb2 _ (List.mem_of_getElem? (i := 10) (by decide +kernel))) (by decide +kernel)
theorem wfl_X5_26 : Cond.fieldLink RX5 26 RX5 "text" "LLeakCarousel$Text;" ∈ lwG := lwG_of (tb2 _ (List.mem_of_getElem? (i := 25) (by decide +kernel))) (by decide +kernel)
theorem fl_X5_26 : FL RX5 26 5 3 := ⟨by decide, by decide, rfl, wfl_X5_26⟩
theorem wfl_X5_30 : Cond.fieldLink RX5 30 RX5 "recorded" "I" ∈ lwG := lwG_of (tb2 _ (List.mem_of_getElem? (i := 26) (by decide +kernel))) (by decide +kernel)
theorem fl_X5_30 : FL RX5 30 5 4 := ⟨by decide, by decide, rfl, wfl_X5_30⟩
theorem wfl_X5_34 : Cond.fieldLink RX5 34 RX5 "kept" "Z" ∈ lwG := lwG_of (tb2 _ (List.mem_of_getElem? (i := 27) (by decide +kernel))) (by decide +kernel)
theorem fl_X5_34 : FL RX5 34 5 5 := ⟨by decide, by decide, rfl, wfl_X5_34⟩
theorem wc_X0_copyOf : Cond.code yX0_copyOf cX0_copyOf 3 none ∈ lwG := lwG_of (tb2 _ (List.mem_of_getElem? (i := 56) (by decide +kernel))) (by decide +kernel)
theorem wm_X5_141 : Cond.methodLink RX5 141 yX0_copyOf ∈ lwG := lwG_of (tb2 _ (List.mem_of_getElem? (i := 53) (by decide +kernel))) (by decide +kernel)
theorem cw_X5_141 : CW RX5 141 yX0_copyOf cX0_copyOf 3 none 1 := ⟨by decide +kernel, by decide +kernel, wc_X0_copyOf, wi_X0, wm_X5_141⟩
theorem wn_X0_copyOf : Cond.instanceMethod yX0_copyOf ∈ lwG := lwG_of (tb2 _ (List.mem_of_getElem? (i := 54) (by decide +kernel))) (by decide +kernel)
theorem ws_X0_copyOf : Cond.selects RX0 yX0_copyOf yX0_copyOf ∈ lwG := lwG_of (tb2 _ (List.mem_of_getElem? (i := 55) (by decide +kernel))) (by decide +kernel)
theorem iv_X0_copyOf : Cond.instanceMethod yX0_copyOf ∈ lwG ∧ Cond.selects (fC 0) yX0_copyOf yX0_copyOf ∈ lwG ∧ 0 < 7 := ⟨wn_X0_copyOf, ws_X0_copyOf, by decide⟩
theorem wc_X5_dropOldest : Cond.code yX5_dropOldest cX5_dropOldest 3 none ∈ lwG := lwG_of (tb2 _ (List.mem_of_getElem? (i := 52) (by decide +kernel))) (by decide +kernel)
theorem wm_X5_246 : Cond.methodLink RX5 246 yX5_dropOldest ∈ lwG := lwG_of (tb2 _ (List.mem_of_getElem? (i := 49) (by decide +kernel))) (by decide +kernel)
theorem cw_X5_246 : CW RX5 246 yX5_dropOldest cX5_dropOldest 3 none 0 := ⟨by decide +kernel, by decide +kernel, wc_X5_dropOldest, wi_X5, wm_X5_246⟩
theorem wn_X5_dropOldest : Cond.instanceMethod yX5_dropOldest ∈ lwG := lwG_of (tb2 _ (List.mem_of_getElem? (i := 51) (by decide +kernel))) (by decide +kernel)
theorem ws_X5_dropOldest : Cond.selects RX5 yX5_dropOldest yX5_dropOldest ∈ lwG := lwG_of (tb0 _ (List.mem_of_getElem? (i := 1) (by decide +kernel))) (by decide +kernel)
theorem iv_X5_dropOldest : Cond.instanceMethod yX5_dropOldest ∈ lwG ∧ Cond.selects (fC 5) yX5_dropOldest yX5_dropOldest ∈ lwG ∧ 5 < 7 := ⟨wn_X5_dropOldest, ws_X5_dropOldest, by decide⟩
theorem wc_X5_remember : Cond.code yX5_remember cX5_remember 1 none ∈ lwG := lwG_of (tb2 _ (List.mem_of_getElem? (i := 48) (by decide +kernel))) (by decide +kernel)
theorem wm_X5_38 : Cond.methodLink RX5 38 yX5_remember ∈ lwG := lwG_of (tb2 _ (List.mem_of_getElem? (i := 45) (by decide +kernel))) (by decide +kernel)
theorem cw_X5_38 : CW RX5 38 yX5_remember cX5_remember 1 none 0 := ⟨by decide +kernel, by decide +kernel, wc_X5_remember, wi_X5, wm_X5_38⟩
theorem wn_X5_remember : Cond.instanceMethod yX5_remember ∈ lwG := lwG_of (tb2 _ (List.mem_of_getElem? (i := 47) (by decide +kernel))) (by decide +kernel)
theorem ws_X5_remember : Cond.selects RX5 yX5_remember yX5_remember ∈ lwG := lwG_of (tb0 _ (List.mem_of_getElem? (i := 0) (by decide +kernel))) (by decide +kernel)
theorem iv_X5_remember : Cond.instanceMethod yX5_remember ∈ lwG ∧ Cond.selects (fC 5) yX5_remember yX5_remember ∈ lwG ∧ 5 < 7 := ⟨wn_X5_remember, ws_X5_remember, by decide⟩
theorem wfl_X5_41 : Cond.fieldLink RX5 41 RX0 "partCount" "I" ∈ lwG := lwG_of (tb1 _ (List.mem_of_getElem? (i := 221) (by decide +kernel))) (by decide +kernel)
theorem fl_X5_41 : FL RX5 41 0 7 := ⟨by decide, by decide, rfl, wfl_X5_41⟩
theorem wc_X0_begin : Cond.code yX0_begin cX0_begin 6 none ∈ lwG := lwG_of (tb2 _ (List.mem_of_getElem? (i := 72) (by decide +kernel))) (by decide +kernel)
theorem wm_X5_44 : Cond.methodLink RX5 44 yX0_begin ∈ lwG := lwG_of (tb2 _ (List.mem_of_getElem? (i := 69) (by decide +kernel))) (by decide +kernel)
theorem cw_X5_44 : CW RX5 44 yX0_begin cX0_begin 6 none 1 := ⟨by decide +kernel, by decide +kernel, wc_X0_begin, wi_X0, wm_X5_44⟩
theorem wn_X0_begin : Cond.instanceMethod yX0_begin ∈ lwG := lwG_of (tb2 _ (List.mem_of_getElem? (i := 70) (by decide +kernel))) (by decide +kernel)
theorem ws_X0_begin : Cond.selects RX0 yX0_begin yX0_begin ∈ lwG := lwG_of (tb2 _ (List.mem_of_getElem? (i := 71) (by decide +kernel))) (by decide +kernel)
theorem iv_X0_begin : Cond.instanceMethod yX0_begin ∈ lwG ∧ Cond.selects (fC 0) yX0_begin yX0_begin ∈ lwG ∧ 0 < 7 := ⟨wn_X0_begin, ws_X0_begin, by decide⟩
theorem wc_X0_pressureAt : Cond.code yX0_pressureAt cX0_pressureAt 2 (some (.object "LeakCarousel$Pressure")) ∈ lwG := lwG_of (tb3 _ (List.mem_of_getElem? (i := 61) (by decide +kernel))) (by decide +kernel)
theorem wm_X5_48 : Cond.methodLink RX5 48 yX0_pressureAt ∈ lwG := lwG_of (tb3 _ (List.mem_of_getElem? (i := 58) (by decide +kernel))) (by decide +kernel)
theorem cw_X5_48 : CW RX5 48 yX0_pressureAt cX0_pressureAt 2 (some (.object "LeakCarousel$Pressure")) 1 := ⟨by decide +kernel, by decide +kernel, wc_X0_pressureAt, wi_X0, wm_X5_48⟩
theorem wn_X0_pressureAt : Cond.instanceMethod yX0_pressureAt ∈ lwG := lwG_of (tb3 _ (List.mem_of_getElem? (i := 59) (by decide +kernel))) (by decide +kernel)
theorem ws_X0_pressureAt : Cond.selects RX0 yX0_pressureAt yX0_pressureAt ∈ lwG := lwG_of (tb3 _ (List.mem_of_getElem? (i := 60) (by decide +kernel))) (by decide +kernel)
theorem iv_X0_pressureAt : Cond.instanceMethod yX0_pressureAt ∈ lwG ∧ Cond.selects (fC 0) yX0_pressureAt yX0_pressureAt ∈ lwG ∧ 0 < 7 := ⟨wn_X0_pressureAt, ws_X0_pressureAt, by decide⟩
theorem wfl_X5_52 : Cond.fieldLink RX5 52 RX3 "least" "J" ∈ lwG := lwG_of (tb1 _ (List.mem_of_getElem? (i := 42) (by decide +kernel))) (by decide +kernel)
theorem fl_X5_52 : FL RX5 52 3 0 := ⟨by decide, by decide, rfl, wfl_X5_52⟩
theorem wfl_X5_58 : Cond.fieldLink RX5 58 RX3 "most" "J" ∈ lwG := lwG_of (tb1 _ (List.mem_of_getElem? (i := 44) (by decide +kernel))) (by decide +kernel)
theorem fl_X5_58 : FL RX5 58 3 1 := ⟨by decide, by decide, rfl, wfl_X5_58⟩
theorem wfl_X5_61 : Cond.fieldLink RX5 61 RX3 "bits" "J" ∈ lwG := lwG_of (tb1 _ (List.mem_of_getElem? (i := 46) (by decide +kernel))) (by decide +kernel)
theorem fl_X5_61 : FL RX5 61 3 2 := ⟨by decide, by decide, rfl, wfl_X5_61⟩
theorem wc_X3_become : Cond.code yX3_become cX3_become 3 none ∈ lwG := lwG_of (tb3 _ (List.mem_of_getElem? (i := 166) (by decide +kernel))) (by decide +kernel)
theorem wm_X5_64 : Cond.methodLink RX5 64 yX3_become ∈ lwG := lwG_of (tb3 _ (List.mem_of_getElem? (i := 163) (by decide +kernel))) (by decide +kernel)
theorem cw_X5_64 : CW RX5 64 yX3_become cX3_become 3 none 1 := ⟨by decide +kernel, by decide +kernel, wc_X3_become, wi_X3, wm_X5_64⟩
theorem wn_X3_become : Cond.instanceMethod yX3_become ∈ lwG := lwG_of (tb3 _ (List.mem_of_getElem? (i := 164) (by decide +kernel))) (by decide +kernel)
theorem ws_X3_become : Cond.selects RX3 yX3_become yX3_become ∈ lwG := lwG_of (tb3 _ (List.mem_of_getElem? (i := 165) (by decide +kernel))) (by decide +kernel)
theorem iv_X3_become : Cond.instanceMethod yX3_become ∈ lwG ∧ Cond.selects (fC 3) yX3_become yX3_become ∈ lwG ∧ 3 < 7 := ⟨wn_X3_become, ws_X3_become, by decide⟩
theorem wfl_X5_68 : Cond.fieldLink RX5 68 RX0 "interval" "I" ∈ lwG := lwG_of (tb1 _ (List.mem_of_getElem? (i := 217) (by decide +kernel))) (by decide +kernel)
theorem fl_X5_68 : FL RX5 68 0 5 := ⟨by decide, by decide, rfl, wfl_X5_68⟩
theorem wm_X5_71 : Cond.methodLink RX5 71 yX0_headAt ∈ lwG := lwG_of (tb2 _ (List.mem_of_getElem? (i := 79) (by decide +kernel))) (by decide +kernel)
theorem cw_X5_71 : CW RX5 71 yX0_headAt cX0_headAt 3 (some (.object "LeakCarousel$Head")) 1 := ⟨by decide +kernel, by decide +kernel, wc_X0_headAt, wi_X0, wm_X5_71⟩
theorem wfl_X5_75 : Cond.fieldLink RX5 75 RX1 "wear" "I" ∈ lwG := lwG_of (tb1 _ (List.mem_of_getElem? (i := 81) (by decide +kernel))) (by decide +kernel)
theorem fl_X5_75 : FL RX5 75 1 3 := ⟨by decide, by decide, rfl, wfl_X5_75⟩
theorem wfl_X5_80 : Cond.fieldLink RX5 80 RX1 "fixture" "I" ∈ lwG := lwG_of (tb1 _ (List.mem_of_getElem? (i := 84) (by decide +kernel))) (by decide +kernel)
theorem fl_X5_80 : FL RX5 80 1 4 := ⟨by decide, by decide, rfl, wfl_X5_80⟩
theorem wk_X5_83 : Cond.constant RX5 83 (99999) ∈ lwG := lwG_of (tb2 _ (List.mem_of_getElem? (i := 83) (by decide +kernel))) (by decide +kernel)
theorem wfl_X5_84 : Cond.fieldLink RX5 84 RX1 "part" "I" ∈ lwG := lwG_of (tb1 _ (List.mem_of_getElem? (i := 89) (by decide +kernel))) (by decide +kernel)
theorem fl_X5_84 : FL RX5 84 1 6 := ⟨by decide, by decide, rfl, wfl_X5_84⟩
theorem wfl_X5_87 : Cond.fieldLink RX5 87 RX1 "testsSince" "I" ∈ lwG := lwG_of (tb1 _ (List.mem_of_getElem? (i := 86) (by decide +kernel))) (by decide +kernel)
theorem fl_X5_87 : FL RX5 87 1 5 := ⟨by decide, by decide, rfl, wfl_X5_87⟩
theorem wc_X0_calibrateWith : Cond.code yX0_calibrateWith cX0_calibrateWith 7 none ∈ lwG := lwG_of (tb2 _ (List.mem_of_getElem? (i := 87) (by decide +kernel))) (by decide +kernel)
theorem wm_X5_90 : Cond.methodLink RX5 90 yX0_calibrateWith ∈ lwG := lwG_of (tb2 _ (List.mem_of_getElem? (i := 84) (by decide +kernel))) (by decide +kernel)
theorem cw_X5_90 : CW RX5 90 yX0_calibrateWith cX0_calibrateWith 7 none 2 := ⟨by decide +kernel, by decide +kernel, wc_X0_calibrateWith, wi_X0, wm_X5_90⟩
theorem wn_X0_calibrateWith : Cond.instanceMethod yX0_calibrateWith ∈ lwG := lwG_of (tb2 _ (List.mem_of_getElem? (i := 85) (by decide +kernel))) (by decide +kernel)
theorem ws_X0_calibrateWith : Cond.selects RX0 yX0_calibrateWith yX0_calibrateWith ∈ lwG := lwG_of (tb2 _ (List.mem_of_getElem? (i := 86) (by decide +kernel))) (by decide +kernel)
theorem iv_X0_calibrateWith : Cond.instanceMethod yX0_calibrateWith ∈ lwG ∧ Cond.selects (fC 0) yX0_calibrateWith yX0_calibrateWith ∈ lwG ∧ 0 < 7 := ⟨wn_X0_calibrateWith, ws_X0_calibrateWith, by decide⟩
theorem wm_X5_94 : Cond.methodLink RX5 94 yX0_addPart ∈ lwG := lwG_of (tb3 _ (List.mem_of_getElem? (i := 218) (by decide +kernel))) (by decide +kernel)
theorem cw_X5_94 : CW RX5 94 yX0_addPart cX0_addPart 5 (some .int) 3 := ⟨by decide +kernel, by decide +kernel, wc_X0_addPart, wi_X0, wm_X5_94⟩
theorem wc_X0_step : Cond.code yX0_step cX0_step 3 (some .boolean) ∈ lwG := lwG_of (tb2 _ (List.mem_of_getElem? (i := 207) (by decide +kernel))) (by decide +kernel)
theorem wm_X5_249 : Cond.methodLink RX5 249 yX0_step ∈ lwG := lwG_of (tb2 _ (List.mem_of_getElem? (i := 204) (by decide +kernel))) (by decide +kernel)
theorem cw_X5_249 : CW RX5 249 yX0_step cX0_step 3 (some .boolean) 0 := ⟨by decide +kernel, by decide +kernel, wc_X0_step, wi_X0, wm_X5_249⟩
theorem wn_X0_step : Cond.instanceMethod yX0_step ∈ lwG := lwG_of (tb2 _ (List.mem_of_getElem? (i := 205) (by decide +kernel))) (by decide +kernel)
theorem ws_X0_step : Cond.selects RX0 yX0_step yX0_step ∈ lwG := lwG_of (tb2 _ (List.mem_of_getElem? (i := 206) (by decide +kernel))) (by decide +kernel)
theorem iv_X0_step : Cond.instanceMethod yX0_step ∈ lwG ∧ Cond.selects (fC 0) yX0_step yX0_step ∈ lwG ∧ 0 < 7 := ⟨wn_X0_step, ws_X0_step, by decide⟩
theorem wc_X5_doSteps : Cond.code yX5_doSteps cX5_doSteps 4 (some .int) ∈ lwG := lwG_of (tb2 _ (List.mem_of_getElem? (i := 203) (by decide +kernel))) (by decide +kernel)
theorem wm_X5_98 : Cond.methodLink RX5 98 yX5_doSteps ∈ lwG := lwG_of (tb2 _ (List.mem_of_getElem? (i := 200) (by decide +kernel))) (by decide +kernel)
theorem cw_X5_98 : CW RX5 98 yX5_doSteps cX5_doSteps 4 (some .int) 1 := ⟨by decide +kernel, by decide +kernel, wc_X5_doSteps, wi_X5, wm_X5_98⟩
theorem wn_X5_doSteps : Cond.instanceMethod yX5_doSteps ∈ lwG := lwG_of (tb2 _ (List.mem_of_getElem? (i := 202) (by decide +kernel))) (by decide +kernel)
theorem ws_X5_doSteps : Cond.selects RX5 yX5_doSteps yX5_doSteps ∈ lwG := lwG_of (tb0 _ (List.mem_of_getElem? (i := 8) (by decide +kernel))) (by decide +kernel)
theorem iv_X5_doSteps : Cond.instanceMethod yX5_doSteps ∈ lwG ∧ Cond.selects (fC 5) yX5_doSteps yX5_doSteps ∈ lwG ∧ 5 < 7 := ⟨wn_X5_doSteps, ws_X5_doSteps, by decide⟩
theorem wc_X4_append : Cond.code yX4_append cX4_append 2 (some .int) ∈ lwG := lwG_of (tb3 _ (List.mem_of_getElem? (i := 198) (by decide +kernel))) (by decide +kernel)
theorem wm_X5_102 : Cond.methodLink RX5 102 yX4_append ∈ lwG := lwG_of (tb3 _ (List.mem_of_getElem? (i := 195) (by decide +kernel))) (by decide +kernel)
theorem cw_X5_102 : CW RX5 102 yX4_append cX4_append 2 (some .int) 1 := ⟨by decide +kernel, by decide +kernel, wc_X4_append, wi_X4, wm_X5_102⟩
theorem wn_X4_append : Cond.instanceMethod yX4_append ∈ lwG := lwG_of (tb3 _ (List.mem_of_getElem? (i := 196) (by decide +kernel))) (by decide +kernel)
theorem ws_X4_append : Cond.selects RX4 yX4_append yX4_append ∈ lwG := lwG_of (tb3 _ (List.mem_of_getElem? (i := 197) (by decide +kernel))) (by decide +kernel)
theorem iv_X4_append : Cond.instanceMethod yX4_append ∈ lwG ∧ Cond.selects (fC 4) yX4_append yX4_append ∈ lwG ∧ 4 < 7 := ⟨wn_X4_append, ws_X4_append, by decide⟩
theorem wfl_X5_106 : Cond.fieldLink RX5 106 RX4 "length" "I" ∈ lwG := lwG_of (tb2 _ (List.mem_of_getElem? (i := 15) (by decide +kernel))) (by decide +kernel)
theorem fl_X5_106 : FL RX5 106 4 1 := ⟨by decide, by decide, rfl, wfl_X5_106⟩
theorem wc_X4_firstFault : Cond.code yX4_firstFault cX4_firstFault 7 (some .int) ∈ lwG := lwG_of (tb2 _ (List.mem_of_getElem? (i := 101) (by decide +kernel))) (by decide +kernel)
theorem wm_X5_109 : Cond.methodLink RX5 109 yX4_firstFault ∈ lwG := lwG_of (tb2 _ (List.mem_of_getElem? (i := 98) (by decide +kernel))) (by decide +kernel)
theorem cw_X5_109 : CW RX5 109 yX4_firstFault cX4_firstFault 7 (some .int) 0 := ⟨by decide +kernel, by decide +kernel, wc_X4_firstFault, wi_X4, wm_X5_109⟩
theorem wn_X4_firstFault : Cond.instanceMethod yX4_firstFault ∈ lwG := lwG_of (tb2 _ (List.mem_of_getElem? (i := 99) (by decide +kernel))) (by decide +kernel)
theorem ws_X4_firstFault : Cond.selects RX4 yX4_firstFault yX4_firstFault ∈ lwG := lwG_of (tb2 _ (List.mem_of_getElem? (i := 100) (by decide +kernel))) (by decide +kernel)
theorem iv_X4_firstFault : Cond.instanceMethod yX4_firstFault ∈ lwG ∧ Cond.selects (fC 4) yX4_firstFault yX4_firstFault ∈ lwG ∧ 4 < 7 := ⟨wn_X4_firstFault, ws_X4_firstFault, by decide⟩
theorem wc_X4_partsTold : Cond.code yX4_partsTold cX4_partsTold 3 (some .int) ∈ lwG := lwG_of (tb2 _ (List.mem_of_getElem? (i := 125) (by decide +kernel))) (by decide +kernel)
theorem wm_X5_113 : Cond.methodLink RX5 113 yX4_partsTold ∈ lwG := lwG_of (tb2 _ (List.mem_of_getElem? (i := 122) (by decide +kernel))) (by decide +kernel)
theorem cw_X5_113 : CW RX5 113 yX4_partsTold cX4_partsTold 3 (some .int) 0 := ⟨by decide +kernel, by decide +kernel, wc_X4_partsTold, wi_X4, wm_X5_113⟩
theorem wn_X4_partsTold : Cond.instanceMethod yX4_partsTold ∈ lwG := lwG_of (tb2 _ (List.mem_of_getElem? (i := 123) (by decide +kernel))) (by decide +kernel)
theorem ws_X4_partsTold : Cond.selects RX4 yX4_partsTold yX4_partsTold ∈ lwG := lwG_of (tb2 _ (List.mem_of_getElem? (i := 124) (by decide +kernel))) (by decide +kernel)
theorem iv_X4_partsTold : Cond.instanceMethod yX4_partsTold ∈ lwG ∧ Cond.selects (fC 4) yX4_partsTold yX4_partsTold ∈ lwG ∧ 4 < 7 := ⟨wn_X4_partsTold, ws_X4_partsTold, by decide⟩
theorem wc_X4_addPartsTo : Cond.code yX4_addPartsTo cX4_addPartsTo 8 none ∈ lwG := lwG_of (tb2 _ (List.mem_of_getElem? (i := 129) (by decide +kernel))) (by decide +kernel)
theorem wm_X5_116 : Cond.methodLink RX5 116 yX4_addPartsTo ∈ lwG := lwG_of (tb2 _ (List.mem_of_getElem? (i := 126) (by decide +kernel))) (by decide +kernel)
theorem cw_X5_116 : CW RX5 116 yX4_addPartsTo cX4_addPartsTo 8 none 2 := ⟨by decide +kernel, by decide +kernel, wc_X4_addPartsTo, wi_X4, wm_X5_116⟩
theorem wn_X4_addPartsTo : Cond.instanceMethod yX4_addPartsTo ∈ lwG := lwG_of (tb2 _ (List.mem_of_getElem? (i := 127) (by decide +kernel))) (by decide +kernel)
theorem ws_X4_addPartsTo : Cond.selects RX4 yX4_addPartsTo yX4_addPartsTo ∈ lwG := lwG_of (tb2 _ (List.mem_of_getElem? (i := 128) (by decide +kernel))) (by decide +kernel)
theorem iv_X4_addPartsTo : Cond.instanceMethod yX4_addPartsTo ∈ lwG ∧ Cond.selects (fC 4) yX4_addPartsTo yX4_addPartsTo ∈ lwG ∧ 4 < 7 := ⟨wn_X4_addPartsTo, ws_X4_addPartsTo, by decide⟩
theorem wm_X5_234 : Cond.methodLink RX5 234 yX0_partsIn ∈ lwG := lwG_of (tb3 _ (List.mem_of_getElem? (i := 25) (by decide +kernel))) (by decide +kernel)
theorem cw_X5_234 : CW RX5 234 yX0_partsIn cX0_partsIn 7 (some .int) 1 := ⟨by decide +kernel, by decide +kernel, wc_X0_partsIn, wi_X0, wm_X5_234⟩
theorem wc_X0_takeFromHeads : Cond.code yX0_takeFromHeads cX0_takeFromHeads 3 none ∈ lwG := lwG_of (tb3 _ (List.mem_of_getElem? (i := 38) (by decide +kernel))) (by decide +kernel)
theorem wm_X5_255 : Cond.methodLink RX5 255 yX0_takeFromHeads ∈ lwG := lwG_of (tb3 _ (List.mem_of_getElem? (i := 35) (by decide +kernel))) (by decide +kernel)
theorem cw_X5_255 : CW RX5 255 yX0_takeFromHeads cX0_takeFromHeads 3 none 0 := ⟨by decide +kernel, by decide +kernel, wc_X0_takeFromHeads, wi_X0, wm_X5_255⟩
theorem wn_X0_takeFromHeads : Cond.instanceMethod yX0_takeFromHeads ∈ lwG := lwG_of (tb3 _ (List.mem_of_getElem? (i := 36) (by decide +kernel))) (by decide +kernel)
theorem ws_X0_takeFromHeads : Cond.selects RX0 yX0_takeFromHeads yX0_takeFromHeads ∈ lwG := lwG_of (tb3 _ (List.mem_of_getElem? (i := 37) (by decide +kernel))) (by decide +kernel)
theorem iv_X0_takeFromHeads : Cond.instanceMethod yX0_takeFromHeads ∈ lwG ∧ Cond.selects (fC 0) yX0_takeFromHeads yX0_takeFromHeads ∈ lwG ∧ 0 < 7 := ⟨wn_X0_takeFromHeads, ws_X0_takeFromHeads, by decide⟩
theorem wc_X0_rejectWaiting : Cond.code yX0_rejectWaiting cX0_rejectWaiting 5 none ∈ lwG := lwG_of (tb3 _ (List.mem_of_getElem? (i := 29) (by decide +kernel))) (by decide +kernel)
theorem wm_X5_252 : Cond.methodLink RX5 252 yX0_rejectWaiting ∈ lwG := lwG_of (tb3 _ (List.mem_of_getElem? (i := 26) (by decide +kernel))) (by decide +kernel)
theorem cw_X5_252 : CW RX5 252 yX0_rejectWaiting cX0_rejectWaiting 5 none 0 := ⟨by decide +kernel, by decide +kernel, wc_X0_rejectWaiting, wi_X0, wm_X5_252⟩
theorem wn_X0_rejectWaiting : Cond.instanceMethod yX0_rejectWaiting ∈ lwG := lwG_of (tb3 _ (List.mem_of_getElem? (i := 27) (by decide +kernel))) (by decide +kernel)
theorem ws_X0_rejectWaiting : Cond.selects RX0 yX0_rejectWaiting yX0_rejectWaiting ∈ lwG := lwG_of (tb3 _ (List.mem_of_getElem? (i := 28) (by decide +kernel))) (by decide +kernel)
theorem iv_X0_rejectWaiting : Cond.instanceMethod yX0_rejectWaiting ∈ lwG ∧ Cond.selects (fC 0) yX0_rejectWaiting yX0_rejectWaiting ∈ lwG ∧ 0 < 7 := ⟨wn_X0_rejectWaiting, ws_X0_rejectWaiting, by decide⟩
theorem wc_X4_reads : Cond.code yX4_reads cX4_reads 3 (some .boolean) ∈ lwG := lwG_of (tb2 _ (List.mem_of_getElem? (i := 151) (by decide +kernel))) (by decide +kernel)
theorem wm_X5_122 : Cond.methodLink RX5 122 yX4_reads ∈ lwG := lwG_of (tb2 _ (List.mem_of_getElem? (i := 148) (by decide +kernel))) (by decide +kernel)
theorem cw_X5_122 : CW RX5 122 yX4_reads cX4_reads 3 (some .boolean) 1 := ⟨by decide +kernel, by decide +kernel, wc_X4_reads, wi_X4, wm_X5_122⟩
theorem wn_X4_reads : Cond.instanceMethod yX4_reads ∈ lwG := lwG_of (tb2 _ (List.mem_of_getElem? (i := 149) (by decide +kernel))) (by decide +kernel)
theorem ws_X4_reads : Cond.selects RX4 yX4_reads yX4_reads ∈ lwG := lwG_of (tb2 _ (List.mem_of_getElem? (i := 150) (by decide +kernel))) (by decide +kernel)
theorem iv_X4_reads : Cond.instanceMethod yX4_reads ∈ lwG ∧ Cond.selects (fC 4) yX4_reads yX4_reads ∈ lwG ∧ 4 < 7 := ⟨wn_X4_reads, ws_X4_reads, by decide⟩
theorem wc_X5_clearHeads : Cond.code yX5_clearHeads cX5_clearHeads 2 (some .int) ∈ lwG := lwG_of (tb3 _ (List.mem_of_getElem? (i := 34) (by decide +kernel))) (by decide +kernel)
theorem wm_X5_138 : Cond.methodLink RX5 138 yX5_clearHeads ∈ lwG := lwG_of (tb3 _ (List.mem_of_getElem? (i := 31) (by decide +kernel))) (by decide +kernel)
theorem cw_X5_138 : CW RX5 138 yX5_clearHeads cX5_clearHeads 2 (some .int) 0 := ⟨by decide +kernel, by decide +kernel, wc_X5_clearHeads, wi_X5, wm_X5_138⟩
theorem wn_X5_clearHeads : Cond.instanceMethod yX5_clearHeads ∈ lwG := lwG_of (tb3 _ (List.mem_of_getElem? (i := 33) (by decide +kernel))) (by decide +kernel)
theorem ws_X5_clearHeads : Cond.selects RX5 yX5_clearHeads yX5_clearHeads ∈ lwG := lwG_of (tb0 _ (List.mem_of_getElem? (i := 18) (by decide +kernel))) (by decide +kernel)
theorem iv_X5_clearHeads : Cond.instanceMethod yX5_clearHeads ∈ lwG ∧ Cond.selects (fC 5) yX5_clearHeads yX5_clearHeads ∈ lwG ∧ 5 < 7 := ⟨wn_X5_clearHeads, ws_X5_clearHeads, by decide⟩
theorem wc_X5_stopWaiting : Cond.code yX5_stopWaiting cX5_stopWaiting 2 (some .int) ∈ lwG := lwG_of (tb3 _ (List.mem_of_getElem? (i := 24) (by decide +kernel))) (by decide +kernel)
theorem wm_X5_133 : Cond.methodLink RX5 133 yX5_stopWaiting ∈ lwG := lwG_of (tb3 _ (List.mem_of_getElem? (i := 21) (by decide +kernel))) (by decide +kernel)
theorem cw_X5_133 : CW RX5 133 yX5_stopWaiting cX5_stopWaiting 2 (some .int) 0 := ⟨by decide +kernel, by decide +kernel, wc_X5_stopWaiting, wi_X5, wm_X5_133⟩
theorem wn_X5_stopWaiting : Cond.instanceMethod yX5_stopWaiting ∈ lwG := lwG_of (tb3 _ (List.mem_of_getElem? (i := 23) (by decide +kernel))) (by decide +kernel)
theorem ws_X5_stopWaiting : Cond.selects RX5 yX5_stopWaiting yX5_stopWaiting ∈ lwG := lwG_of (tb0 _ (List.mem_of_getElem? (i := 17) (by decide +kernel))) (by decide +kernel)
theorem iv_X5_stopWaiting : Cond.instanceMethod yX5_stopWaiting ∈ lwG ∧ Cond.selects (fC 5) yX5_stopWaiting yX5_stopWaiting ∈ lwG ∧ 5 < 7 := ⟨wn_X5_stopWaiting, ws_X5_stopWaiting, by decide⟩
theorem wfl_X5_128 : Cond.fieldLink RX5 128 RX0 "headCount" "I" ∈ lwG := lwG_of (tb1 _ (List.mem_of_getElem? (i := 219) (by decide +kernel))) (by decide +kernel)
theorem fl_X5_128 : FL RX5 128 0 6 := ⟨by decide, by decide, rfl, wfl_X5_128⟩
theorem wfl_X5_145 : Cond.fieldLink RX5 145 RX1 "tests" "I" ∈ lwG := lwG_of (tb1 _ (List.mem_of_getElem? (i := 102) (by decide +kernel))) (by decide +kernel)
theorem fl_X5_145 : FL RX5 145 1 10 := ⟨by decide, by decide, rfl, wfl_X5_145⟩
theorem wfl_X5_148 : Cond.fieldLink RX5 148 RX1 "accepted" "I" ∈ lwG := lwG_of (tb1 _ (List.mem_of_getElem? (i := 105) (by decide +kernel))) (by decide +kernel)
theorem fl_X5_148 : FL RX5 148 1 11 := ⟨by decide, by decide, rfl, wfl_X5_148⟩
theorem wfl_X5_151 : Cond.fieldLink RX5 151 RX1 "rejected" "I" ∈ lwG := lwG_of (tb1 _ (List.mem_of_getElem? (i := 108) (by decide +kernel))) (by decide +kernel)
theorem fl_X5_151 : FL RX5 151 1 12 := ⟨by decide, by decide, rfl, wfl_X5_151⟩
theorem wfl_X5_154 : Cond.fieldLink RX5 154 RX1 "retests" "I" ∈ lwG := lwG_of (tb1 _ (List.mem_of_getElem? (i := 111) (by decide +kernel))) (by decide +kernel)
theorem fl_X5_154 : FL RX5 154 1 13 := ⟨by decide, by decide, rfl, wfl_X5_154⟩
theorem wc_X0_stepsUntil : Cond.code yX0_stepsUntil cX0_stepsUntil 3 (some .int) ∈ lwG := lwG_of (tb3 _ (List.mem_of_getElem? (i := 99) (by decide +kernel))) (by decide +kernel)
theorem wm_X5_157 : Cond.methodLink RX5 157 yX0_stepsUntil ∈ lwG := lwG_of (tb3 _ (List.mem_of_getElem? (i := 96) (by decide +kernel))) (by decide +kernel)
theorem cw_X5_157 : CW RX5 157 yX0_stepsUntil cX0_stepsUntil 3 (some .int) 1 := ⟨by decide +kernel, by decide +kernel, wc_X0_stepsUntil, wi_X0, wm_X5_157⟩
theorem wn_X0_stepsUntil : Cond.instanceMethod yX0_stepsUntil ∈ lwG := lwG_of (tb3 _ (List.mem_of_getElem? (i := 97) (by decide +kernel))) (by decide +kernel)
theorem ws_X0_stepsUntil : Cond.selects RX0 yX0_stepsUntil yX0_stepsUntil ∈ lwG := lwG_of (tb3 _ (List.mem_of_getElem? (i := 98) (by decide +kernel))) (by decide +kernel)
theorem iv_X0_stepsUntil : Cond.instanceMethod yX0_stepsUntil ∈ lwG ∧ Cond.selects (fC 0) yX0_stepsUntil yX0_stepsUntil ∈ lwG ∧ 0 < 7 := ⟨wn_X0_stepsUntil, ws_X0_stepsUntil, by decide⟩
theorem wc_X5_notANumber : Cond.code yX5_notANumber cX5_notANumber 0 (some .double) ∈ lwG := lwG_of (tb3 _ (List.mem_of_getElem? (i := 125) (by decide +kernel))) (by decide +kernel)
theorem wm_X5_161 : Cond.methodLink RX5 161 yX5_notANumber ∈ lwG := lwG_of (tb3 _ (List.mem_of_getElem? (i := 123) (by decide +kernel))) (by decide +kernel)
theorem cw_X5_161 : CW RX5 161 yX5_notANumber cX5_notANumber 0 (some .double) 0 := ⟨by decide +kernel, by decide +kernel, wc_X5_notANumber, wi_X5, wm_X5_161⟩
theorem wt_X5_notANumber : Cond.static yX5_notANumber ∈ lwG := lwG_of (tb3 _ (List.mem_of_getElem? (i := 124) (by decide +kernel))) (by decide +kernel)
theorem wfl_X5_175 : Cond.fieldLink RX5 175 RX1 "pressure" "D" ∈ lwG := lwG_of (tb1 _ (List.mem_of_getElem? (i := 96) (by decide +kernel))) (by decide +kernel)
theorem fl_X5_175 : FL RX5 175 1 8 := ⟨by decide, by decide, rfl, wfl_X5_175⟩
theorem wfl_X5_172 : Cond.fieldLink RX5 172 RX1 "filled" "D" ∈ lwG := lwG_of (tb1 _ (List.mem_of_getElem? (i := 93) (by decide +kernel))) (by decide +kernel)
theorem fl_X5_172 : FL RX5 172 1 7 := ⟨by decide, by decide, rfl, wfl_X5_172⟩
theorem wfl_X5_169 : Cond.fieldLink RX5 169 RX1 "factor" "D" ∈ lwG := lwG_of (tb1 _ (List.mem_of_getElem? (i := 78) (by decide +kernel))) (by decide +kernel)
theorem fl_X5_169 : FL RX5 169 1 2 := ⟨by decide, by decide, rfl, wfl_X5_169⟩
theorem wfl_X5_165 : Cond.fieldLink RX5 165 RX1 "gain" "D" ∈ lwG := lwG_of (tb1 _ (List.mem_of_getElem? (i := 76) (by decide +kernel))) (by decide +kernel)
theorem fl_X5_165 : FL RX5 165 1 1 := ⟨by decide, by decide, rfl, wfl_X5_165⟩
theorem wc_X5_bitsOf : Cond.code yX5_bitsOf cX5_bitsOf 5 (some .int) ∈ lwG := lwG_of (tb3 _ (List.mem_of_getElem? (i := 106) (by decide +kernel))) (by decide +kernel)
theorem wm_X5_178 : Cond.methodLink RX5 178 yX5_bitsOf ∈ lwG := lwG_of (tb3 _ (List.mem_of_getElem? (i := 104) (by decide +kernel))) (by decide +kernel)
theorem cw_X5_178 : CW RX5 178 yX5_bitsOf cX5_bitsOf 5 (some .int) 1 := ⟨by decide +kernel, by decide +kernel, wc_X5_bitsOf, wi_X5, wm_X5_178⟩
theorem wt_X5_bitsOf : Cond.static yX5_bitsOf ∈ lwG := lwG_of (tb3 _ (List.mem_of_getElem? (i := 105) (by decide +kernel))) (by decide +kernel)
theorem wm_X5_182 : Cond.methodLink RX5 182 yX0_partAt ∈ lwG := lwG_of (tb3 _ (List.mem_of_getElem? (i := 52) (by decide +kernel))) (by decide +kernel)
theorem cw_X5_182 : CW RX5 182 yX0_partAt cX0_partAt 3 (some (.object "LeakCarousel$Part")) 1 := ⟨by decide +kernel, by decide +kernel, wc_X0_partAt, wi_X0, wm_X5_182⟩
theorem wfl_X5_186 : Cond.fieldLink RX5 186 RX2 "pipe" "Z" ∈ lwG := lwG_of (tb1 _ (List.mem_of_getElem? (i := 160) (by decide +kernel))) (by decide +kernel)
theorem fl_X5_186 : FL RX5 186 2 1 := ⟨by decide, by decide, rfl, wfl_X5_186⟩
theorem wfl_X5_191 : Cond.fieldLink RX5 191 RX2 "leak" "I" ∈ lwG := lwG_of (tb1 _ (List.mem_of_getElem? (i := 163) (by decide +kernel))) (by decide +kernel)
theorem fl_X5_191 : FL RX5 191 2 2 := ⟨by decide, by decide, rfl, wfl_X5_191⟩
theorem wfl_X5_194 : Cond.fieldLink RX5 194 RX2 "volume" "I" ∈ lwG := lwG_of (tb1 _ (List.mem_of_getElem? (i := 166) (by decide +kernel))) (by decide +kernel)
theorem fl_X5_194 : FL RX5 194 2 3 := ⟨by decide, by decide, rfl, wfl_X5_194⟩
theorem wfl_X5_197 : Cond.fieldLink RX5 197 RX2 "state" "I" ∈ lwG := lwG_of (tb1 _ (List.mem_of_getElem? (i := 169) (by decide +kernel))) (by decide +kernel)
theorem fl_X5_197 : FL RX5 197 2 4 := ⟨by decide, by decide, rfl, wfl_X5_197⟩
theorem wfl_X5_200 : Cond.fieldLink RX5 200 RX2 "tests" "I" ∈ lwG := lwG_of (tb1 _ (List.mem_of_getElem? (i := 175) (by decide +kernel))) (by decide +kernel)
theorem fl_X5_200 : FL RX5 200 2 6 := ⟨by decide, by decide, rfl, wfl_X5_200⟩
theorem wfl_X5_201 : Cond.fieldLink RX5 201 RX2 "retests" "I" ∈ lwG := lwG_of (tb1 _ (List.mem_of_getElem? (i := 178) (by decide +kernel))) (by decide +kernel)
theorem fl_X5_201 : FL RX5 201 2 7 := ⟨by decide, by decide, rfl, wfl_X5_201⟩
theorem wfl_X5_202 : Cond.fieldLink RX5 202 RX2 "latestHead" "I" ∈ lwG := lwG_of (tb1 _ (List.mem_of_getElem? (i := 181) (by decide +kernel))) (by decide +kernel)
theorem fl_X5_202 : FL RX5 202 2 8 := ⟨by decide, by decide, rfl, wfl_X5_202⟩
theorem wfl_X5_205 : Cond.fieldLink RX5 205 RX2 "cause" "I" ∈ lwG := lwG_of (tb1 _ (List.mem_of_getElem? (i := 186) (by decide +kernel))) (by decide +kernel)
theorem fl_X5_205 : FL RX5 205 2 10 := ⟨by decide, by decide, rfl, wfl_X5_205⟩
theorem wfl_X5_208 : Cond.fieldLink RX5 208 RX2 "place" "I" ∈ lwG := lwG_of (tb1 _ (List.mem_of_getElem? (i := 172) (by decide +kernel))) (by decide +kernel)
theorem fl_X5_208 : FL RX5 208 2 5 := ⟨by decide, by decide, rfl, wfl_X5_208⟩
theorem wm_X5_211 : Cond.methodLink RX5 211 yX1_takes ∈ lwG := lwG_of (tb3 _ (List.mem_of_getElem? (i := 53) (by decide +kernel))) (by decide +kernel)
theorem cw_X5_211 : CW RX5 211 yX1_takes cX1_takes 2 (some .boolean) 1 := ⟨by decide +kernel, by decide +kernel, wc_X1_takes, wi_X1, wm_X5_211⟩
theorem wfl_X5_215 : Cond.fieldLink RX5 215 RX2 "latestValue" "D" ∈ lwG := lwG_of (tb1 _ (List.mem_of_getElem? (i := 184) (by decide +kernel))) (by decide +kernel)
theorem fl_X5_215 : FL RX5 215 2 9 := ⟨by decide, by decide, rfl, wfl_X5_215⟩
theorem wk_X5_222 : Cond.constantLong RX5 222 (-2) ∈ lwG := lwG_of (tb3 _ (List.mem_of_getElem? (i := 62) (by decide +kernel))) (by decide +kernel)
theorem wfl_X5_224 : Cond.fieldLink RX5 224 RX1 "stepsSince" "I" ∈ lwG := lwG_of (tb1 _ (List.mem_of_getElem? (i := 99) (by decide +kernel))) (by decide +kernel)
theorem fl_X5_224 : FL RX5 224 1 9 := ⟨by decide, by decide, rfl, wfl_X5_224⟩
theorem wm_X5_227 : Cond.methodLink RX5 227 yX5_decayed ∈ lwG := lwG_of (tb3 _ (List.mem_of_getElem? (i := 137) (by decide +kernel))) (by decide +kernel)
theorem cw_X5_227 : CW RX5 227 yX5_decayed cX5_decayed 10 (some .double) 4 := ⟨by decide +kernel, by decide +kernel, wc_X5_decayed, wi_X5, wm_X5_227⟩
theorem wfl_X5_231 : Cond.fieldLink RX5 231 RX0 "steps" "I" ∈ lwG := lwG_of (tb1 _ (List.mem_of_getElem? (i := 223) (by decide +kernel))) (by decide +kernel)
theorem fl_X5_231 : FL RX5 231 0 8 := ⟨by decide, by decide, rfl, wfl_X5_231⟩
theorem wc_X0_testsEnded : Cond.code yX0_testsEnded cX0_testsEnded 6 (some .int) ∈ lwG := lwG_of (tb3 _ (List.mem_of_getElem? (i := 70) (by decide +kernel))) (by decide +kernel)
theorem wm_X5_237 : Cond.methodLink RX5 237 yX0_testsEnded ∈ lwG := lwG_of (tb3 _ (List.mem_of_getElem? (i := 67) (by decide +kernel))) (by decide +kernel)
theorem cw_X5_237 : CW RX5 237 yX0_testsEnded cX0_testsEnded 6 (some .int) 0 := ⟨by decide +kernel, by decide +kernel, wc_X0_testsEnded, wi_X0, wm_X5_237⟩
theorem wn_X0_testsEnded : Cond.instanceMethod yX0_testsEnded ∈ lwG := lwG_of (tb3 _ (List.mem_of_getElem? (i := 68) (by decide +kernel))) (by decide +kernel)
theorem ws_X0_testsEnded : Cond.selects RX0 yX0_testsEnded yX0_testsEnded ∈ lwG := lwG_of (tb3 _ (List.mem_of_getElem? (i := 69) (by decide +kernel))) (by decide +kernel)
theorem iv_X0_testsEnded : Cond.instanceMethod yX0_testsEnded ∈ lwG ∧ Cond.selects (fC 0) yX0_testsEnded yX0_testsEnded ∈ lwG ∧ 0 < 7 := ⟨wn_X0_testsEnded, ws_X0_testsEnded, by decide⟩
theorem wc_X0_testsRepeated : Cond.code yX0_testsRepeated cX0_testsRepeated 6 (some .int) ∈ lwG := lwG_of (tb3 _ (List.mem_of_getElem? (i := 74) (by decide +kernel))) (by decide +kernel)
theorem wm_X5_240 : Cond.methodLink RX5 240 yX0_testsRepeated ∈ lwG := lwG_of (tb3 _ (List.mem_of_getElem? (i := 71) (by decide +kernel))) (by decide +kernel)
theorem cw_X5_240 : CW RX5 240 yX0_testsRepeated cX0_testsRepeated 6 (some .int) 0 := ⟨by decide +kernel, by decide +kernel, wc_X0_testsRepeated, wi_X0, wm_X5_240⟩
theorem wn_X0_testsRepeated : Cond.instanceMethod yX0_testsRepeated ∈ lwG := lwG_of (tb3 _ (List.mem_of_getElem? (i := 72) (by decide +kernel))) (by decide +kernel)
theorem ws_X0_testsRepeated : Cond.selects RX0 yX0_testsRepeated yX0_testsRepeated ∈ lwG := lwG_of (tb3 _ (List.mem_of_getElem? (i := 73) (by decide +kernel))) (by decide +kernel)
theorem iv_X0_testsRepeated : Cond.instanceMethod yX0_testsRepeated ∈ lwG ∧ Cond.selects (fC 0) yX0_testsRepeated yX0_testsRepeated ∈ lwG ∧ 0 < 7 := ⟨wn_X0_testsRepeated, ws_X0_testsRepeated, by decide⟩
theorem wc_X0_partsRejectedFor : Cond.code yX0_partsRejectedFor cX0_partsRejectedFor 7 (some .int) ∈ lwG := lwG_of (tb3 _ (List.mem_of_getElem? (i := 78) (by decide +kernel))) (by decide +kernel)
theorem wm_X5_243 : Cond.methodLink RX5 243 yX0_partsRejectedFor ∈ lwG := lwG_of (tb3 _ (List.mem_of_getElem? (i := 75) (by decide +kernel))) (by decide +kernel)
theorem cw_X5_243 : CW RX5 243 yX0_partsRejectedFor cX0_partsRejectedFor 7 (some .int) 1 := ⟨by decide +kernel, by decide +kernel, wc_X0_partsRejectedFor, wi_X0, wm_X5_243⟩
theorem wn_X0_partsRejectedFor : Cond.instanceMethod yX0_partsRejectedFor ∈ lwG := lwG_of (tb3 _ (List.mem_of_getElem? (i := 76) (by decide +kernel))) (by decide +kernel)
theorem ws_X0_partsRejectedFor : Cond.selects RX0 yX0_partsRejectedFor yX0_partsRejectedFor ∈ lwG := lwG_of (tb3 _ (List.mem_of_getElem? (i := 77) (by decide +kernel))) (by decide +kernel)
theorem iv_X0_partsRejectedFor : Cond.instanceMethod yX0_partsRejectedFor ∈ lwG ∧ Cond.selects (fC 0) yX0_partsRejectedFor yX0_partsRejectedFor ∈ lwG ∧ 0 < 7 := ⟨wn_X0_partsRejectedFor, ws_X0_partsRejectedFor, by decide⟩
theorem dX5_init_0 : decode cX5_init 0 = .ok (.aload_n 0, 1) := by decide +kernel
theorem dX5_init_1 : decode cX5_init 1 = .ok (.invokespecial 1, 3) := by decide +kernel
theorem dX5_init_4 : decode cX5_init 4 = .ok (.aload_n 0, 1) := by decide +kernel
theorem dX5_init_5 : decode cX5_init 5 = .ok (.new 7, 3) := by decide +kernel
theorem dX5_init_8 : decode cX5_init 8 = .ok (.dup, 1) := by decide +kernel
theorem dX5_init_9 : decode cX5_init 9 = .ok (.invokespecial 9, 3) := by decide +kernel
theorem dX5_init_12 : decode cX5_init 12 = .ok (.putfield 10, 3) := by decide +kernel
theorem dX5_init_15 : decode cX5_init 15 = .ok (.aload_n 0, 1) := by decide +kernel
theorem dX5_init_16 : decode cX5_init 16 = .ok (.iconst 4, 1) := by decide +kernel
theorem dX5_init_17 : decode cX5_init 17 = .ok (.anewarray 7, 3) := by decide +kernel
theorem dX5_init_20 : decode cX5_init 20 = .ok (.putfield 16, 3) := by decide +kernel
theorem dX5_init_23 : decode cX5_init 23 = .ok (.iconst 0, 1) := by decide +kernel
theorem dX5_init_24 : decode cX5_init 24 = .ok (.istore_n 1, 1) := by decide +kernel
theorem dX5_init_25 : decode cX5_init 25 = .ok (.iload_n 1, 1) := by decide +kernel
theorem dX5_init_26 : decode cX5_init 26 = .ok (.aload_n 0, 1) := by decide +kernel
theorem dX5_init_27 : decode cX5_init 27 = .ok (.getfield 16, 3) := by decide +kernel
theorem dX5_init_30 : decode cX5_init 30 = .ok (.arraylength, 1) := by decide +kernel
theorem dX5_init_31 : decode cX5_init 31 = .ok (.if_icmp .ge 22, 3) := by decide +kernel
theorem dX5_init_34 : decode cX5_init 34 = .ok (.aload_n 0, 1) := by decide +kernel
theorem dX5_init_35 : decode cX5_init 35 = .ok (.getfield 16, 3) := by decide +kernel
theorem dX5_init_38 : decode cX5_init 38 = .ok (.iload_n 1, 1) := by decide +kernel
theorem dX5_init_39 : decode cX5_init 39 = .ok (.new 7, 3) := by decide +kernel
theorem dX5_init_42 : decode cX5_init 42 = .ok (.dup, 1) := by decide +kernel
theorem dX5_init_43 : decode cX5_init 43 = .ok (.invokespecial 9, 3) := by decide +kernel
theorem dX5_init_46 : decode cX5_init 46 = .ok (.aastore, 1) := by decide +kernel
theorem dX5_init_47 : decode cX5_init 47 = .ok (.iinc 1 1, 3) := by decide +kernel
theorem dX5_init_50 : decode cX5_init 50 = .ok (.goto (-25), 3) := by decide +kernel
theorem dX5_init_53 : decode cX5_init 53 = .ok (.aload_n 0, 1) := by decide +kernel
theorem dX5_init_54 : decode cX5_init 54 = .ok (.new 7, 3) := by decide +kernel
theorem dX5_init_57 : decode cX5_init 57 = .ok (.dup, 1) := by decide +kernel
theorem dX5_init_58 : decode cX5_init 58 = .ok (.invokespecial 9, 3) := by decide +kernel
theorem dX5_init_61 : decode cX5_init 61 = .ok (.putfield 20, 3) := by decide +kernel
theorem dX5_init_64 : decode cX5_init 64 = .ok (.aload_n 0, 1) := by decide +kernel
theorem dX5_init_65 : decode cX5_init 65 = .ok (.new 23, 3) := by decide +kernel
theorem dX5_init_68 : decode cX5_init 68 = .ok (.dup, 1) := by decide +kernel
theorem dX5_init_69 : decode cX5_init 69 = .ok (.invokespecial 25, 3) := by decide +kernel
theorem dX5_init_72 : decode cX5_init 72 = .ok (.putfield 26, 3) := by decide +kernel
theorem dX5_init_75 : decode cX5_init 75 = .ok (.aload_n 0, 1) := by decide +kernel
theorem dX5_init_76 : decode cX5_init 76 = .ok (.iconst 0, 1) := by decide +kernel
theorem dX5_init_77 : decode cX5_init 77 = .ok (.putfield 30, 3) := by decide +kernel
theorem dX5_init_80 : decode cX5_init 80 = .ok (.aload_n 0, 1) := by decide +kernel
theorem dX5_init_81 : decode cX5_init 81 = .ok (.iconst 0, 1) := by decide +kernel
theorem dX5_init_82 : decode cX5_init 82 = .ok (.putfield 34, 3) := by decide +kernel
theorem dX5_init_85 : decode cX5_init 85 = .ok (.return_, 1) := by decide +kernel
abbrev rmX5_init : Room := { frames := 4, cells := 447, slots := 5238, locals := 86 }
def w_X5_init_L25 (n : Nat) (K : Mem → Prop) : Nat → Nat → Mem → Nat → Int32 → Prop
  | 0, _, _, _, _ => False
  | fuel + 1, k, M, o0, a1 => ((o0 ≤ k ∧ kd o0 = (5, 0)) ∧ (∀ r12, r12 = gR M o0 1 → ((r12 ≤ k ∧ 7 ≤ (kd r12).1 ∧ (kd r12).1 < 13) ∧ (((nI (kd r12).2) ≤ a1 → ((kd (k + 1) = (0, 0) ∧ Al rmX5_init n k) ∧ (∀ M13, M13 = zr M (k + 1) → (∀ r14, r14 = (k + 1) → (((k + 1) - n + rmX0_init.cells ≤ rmX5_init.cells ∧ SL (k + 1) - SL n + rmX0_init.slots ≤ rmX5_init.slots) ∧ (((k + 1) - n + rmX0_init.cells ≤ k + 1 + 73 - n ∧ SL (k + 1) - SL n + rmX0_init.slots ≤ SL (k + 1 + 73) - SL n) ∧ (¬ r14 = 0 ∧ w_X0_init (k + 1) M13 r14  (fun M17 => ((o0 ≤ (k + 1 + 73) ∧ kd o0 = (5, 0)) ∧ (∀ M19, M19 = sR M17 o0 2 r14 → ((kd (k + 1 + 73 + 1) = (4, 0) ∧ Al rmX5_init n (k + 1 + 73)) ∧ (∀ M20, M20 = zr M19 (k + 1 + 73 + 1) → (∀ r21, r21 = (k + 1 + 73 + 1) → (((k + 1 + 73 + 1) - n + rmX4_init.cells ≤ rmX5_init.cells ∧ SL (k + 1 + 73 + 1) - SL n + rmX4_init.slots ≤ rmX5_init.slots) ∧ (((k + 1 + 73 + 1) - n + rmX4_init.cells ≤ k + 1 + 73 + 1 + 1 - n ∧ SL (k + 1 + 73 + 1) - SL n + rmX4_init.slots ≤ SL (k + 1 + 73 + 1 + 1) - SL n) ∧ (¬ r21 = 0 ∧ w_X4_init (k + 1 + 73 + 1) M20 r21  (fun M24 => ((o0 ≤ (k + 1 + 73 + 1 + 1) ∧ kd o0 = (5, 0)) ∧ (∀ M26, M26 = sR M24 o0 3 r21 → (∀ M27, M27 = sI M26 o0 4 (0 : Int32) → (∀ M28, M28 = sI M27 o0 5 (0 : Int32) → (k + 1 + 73 + 1 + 1 = n + 447 ∧ SL (n + 447) ≤ SL n + 5238 ∧ K M28)))))))))))))))))))))) ∧ (¬ (nI (kd r12).2) ≤ a1 → (∀ r29, r29 = gR M o0 1 → ((kd (k + 1) = (0, 0) ∧ Al rmX5_init n k) ∧ (∀ M30, M30 = zr M (k + 1) → (∀ r31, r31 = (k + 1) → (((k + 1) - n + rmX0_init.cells ≤ rmX5_init.cells ∧ SL (k + 1) - SL n + rmX0_init.slots ≤ rmX5_init.slots) ∧ (((k + 1) - n + rmX0_init.cells ≤ k + 1 + 73 - n ∧ SL (k + 1) - SL n + rmX0_init.slots ≤ SL (k + 1 + 73) - SL n) ∧ (¬ r31 = 0 ∧ w_X0_init (k + 1) M30 r31  (fun M34 => ((r29 ≤ (k + 1 + 73) ∧ (10 ≤ (kd r29).1 ∧ (kd r29).1 < 13) ∧ vp_in a1 (kd r29).2 ∧ r31 ≤ (k + 1 + 73) ∧ kd r31 = (elC (kd r29).1, 0)) ∧ (∀ M35, M35 = sR M34 r29 (Int32.toNatClampNeg a1) r31 → (∀ x36, x36 = a1 + (1 : Int32) → w_X5_init_L25 n K fuel (k + 1 + 73) M35 o0 x36))))))))))))))))
def w_X5_init (n : Nat) (M : Mem) (t : Nat) (K : Mem → Prop) : Prop := (¬ t = 0 ∧ ((kd (n + 1) = (0, 0) ∧ Al rmX5_init n n) ∧ (∀ M1, M1 = zr M (n + 1) → (∀ r2, r2 = (n + 1) → (((n + 1) - n + rmX0_init.cells ≤ rmX5_init.cells ∧ SL (n + 1) - SL n + rmX0_init.slots ≤ rmX5_init.slots) ∧ (((n + 1) - n + rmX0_init.cells ≤ n + 1 + 73 - n ∧ SL (n + 1) - SL n + rmX0_init.slots ≤ SL (n + 1 + 73) - SL n) ∧ (¬ r2 = 0 ∧ w_X0_init (n + 1) M1 r2  (fun M5 => ((t ≤ (n + 1 + 73) ∧ kd t = (5, 0)) ∧ (∀ M7, M7 = sR M5 t 0 r2 → ((kd (n + 1 + 73 + 1) = (12, 4) ∧ Al rmX5_init n (n + 1 + 73)) ∧ (∀ M8, M8 = zr M7 (n + 1 + 73 + 1) → ((t ≤ (n + 1 + 73 + 1) ∧ kd t = (5, 0)) ∧ (∀ M10, M10 = sR M8 t 1 (n + 1 + 73 + 1) → w_X5_init_L25 n K 4000 (n + 1 + 73 + 1) M10 t (0 : Int32)))))))))))))))
set_option maxHeartbeats 4000000 in
set_option maxRecDepth 20000 in
theorem c_X5_init (l : Launch) (E : Gl) (n : Nat) (M : Mem) (t : Nat) (K : Mem → Prop) (hw : w_X5_init n M t K) : CT E l yX5_init cX5_init 2 none rmX5_init n M [rV t] (PV E (n + 447) K) := by
  refine g_met l (by decide) (Nat.le_of_ble_eq_true rfl) ?_
  intro p e s m args below meth c X hr hlk hnm hSz hOld
  change CX E p s m c _ _ RX5 at X
  have L25 : ∀ (fuel25 : Nat) (k : Nat) (M : Mem) (o0 : Nat) (a1 : Int32), w_X5_init_L25 n K fuel25 k M o0 a1 → G E p l e rmX5_init s m args below meth c 2 k M (k - n) (SL k - SL n) (MQD lw_cs below (PV E (n + 447) K) args s rmX5_init.cells rmX5_init.slots (Ab E)) 25 [(0, rV o0), (1, iV a1)] [] := by
    intro fuel25
    induction fuel25 with
    | zero => intro k M o0 a1 hw; exact False.elim hw
    | succ fuel25 ih25 =>
      intro k M o0 a1 hw
      unfold w_X5_init_L25 at hw
      refine g_iload_n X dX5_init_25 1 rfl ?_
      refine g_aload_n X dX5_init_26 0 rfl ?_
      obtain ⟨hk11, hw⟩ := hw
      refine g_get X (rV (gR M o0 1)) dX5_init_27 fl_X5_16 (fun _ => rfl) ⟨hk11, hw⟩ (fun hw => ?_)
      refine g_topR (fun r12 hr12 => ?_)
      have hw := hw r12 hr12
      refine g_alen X dX5_init_30 hw (fun hw => ?_)
      refine g_icmp_ge X 53 dX5_init_31 (by decide) hw (fun hw => ?_) (fun hw => ?_)
      · refine g_aload_n X dX5_init_53 0 rfl ?_
        refine g_new (ci := 0) X dX5_init_54 (by decide) ⟨wl_X5_7, wx_X0, wi_X0⟩ hw (fun hw => ?_)
        refine g_topM (fun M13 hM13 => ?_)
        have hw := hw M13 hM13
        refine g_topR (fun r14 hr14 => ?_)
        have hw := hw r14 hr14
        refine g_dup X dX5_init_57 rfl ?_
        obtain ⟨hA15, hw⟩ := hw
        obtain ⟨hA15b, hw⟩ := hw
        obtain ⟨h016, hw⟩ := hw
        refine g_callv (pc' := 61) (rest := [rV r14, rV o0]) rfl (fun H locs ls d qR qL => g_runI X cw_X5_9 ⟨rfl, wn_X0_init⟩ ⟨Nat.le_of_ble_eq_true rfl, Nat.le_of_ble_eq_true rfl⟩ dX5_init_58 (c_X0_init l E (k + 1) M13 r14  _ hw) h016 rfl rfl (Nat.le_of_ble_eq_true rfl) hA15 qR qL) (fun M17 hw => ?_)
        refine g_widen (k := k + 1 + 73 - n) (z := SL (k + 1 + 73) - SL n) hA15b.1 hA15b.2 ?_
        obtain ⟨hk18, hw⟩ := hw
        refine g_putR X dX5_init_61 fl_X5_20 (Or.inl ⟨_, rfl⟩) (Or.inr ⟨rfl, hnm, rfl⟩) ⟨hk18, hw⟩ (fun hw => ?_)
        refine g_topM (fun M19 hM19 => ?_)
        have hw := hw M19 hM19
        refine g_aload_n X dX5_init_64 0 rfl ?_
        refine g_new (ci := 4) X dX5_init_65 (by decide) ⟨wl_X5_23, wx_X4, wi_X4⟩ hw (fun hw => ?_)
        refine g_topM (fun M20 hM20 => ?_)
        have hw := hw M20 hM20
        refine g_topR (fun r21 hr21 => ?_)
        have hw := hw r21 hr21
        refine g_dup X dX5_init_68 rfl ?_
        obtain ⟨hA22, hw⟩ := hw
        obtain ⟨hA22b, hw⟩ := hw
        obtain ⟨h023, hw⟩ := hw
        refine g_callv (pc' := 72) (rest := [rV r21, rV o0]) rfl (fun H locs ls d qR qL => g_runI X cw_X5_25 ⟨rfl, wn_X4_init⟩ ⟨Nat.le_of_ble_eq_true rfl, Nat.le_of_ble_eq_true rfl⟩ dX5_init_69 (c_X4_init l E (k + 1 + 73 + 1) M20 r21  _ hw) h023 rfl rfl (Nat.le_of_ble_eq_true rfl) hA22 qR qL) (fun M24 hw => ?_)
        refine g_widen (k := k + 1 + 73 + 1 + 1 - n) (z := SL (k + 1 + 73 + 1 + 1) - SL n) hA22b.1 hA22b.2 ?_
        obtain ⟨hk25, hw⟩ := hw
        refine g_putR X dX5_init_72 fl_X5_26 (Or.inl ⟨_, rfl⟩) (Or.inr ⟨rfl, hnm, rfl⟩) ⟨hk25, hw⟩ (fun hw => ?_)
        refine g_topM (fun M26 hM26 => ?_)
        have hw := hw M26 hM26
        refine g_aload_n X dX5_init_75 0 rfl ?_
        refine g_iconst X (0 : Int32) dX5_init_76 (by decide) ?_
        refine g_putI X dX5_init_77 fl_X5_30 rfl (Or.inl rfl) ⟨hk25, hw⟩ (fun hw => ?_)
        refine g_topM (fun M27 hM27 => ?_)
        have hw := hw M27 hM27
        refine g_aload_n X dX5_init_80 0 rfl ?_
        refine g_iconst X (0 : Int32) dX5_init_81 (by decide) ?_
        refine g_putZ X dX5_init_82 fl_X5_34 rfl (Or.inl rfl) ⟨by decide, hk25, hw⟩ (fun hw => ?_)
        refine g_topM (fun M28 hM28 => ?_)
        have hw := hw M28 hM28
        obtain ⟨he, hs, hw⟩ := hw
        rw [he]
        refine g_widen (k := rmX5_init.cells) (z := rmX5_init.slots) (by show n + 447 - n ≤ 447; omega) (by show SL (n + 447) - SL n ≤ 5238; omega) ?_
        exact g_vret (n := n) X hr hlk hSz hOld (Nat.le_add_right _ _) dX5_init_85 hw
      · refine g_aload_n X dX5_init_34 0 rfl ?_
        refine g_get X (rV (gR M o0 1)) dX5_init_35 fl_X5_16 (fun _ => rfl) ⟨hk11, hw⟩ (fun hw => ?_)
        refine g_topR (fun r29 hr29 => ?_)
        have hw := hw r29 hr29
        refine g_iload_n X dX5_init_38 1 rfl ?_
        refine g_new (ci := 0) X dX5_init_39 (by decide) ⟨wl_X5_7, wx_X0, wi_X0⟩ hw (fun hw => ?_)
        refine g_topM (fun M30 hM30 => ?_)
        have hw := hw M30 hM30
        refine g_topR (fun r31 hr31 => ?_)
        have hw := hw r31 hr31
        refine g_dup X dX5_init_42 rfl ?_
        obtain ⟨hA32, hw⟩ := hw
        obtain ⟨hA32b, hw⟩ := hw
        obtain ⟨h033, hw⟩ := hw
        refine g_callv (pc' := 46) (rest := [rV r31, iV a1, rV r29]) rfl (fun H locs ls d qR qL => g_runI X cw_X5_9 ⟨rfl, wn_X0_init⟩ ⟨Nat.le_of_ble_eq_true rfl, Nat.le_of_ble_eq_true rfl⟩ dX5_init_43 (c_X0_init l E (k + 1) M30 r31  _ hw) h033 rfl rfl (Nat.le_of_ble_eq_true rfl) hA32 qR qL) (fun M34 hw => ?_)
        refine g_widen (k := k + 1 + 73 - n) (z := SL (k + 1 + 73) - SL n) hA32b.1 hA32b.2 ?_
        refine g_aast X dX5_init_46 hw (fun hw => ?_)
        refine g_topM (fun M35 hM35 => ?_)
        have hw := hw M35 hM35
        obtain ⟨x36, hx36⟩ : ∃ y : Int32, y = a1 + (1 : Int32) := ⟨_, rfl⟩
        have hw := hw x36 hx36
        refine g_iinc (lv' := [(1, iV x36), (0, rV o0)]) X x36 dX5_init_47 1 rfl (by rw [hx36]; rfl) (by decide) rfl ?_
        refine g_goto X 25 dX5_init_50 (by decide) ?_
        refine g_lvsub (lv' := [(0, rV o0), (1, iV x36)]) [1, 0] rfl ?_
        exact ih25 _ _ _ _ hw
  refine g_widen (k := n - n) (z := SL n - SL n) (Nat.zero_le _) (Nat.zero_le _) ?_
  unfold w_X5_init at hw
  refine g_aload_n X dX5_init_0 0 rfl ?_
  refine g_objInit X wm_X5_1 ⟨wn_obj, wc_obj⟩ dX5_init_1 (by decide) (by decide) hw (fun hw => ?_)
  refine g_aload_n X dX5_init_4 0 rfl ?_
  refine g_new (ci := 0) X dX5_init_5 (by decide) ⟨wl_X5_7, wx_X0, wi_X0⟩ hw (fun hw => ?_)
  refine g_topM (fun M1 hM1 => ?_)
  have hw := hw M1 hM1
  refine g_topR (fun r2 hr2 => ?_)
  have hw := hw r2 hr2
  refine g_dup X dX5_init_8 rfl ?_
  obtain ⟨hA3, hw⟩ := hw
  obtain ⟨hA3b, hw⟩ := hw
  obtain ⟨h04, hw⟩ := hw
  refine g_callv (pc' := 12) (rest := [rV r2, rV t]) rfl (fun H locs ls d qR qL => g_runI X cw_X5_9 ⟨rfl, wn_X0_init⟩ ⟨Nat.le_of_ble_eq_true rfl, Nat.le_of_ble_eq_true rfl⟩ dX5_init_9 (c_X0_init l E (n + 1) M1 r2  _ hw) h04 rfl rfl (Nat.le_of_ble_eq_true rfl) hA3 qR qL) (fun M5 hw => ?_)
  refine g_widen (k := n + 1 + 73 - n) (z := SL (n + 1 + 73) - SL n) hA3b.1 hA3b.2 ?_
  obtain ⟨hk6, hw⟩ := hw
  refine g_putR X dX5_init_12 fl_X5_10 (Or.inl ⟨_, rfl⟩) (Or.inr ⟨rfl, hnm, rfl⟩) ⟨hk6, hw⟩ (fun hw => ?_)
  refine g_topM (fun M7 hM7 => ?_)
  have hw := hw M7 hM7
  refine g_aload_n X dX5_init_15 0 rfl ?_
  refine g_iconst X (4 : Int32) dX5_init_16 (by decide) ?_
  refine g_anew X 12 4 dX5_init_17 (by decide) wl_X5_7 ⟨by decide, by decide⟩ hw (fun hw => ?_)
  refine g_topM (fun M8 hM8 => ?_)
  have hw := hw M8 hM8
  obtain ⟨hk9, hw⟩ := hw
  refine g_putR X dX5_init_20 fl_X5_16 (Or.inr ⟨_, rfl⟩) (Or.inr ⟨rfl, hnm, rfl⟩) ⟨hk9, hw⟩ (fun hw => ?_)
  refine g_topM (fun M10 hM10 => ?_)
  have hw := hw M10 hM10
  refine g_iconst X (0 : Int32) dX5_init_23 (by decide) ?_
  refine g_istore_n (lv' := [(1, iV (0 : Int32)), (0, rV t)]) X dX5_init_24 (by decide) rfl ?_
  refine g_lvsub (lv' := [(0, rV t), (1, iV (0 : Int32))]) [1, 0] rfl ?_
  exact L25 _ _ _ _ _ hw
theorem dX5_dropOldest_0 : decode cX5_dropOldest 0 = .ok (.iconst 1, 1) := by decide +kernel
theorem dX5_dropOldest_1 : decode cX5_dropOldest 1 = .ok (.istore_n 1, 1) := by decide +kernel
theorem dX5_dropOldest_2 : decode cX5_dropOldest 2 = .ok (.iload_n 1, 1) := by decide +kernel
theorem dX5_dropOldest_3 : decode cX5_dropOldest 3 = .ok (.aload_n 0, 1) := by decide +kernel
theorem dX5_dropOldest_4 : decode cX5_dropOldest 4 = .ok (.getfield 16, 3) := by decide +kernel
theorem dX5_dropOldest_7 : decode cX5_dropOldest 7 = .ok (.arraylength, 1) := by decide +kernel
theorem dX5_dropOldest_8 : decode cX5_dropOldest 8 = .ok (.if_icmp .ge 39, 3) := by decide +kernel
theorem dX5_dropOldest_11 : decode cX5_dropOldest 11 = .ok (.aload_n 0, 1) := by decide +kernel
theorem dX5_dropOldest_12 : decode cX5_dropOldest 12 = .ok (.getfield 16, 3) := by decide +kernel
theorem dX5_dropOldest_15 : decode cX5_dropOldest 15 = .ok (.iload_n 1, 1) := by decide +kernel
theorem dX5_dropOldest_16 : decode cX5_dropOldest 16 = .ok (.iconst 1, 1) := by decide +kernel
theorem dX5_dropOldest_17 : decode cX5_dropOldest 17 = .ok (.isub, 1) := by decide +kernel
theorem dX5_dropOldest_18 : decode cX5_dropOldest 18 = .ok (.aaload, 1) := by decide +kernel
theorem dX5_dropOldest_19 : decode cX5_dropOldest 19 = .ok (.astore_n 2, 1) := by decide +kernel
theorem dX5_dropOldest_20 : decode cX5_dropOldest 20 = .ok (.aload_n 0, 1) := by decide +kernel
theorem dX5_dropOldest_21 : decode cX5_dropOldest 21 = .ok (.getfield 16, 3) := by decide +kernel
theorem dX5_dropOldest_24 : decode cX5_dropOldest 24 = .ok (.iload_n 1, 1) := by decide +kernel
theorem dX5_dropOldest_25 : decode cX5_dropOldest 25 = .ok (.iconst 1, 1) := by decide +kernel
theorem dX5_dropOldest_26 : decode cX5_dropOldest 26 = .ok (.isub, 1) := by decide +kernel
theorem dX5_dropOldest_27 : decode cX5_dropOldest 27 = .ok (.aload_n 0, 1) := by decide +kernel
theorem dX5_dropOldest_28 : decode cX5_dropOldest 28 = .ok (.getfield 16, 3) := by decide +kernel
theorem dX5_dropOldest_31 : decode cX5_dropOldest 31 = .ok (.iload_n 1, 1) := by decide +kernel
theorem dX5_dropOldest_32 : decode cX5_dropOldest 32 = .ok (.aaload, 1) := by decide +kernel
theorem dX5_dropOldest_33 : decode cX5_dropOldest 33 = .ok (.aastore, 1) := by decide +kernel
theorem dX5_dropOldest_34 : decode cX5_dropOldest 34 = .ok (.aload_n 0, 1) := by decide +kernel
theorem dX5_dropOldest_35 : decode cX5_dropOldest 35 = .ok (.getfield 16, 3) := by decide +kernel
theorem dX5_dropOldest_38 : decode cX5_dropOldest 38 = .ok (.iload_n 1, 1) := by decide +kernel
theorem dX5_dropOldest_39 : decode cX5_dropOldest 39 = .ok (.aload_n 2, 1) := by decide +kernel
theorem dX5_dropOldest_40 : decode cX5_dropOldest 40 = .ok (.aastore, 1) := by decide +kernel
theorem dX5_dropOldest_41 : decode cX5_dropOldest 41 = .ok (.iinc 1 1, 3) := by decide +kernel
theorem dX5_dropOldest_44 : decode cX5_dropOldest 44 = .ok (.goto (-42), 3) := by decide +kernel
theorem dX5_dropOldest_47 : decode cX5_dropOldest 47 = .ok (.aload_n 0, 1) := by decide +kernel
theorem dX5_dropOldest_48 : decode cX5_dropOldest 48 = .ok (.aload_n 0, 1) := by decide +kernel
theorem dX5_dropOldest_49 : decode cX5_dropOldest 49 = .ok (.getfield 16, 3) := by decide +kernel
theorem dX5_dropOldest_52 : decode cX5_dropOldest 52 = .ok (.arraylength, 1) := by decide +kernel
theorem dX5_dropOldest_53 : decode cX5_dropOldest 53 = .ok (.iconst 1, 1) := by decide +kernel
theorem dX5_dropOldest_54 : decode cX5_dropOldest 54 = .ok (.isub, 1) := by decide +kernel
theorem dX5_dropOldest_55 : decode cX5_dropOldest 55 = .ok (.putfield 30, 3) := by decide +kernel
theorem dX5_dropOldest_58 : decode cX5_dropOldest 58 = .ok (.return_, 1) := by decide +kernel
abbrev rmX5_dropOldest : Room := { frames := 0, cells := 0, slots := 0, locals := 0 }
def w_X5_dropOldest_L2 (n : Nat) (K : Mem → Prop) : Nat → Mem → Nat → Int32 → Prop
  | 0, _, _, _ => False
  | fuel + 1, M, o0, a1 => ((o0 ≤ n ∧ kd o0 = (5, 0)) ∧ (∀ r2, r2 = gR M o0 1 → ((r2 ≤ n ∧ 7 ≤ (kd r2).1 ∧ (kd r2).1 < 13) ∧ (((nI (kd r2).2) ≤ a1 → (∀ r3, r3 = gR M o0 1 → ((r3 ≤ n ∧ 7 ≤ (kd r3).1 ∧ (kd r3).1 < 13) ∧ (∀ M4, M4 = sI M o0 4 ((nI (kd r3).2) - (1 : Int32)) → K M4)))) ∧ (¬ (nI (kd r2).2) ≤ a1 → (∀ r5, r5 = gR M o0 1 → ((r5 ≤ n ∧ (10 ≤ (kd r5).1 ∧ (kd r5).1 < 13) ∧ vp_in (a1 - (1 : Int32)) (kd r5).2) ∧ (∀ r6, r6 = gR M r5 (Int32.toNatClampNeg (a1 - (1 : Int32))) → (∀ r7, r7 = gR M o0 1 → (∀ r8, r8 = gR M o0 1 → ((r8 ≤ n ∧ (10 ≤ (kd r8).1 ∧ (kd r8).1 < 13) ∧ vp_in a1 (kd r8).2) ∧ (∀ r9, r9 = gR M r8 (Int32.toNatClampNeg a1) → ((r7 ≤ n ∧ (10 ≤ (kd r7).1 ∧ (kd r7).1 < 13) ∧ vp_in (a1 - (1 : Int32)) (kd r7).2 ∧ r9 ≤ n ∧ kd r9 = (elC (kd r7).1, 0)) ∧ (∀ M10, M10 = sR M r7 (Int32.toNatClampNeg (a1 - (1 : Int32))) r9 → (∀ r11, r11 = gR M10 o0 1 → ((r11 ≤ n ∧ (10 ≤ (kd r11).1 ∧ (kd r11).1 < 13) ∧ vp_in a1 (kd r11).2 ∧ r6 ≤ n ∧ kd r6 = (elC (kd r11).1, 0)) ∧ (∀ M12, M12 = sR M10 r11 (Int32.toNatClampNeg a1) r6 → (∀ x13, x13 = a1 + (1 : Int32) → w_X5_dropOldest_L2 n K fuel M12 o0 x13))))))))))))))))))
def w_X5_dropOldest (n : Nat) (M : Mem) (t : Nat) (K : Mem → Prop) : Prop := w_X5_dropOldest_L2 n K 4000 M t (1 : Int32)
set_option maxHeartbeats 4000000 in
set_option maxRecDepth 20000 in
theorem c_X5_dropOldest (l : Launch) (E : Gl) (n : Nat) (M : Mem) (t : Nat) (K : Mem → Prop) (hw : w_X5_dropOldest n M t K) : CT E l yX5_dropOldest cX5_dropOldest 3 none rmX5_dropOldest n M [rV t] (PV E n K) := by
  refine g_met l (by decide) (Nat.le_of_ble_eq_true rfl) ?_
  intro p e s m args below meth c X hr hlk hnm hSz hOld
  change CX E p s m c _ _ RX5 at X
  have L2 : ∀ (fuel2 : Nat) (M : Mem) (o0 : Nat) (a1 : Int32), w_X5_dropOldest_L2 n K fuel2 M o0 a1 → G E p l e rmX5_dropOldest s m args below meth c 3 n M 0 0 (MQD lw_cs below (PV E n K) args s rmX5_dropOldest.cells rmX5_dropOldest.slots (Ab E)) 2 [(0, rV o0), (1, iV a1)] [] := by
    intro fuel2
    induction fuel2 with
    | zero => intro M o0 a1 hw; exact False.elim hw
    | succ fuel2 ih2 =>
      intro M o0 a1 hw
      unfold w_X5_dropOldest_L2 at hw
      refine g_iload_n X dX5_dropOldest_2 1 rfl ?_
      refine g_aload_n X dX5_dropOldest_3 0 rfl ?_
      obtain ⟨hk1, hw⟩ := hw
      refine g_get X (rV (gR M o0 1)) dX5_dropOldest_4 fl_X5_16 (fun _ => rfl) ⟨hk1, hw⟩ (fun hw => ?_)
      refine g_topR (fun r2 hr2 => ?_)
      have hw := hw r2 hr2
      refine g_alen X dX5_dropOldest_7 hw (fun hw => ?_)
      refine g_icmp_ge X 47 dX5_dropOldest_8 (by decide) hw (fun hw => ?_) (fun hw => ?_)
      · refine g_aload_n X dX5_dropOldest_47 0 rfl ?_
        refine g_aload_n X dX5_dropOldest_48 0 rfl ?_
        refine g_get X (rV (gR M o0 1)) dX5_dropOldest_49 fl_X5_16 (fun _ => rfl) ⟨hk1, hw⟩ (fun hw => ?_)
        refine g_topR (fun r3 hr3 => ?_)
        have hw := hw r3 hr3
        refine g_alen X dX5_dropOldest_52 hw (fun hw => ?_)
        refine g_iconst X (1 : Int32) dX5_dropOldest_53 (by decide) ?_
        refine g_isub X dX5_dropOldest_54 ?_
        refine g_putI X dX5_dropOldest_55 fl_X5_30 rfl (Or.inl rfl) ⟨hk1, hw⟩ (fun hw => ?_)
        refine g_topM (fun M4 hM4 => ?_)
        have hw := hw M4 hM4
        exact g_vret X hr hlk hSz hOld (Nat.le_refl _) dX5_dropOldest_58 hw
      · refine g_aload_n X dX5_dropOldest_11 0 rfl ?_
        refine g_get X (rV (gR M o0 1)) dX5_dropOldest_12 fl_X5_16 (fun _ => rfl) ⟨hk1, hw⟩ (fun hw => ?_)
        refine g_topR (fun r5 hr5 => ?_)
        have hw := hw r5 hr5
        refine g_iload_n X dX5_dropOldest_15 1 rfl ?_
        refine g_iconst X (1 : Int32) dX5_dropOldest_16 (by decide) ?_
        refine g_isub X dX5_dropOldest_17 ?_
        refine g_aald X dX5_dropOldest_18 hw (fun hw => ?_)
        refine g_topR (fun r6 hr6 => ?_)
        have hw := hw r6 hr6
        refine g_astore_n (lv' := [(2, rV r6), (0, rV o0), (1, iV a1)]) X dX5_dropOldest_19 (by decide) rfl ?_
        refine g_aload_n X dX5_dropOldest_20 1 rfl ?_
        refine g_get X (rV (gR M o0 1)) dX5_dropOldest_21 fl_X5_16 (fun _ => rfl) ⟨hk1, hw⟩ (fun hw => ?_)
        refine g_topR (fun r7 hr7 => ?_)
        have hw := hw r7 hr7
        refine g_iload_n X dX5_dropOldest_24 2 rfl ?_
        refine g_iconst X (1 : Int32) dX5_dropOldest_25 (by decide) ?_
        refine g_isub X dX5_dropOldest_26 ?_
        refine g_aload_n X dX5_dropOldest_27 1 rfl ?_
        refine g_get X (rV (gR M o0 1)) dX5_dropOldest_28 fl_X5_16 (fun _ => rfl) ⟨hk1, hw⟩ (fun hw => ?_)
        refine g_topR (fun r8 hr8 => ?_)
        have hw := hw r8 hr8
        refine g_iload_n X dX5_dropOldest_31 2 rfl ?_
        refine g_aald X dX5_dropOldest_32 hw (fun hw => ?_)
        refine g_topR (fun r9 hr9 => ?_)
        have hw := hw r9 hr9
        refine g_aast X dX5_dropOldest_33 hw (fun hw => ?_)
        refine g_topM (fun M10 hM10 => ?_)
        have hw := hw M10 hM10
        refine g_aload_n X dX5_dropOldest_34 1 rfl ?_
        refine g_get X (rV (gR M10 o0 1)) dX5_dropOldest_35 fl_X5_16 (fun _ => rfl) ⟨hk1, hw⟩ (fun hw => ?_)
        refine g_topR (fun r11 hr11 => ?_)
        have hw := hw r11 hr11
        refine g_iload_n X dX5_dropOldest_38 2 rfl ?_
        refine g_aload_n X dX5_dropOldest_39 0 rfl ?_
        refine g_aast X dX5_dropOldest_40 hw (fun hw => ?_)
        refine g_topM (fun M12 hM12 => ?_)
        have hw := hw M12 hM12
        obtain ⟨x13, hx13⟩ : ∃ y : Int32, y = a1 + (1 : Int32) := ⟨_, rfl⟩
        have hw := hw x13 hx13
        refine g_iinc (lv' := [(1, iV x13), (2, rV r6), (0, rV o0)]) X x13 dX5_dropOldest_41 2 rfl (by rw [hx13]; rfl) (by decide) rfl ?_
        refine g_goto X 2 dX5_dropOldest_44 (by decide) ?_
        refine g_lvsub (lv' := [(0, rV o0), (1, iV x13)]) [2, 0] rfl ?_
        exact ih2 _ _ _ hw
  unfold w_X5_dropOldest at hw
  refine g_iconst X (1 : Int32) dX5_dropOldest_0 (by decide) ?_
  refine g_istore_n (lv' := [(1, iV (1 : Int32)), (0, rV t)]) X dX5_dropOldest_1 (by decide) rfl ?_
  refine g_lvsub (lv' := [(0, rV t), (1, iV (1 : Int32))]) [1, 0] rfl ?_
  exact L2 _ _ _ _ hw
theorem dX5_remember_0 : decode cX5_remember 0 = .ok (.aload_n 0, 1) := by decide +kernel
theorem dX5_remember_1 : decode cX5_remember 1 = .ok (.getfield 30, 3) := by decide +kernel
theorem dX5_remember_4 : decode cX5_remember 4 = .ok (.aload_n 0, 1) := by decide +kernel
theorem dX5_remember_5 : decode cX5_remember 5 = .ok (.getfield 16, 3) := by decide +kernel
theorem dX5_remember_8 : decode cX5_remember 8 = .ok (.arraylength, 1) := by decide +kernel
theorem dX5_remember_9 : decode cX5_remember 9 = .ok (.if_icmp .lt 7, 3) := by decide +kernel
theorem dX5_remember_12 : decode cX5_remember 12 = .ok (.aload_n 0, 1) := by decide +kernel
theorem dX5_remember_13 : decode cX5_remember 13 = .ok (.invokevirtual 246, 3) := by decide +kernel
theorem dX5_remember_16 : decode cX5_remember 16 = .ok (.aload_n 0, 1) := by decide +kernel
theorem dX5_remember_17 : decode cX5_remember 17 = .ok (.getfield 30, 3) := by decide +kernel
theorem dX5_remember_20 : decode cX5_remember 20 = .ok (.ifCond .lt 41, 3) := by decide +kernel
theorem dX5_remember_23 : decode cX5_remember 23 = .ok (.aload_n 0, 1) := by decide +kernel
theorem dX5_remember_24 : decode cX5_remember 24 = .ok (.getfield 30, 3) := by decide +kernel
theorem dX5_remember_27 : decode cX5_remember 27 = .ok (.aload_n 0, 1) := by decide +kernel
theorem dX5_remember_28 : decode cX5_remember 28 = .ok (.getfield 16, 3) := by decide +kernel
theorem dX5_remember_31 : decode cX5_remember 31 = .ok (.arraylength, 1) := by decide +kernel
theorem dX5_remember_32 : decode cX5_remember 32 = .ok (.if_icmp .ge 29, 3) := by decide +kernel
theorem dX5_remember_35 : decode cX5_remember 35 = .ok (.aload_n 0, 1) := by decide +kernel
theorem dX5_remember_36 : decode cX5_remember 36 = .ok (.getfield 16, 3) := by decide +kernel
theorem dX5_remember_39 : decode cX5_remember 39 = .ok (.aload_n 0, 1) := by decide +kernel
theorem dX5_remember_40 : decode cX5_remember 40 = .ok (.getfield 30, 3) := by decide +kernel
theorem dX5_remember_43 : decode cX5_remember 43 = .ok (.aaload, 1) := by decide +kernel
theorem dX5_remember_44 : decode cX5_remember 44 = .ok (.aload_n 0, 1) := by decide +kernel
theorem dX5_remember_45 : decode cX5_remember 45 = .ok (.getfield 10, 3) := by decide +kernel
theorem dX5_remember_48 : decode cX5_remember 48 = .ok (.invokevirtual 141, 3) := by decide +kernel
theorem dX5_remember_51 : decode cX5_remember 51 = .ok (.aload_n 0, 1) := by decide +kernel
theorem dX5_remember_52 : decode cX5_remember 52 = .ok (.dup, 1) := by decide +kernel
theorem dX5_remember_53 : decode cX5_remember 53 = .ok (.getfield 30, 3) := by decide +kernel
theorem dX5_remember_56 : decode cX5_remember 56 = .ok (.iconst 1, 1) := by decide +kernel
theorem dX5_remember_57 : decode cX5_remember 57 = .ok (.iadd, 1) := by decide +kernel
theorem dX5_remember_58 : decode cX5_remember 58 = .ok (.putfield 30, 3) := by decide +kernel
theorem dX5_remember_61 : decode cX5_remember 61 = .ok (.return_, 1) := by decide +kernel
abbrev rmX5_remember : Room := { frames := 2, cells := 0, slots := 0, locals := 43 }
def w_X5_remember (n : Nat) (M : Mem) (t : Nat) (K : Mem → Prop) : Prop := ((t ≤ n ∧ kd t = (5, 0)) ∧ (∀ r2, r2 = gR M t 1 → ((r2 ≤ n ∧ 7 ≤ (kd r2).1 ∧ (kd r2).1 < 13) ∧ (((gI M t 4) < (nI (kd r2).2) → (((gI M t 4) < 0 → K M) ∧ (¬ (gI M t 4) < 0 → (∀ r3, r3 = gR M t 1 → ((r3 ≤ n ∧ 7 ≤ (kd r3).1 ∧ (kd r3).1 < 13) ∧ (((nI (kd r3).2) ≤ (gI M t 4) → K M) ∧ (¬ (nI (kd r3).2) ≤ (gI M t 4) → (∀ r4, r4 = gR M t 1 → ((r4 ≤ n ∧ (10 ≤ (kd r4).1 ∧ (kd r4).1 < 13) ∧ vp_in (gI M t 4) (kd r4).2) ∧ (∀ r5, r5 = gR M r4 (Int32.toNatClampNeg (gI M t 4)) → (∀ r6, r6 = gR M t 0 → ((r5 ≤ n ∧ kd r5 = (0, 0)) ∧ w_X0_copyOf n M r5 r6 (fun M8 => (∀ M9, M9 = sI M8 t 4 ((gI M8 t 4) + (1 : Int32)) → K M9)))))))))))))) ∧ (¬ (gI M t 4) < (nI (kd r2).2) → w_X5_dropOldest n M t  (fun M10 => (((gI M10 t 4) < 0 → K M10) ∧ (¬ (gI M10 t 4) < 0 → (∀ r11, r11 = gR M10 t 1 → ((r11 ≤ n ∧ 7 ≤ (kd r11).1 ∧ (kd r11).1 < 13) ∧ (((nI (kd r11).2) ≤ (gI M10 t 4) → K M10) ∧ (¬ (nI (kd r11).2) ≤ (gI M10 t 4) → (∀ r12, r12 = gR M10 t 1 → ((r12 ≤ n ∧ (10 ≤ (kd r12).1 ∧ (kd r12).1 < 13) ∧ vp_in (gI M10 t 4) (kd r12).2) ∧ (∀ r13, r13 = gR M10 r12 (Int32.toNatClampNeg (gI M10 t 4)) → (∀ r14, r14 = gR M10 t 0 → ((r13 ≤ n ∧ kd r13 = (0, 0)) ∧ w_X0_copyOf n M10 r13 r14 (fun M16 => (∀ M17, M17 = sI M16 t 4 ((gI M16 t 4) + (1 : Int32)) → K M17)))))))))))))))))))
set_option maxHeartbeats 4000000 in
set_option maxRecDepth 20000 in
theorem c_X5_remember (l : Launch) (E : Gl) (n : Nat) (M : Mem) (t : Nat) (K : Mem → Prop) (hw : w_X5_remember n M t K) : CT E l yX5_remember cX5_remember 1 none rmX5_remember n M [rV t] (PV E n K) := by
  refine g_met l (by decide) (Nat.le_of_ble_eq_true rfl) ?_
  intro p e s m args below meth c X hr hlk hnm hSz hOld
  change CX E p s m c _ _ RX5 at X
  unfold w_X5_remember at hw
  refine g_aload_n X dX5_remember_0 0 rfl ?_
  obtain ⟨hk1, hw⟩ := hw
  refine g_get X (iV (gI M t 4)) dX5_remember_1 fl_X5_30 (fun _ => rfl) ⟨hk1, hw⟩ (fun hw => ?_)
  refine g_aload_n X dX5_remember_4 0 rfl ?_
  refine g_get X (rV (gR M t 1)) dX5_remember_5 fl_X5_16 (fun _ => rfl) ⟨hk1, hw⟩ (fun hw => ?_)
  refine g_topR (fun r2 hr2 => ?_)
  have hw := hw r2 hr2
  refine g_alen X dX5_remember_8 hw (fun hw => ?_)
  refine g_icmp_lt X 16 dX5_remember_9 (by decide) hw (fun hw => ?_) (fun hw => ?_)
  · refine g_aload_n X dX5_remember_16 0 rfl ?_
    refine g_get X (iV (gI M t 4)) dX5_remember_17 fl_X5_30 (fun _ => rfl) ⟨hk1, hw⟩ (fun hw => ?_)
    refine g_if_lt X 61 dX5_remember_20 (by decide) hw (fun hw => ?_) (fun hw => ?_)
    · exact g_vret X hr hlk hSz hOld (Nat.le_refl _) dX5_remember_61 hw
    · refine g_aload_n X dX5_remember_23 0 rfl ?_
      refine g_get X (iV (gI M t 4)) dX5_remember_24 fl_X5_30 (fun _ => rfl) ⟨hk1, hw⟩ (fun hw => ?_)
      refine g_aload_n X dX5_remember_27 0 rfl ?_
      refine g_get X (rV (gR M t 1)) dX5_remember_28 fl_X5_16 (fun _ => rfl) ⟨hk1, hw⟩ (fun hw => ?_)
      refine g_topR (fun r3 hr3 => ?_)
      have hw := hw r3 hr3
      refine g_alen X dX5_remember_31 hw (fun hw => ?_)
      refine g_icmp_ge X 61 dX5_remember_32 (by decide) hw (fun hw => ?_) (fun hw => ?_)
      · exact g_vret X hr hlk hSz hOld (Nat.le_refl _) dX5_remember_61 hw
      · refine g_aload_n X dX5_remember_35 0 rfl ?_
        refine g_get X (rV (gR M t 1)) dX5_remember_36 fl_X5_16 (fun _ => rfl) ⟨hk1, hw⟩ (fun hw => ?_)
        refine g_topR (fun r4 hr4 => ?_)
        have hw := hw r4 hr4
        refine g_aload_n X dX5_remember_39 0 rfl ?_
        refine g_get X (iV (gI M t 4)) dX5_remember_40 fl_X5_30 (fun _ => rfl) ⟨hk1, hw⟩ (fun hw => ?_)
        refine g_aald X dX5_remember_43 hw (fun hw => ?_)
        refine g_topR (fun r5 hr5 => ?_)
        have hw := hw r5 hr5
        refine g_aload_n X dX5_remember_44 0 rfl ?_
        refine g_get X (rV (gR M t 0)) dX5_remember_45 fl_X5_10 (fun _ => rfl) ⟨hk1, hw⟩ (fun hw => ?_)
        refine g_topR (fun r6 hr6 => ?_)
        have hw := hw r6 hr6
        obtain ⟨hk7, hw⟩ := hw
        refine g_callv (pc' := 51) (rest := []) rfl (fun H locs ls d qR qL => g_runV X cw_X5_141 iv_X0_copyOf ⟨Nat.le_of_ble_eq_true rfl, Nat.le_of_ble_eq_true rfl⟩ dX5_remember_48 (c_X0_copyOf l E n M r5 r6 _ hw) hk7 rfl rfl (Nat.le_of_ble_eq_true rfl) ⟨Nat.le_of_ble_eq_true rfl, Nat.le_of_ble_eq_true rfl⟩ qR qL) (fun M8 hw => ?_)
        refine g_aload_n X dX5_remember_51 0 rfl ?_
        refine g_dup X dX5_remember_52 rfl ?_
        refine g_get X (iV (gI M8 t 4)) dX5_remember_53 fl_X5_30 (fun _ => rfl) ⟨hk1, hw⟩ (fun hw => ?_)
        refine g_iconst X (1 : Int32) dX5_remember_56 (by decide) ?_
        refine g_iadd X dX5_remember_57 ?_
        refine g_putI X dX5_remember_58 fl_X5_30 rfl (Or.inl rfl) ⟨hk1, hw⟩ (fun hw => ?_)
        refine g_topM (fun M9 hM9 => ?_)
        have hw := hw M9 hM9
        exact g_vret X hr hlk hSz hOld (Nat.le_refl _) dX5_remember_61 hw
  · refine g_aload_n X dX5_remember_12 0 rfl ?_
    refine g_callv (pc' := 16) (rest := []) rfl (fun H locs ls d qR qL => g_runV X cw_X5_246 iv_X5_dropOldest ⟨Nat.le_of_ble_eq_true rfl, Nat.le_of_ble_eq_true rfl⟩ dX5_remember_13 (c_X5_dropOldest l E n M t  _ hw) hk1 rfl rfl (Nat.le_of_ble_eq_true rfl) ⟨Nat.le_of_ble_eq_true rfl, Nat.le_of_ble_eq_true rfl⟩ qR qL) (fun M10 hw => ?_)
    refine g_aload_n X dX5_remember_16 0 rfl ?_
    refine g_get X (iV (gI M10 t 4)) dX5_remember_17 fl_X5_30 (fun _ => rfl) ⟨hk1, hw⟩ (fun hw => ?_)
    refine g_if_lt X 61 dX5_remember_20 (by decide) hw (fun hw => ?_) (fun hw => ?_)
    · exact g_vret X hr hlk hSz hOld (Nat.le_refl _) dX5_remember_61 hw
    · refine g_aload_n X dX5_remember_23 0 rfl ?_
      refine g_get X (iV (gI M10 t 4)) dX5_remember_24 fl_X5_30 (fun _ => rfl) ⟨hk1, hw⟩ (fun hw => ?_)
      refine g_aload_n X dX5_remember_27 0 rfl ?_
      refine g_get X (rV (gR M10 t 1)) dX5_remember_28 fl_X5_16 (fun _ => rfl) ⟨hk1, hw⟩ (fun hw => ?_)
      refine g_topR (fun r11 hr11 => ?_)
      have hw := hw r11 hr11
      refine g_alen X dX5_remember_31 hw (fun hw => ?_)
      refine g_icmp_ge X 61 dX5_remember_32 (by decide) hw (fun hw => ?_) (fun hw => ?_)
      · exact g_vret X hr hlk hSz hOld (Nat.le_refl _) dX5_remember_61 hw
      · refine g_aload_n X dX5_remember_35 0 rfl ?_
        refine g_get X (rV (gR M10 t 1)) dX5_remember_36 fl_X5_16 (fun _ => rfl) ⟨hk1, hw⟩ (fun hw => ?_)
        refine g_topR (fun r12 hr12 => ?_)
        have hw := hw r12 hr12
        refine g_aload_n X dX5_remember_39 0 rfl ?_
        refine g_get X (iV (gI M10 t 4)) dX5_remember_40 fl_X5_30 (fun _ => rfl) ⟨hk1, hw⟩ (fun hw => ?_)
        refine g_aald X dX5_remember_43 hw (fun hw => ?_)
        refine g_topR (fun r13 hr13 => ?_)
        have hw := hw r13 hr13
        refine g_aload_n X dX5_remember_44 0 rfl ?_
        refine g_get X (rV (gR M10 t 0)) dX5_remember_45 fl_X5_10 (fun _ => rfl) ⟨hk1, hw⟩ (fun hw => ?_)
        refine g_topR (fun r14 hr14 => ?_)
        have hw := hw r14 hr14
        obtain ⟨hk15, hw⟩ := hw
        refine g_callv (pc' := 51) (rest := []) rfl (fun H locs ls d qR qL => g_runV X cw_X5_141 iv_X0_copyOf ⟨Nat.le_of_ble_eq_true rfl, Nat.le_of_ble_eq_true rfl⟩ dX5_remember_48 (c_X0_copyOf l E n M10 r13 r14 _ hw) hk15 rfl rfl (Nat.le_of_ble_eq_true rfl) ⟨Nat.le_of_ble_eq_true rfl, Nat.le_of_ble_eq_true rfl⟩ qR qL) (fun M16 hw => ?_)
        refine g_aload_n X dX5_remember_51 0 rfl ?_
        refine g_dup X dX5_remember_52 rfl ?_
        refine g_get X (iV (gI M16 t 4)) dX5_remember_53 fl_X5_30 (fun _ => rfl) ⟨hk1, hw⟩ (fun hw => ?_)
        refine g_iconst X (1 : Int32) dX5_remember_56 (by decide) ?_
        refine g_iadd X dX5_remember_57 ?_
        refine g_putI X dX5_remember_58 fl_X5_30 rfl (Or.inl rfl) ⟨hk1, hw⟩ (fun hw => ?_)
        refine g_topM (fun M17 hM17 => ?_)
        have hw := hw M17 hM17
        exact g_vret X hr hlk hSz hOld (Nat.le_refl _) dX5_remember_61 hw
theorem dX5_build_0 : decode cX5_build 0 = .ok (.iload_n 1, 1) := by decide +kernel
theorem dX5_build_1 : decode cX5_build 1 = .ok (.iconst 2, 1) := by decide +kernel
theorem dX5_build_2 : decode cX5_build 2 = .ok (.if_icmp .lt 9, 3) := by decide +kernel
theorem dX5_build_5 : decode cX5_build 5 = .ok (.iload_n 1, 1) := by decide +kernel
theorem dX5_build_6 : decode cX5_build 6 = .ok (.bipush 8, 2) := by decide +kernel
theorem dX5_build_8 : decode cX5_build 8 = .ok (.if_icmp .le 6, 3) := by decide +kernel
theorem dX5_build_11 : decode cX5_build 11 = .ok (.bipush (-2), 2) := by decide +kernel
theorem dX5_build_13 : decode cX5_build 13 = .ok (.ireturn, 1) := by decide +kernel
theorem dX5_build_14 : decode cX5_build 14 = .ok (.aload_n 0, 1) := by decide +kernel
theorem dX5_build_15 : decode cX5_build 15 = .ok (.invokevirtual 38, 3) := by decide +kernel
theorem dX5_build_18 : decode cX5_build 18 = .ok (.aload_n 0, 1) := by decide +kernel
theorem dX5_build_19 : decode cX5_build 19 = .ok (.getfield 10, 3) := by decide +kernel
theorem dX5_build_22 : decode cX5_build 22 = .ok (.getfield 41, 3) := by decide +kernel
theorem dX5_build_25 : decode cX5_build 25 = .ok (.istore_n 2, 1) := by decide +kernel
theorem dX5_build_26 : decode cX5_build 26 = .ok (.aload_n 0, 1) := by decide +kernel
theorem dX5_build_27 : decode cX5_build 27 = .ok (.getfield 10, 3) := by decide +kernel
theorem dX5_build_30 : decode cX5_build 30 = .ok (.iload_n 1, 1) := by decide +kernel
theorem dX5_build_31 : decode cX5_build 31 = .ok (.invokevirtual 44, 3) := by decide +kernel
theorem dX5_build_34 : decode cX5_build 34 = .ok (.iload_n 2, 1) := by decide +kernel
theorem dX5_build_35 : decode cX5_build 35 = .ok (.ireturn, 1) := by decide +kernel
abbrev rmX5_build : Room := { frames := 3, cells := 0, slots := 0, locals := 69 }
def w_X5_build (n : Nat) (M : Mem) (t : Nat) (p1 : Int32) (K : Int32 → Mem → Prop) : Prop := ((p1 < (2 : Int32) → K (-2 : Int32) M) ∧ (¬ p1 < (2 : Int32) → ((p1 ≤ (8 : Int32) → ((t ≤ n ∧ kd t = (5, 0)) ∧ w_X5_remember n M t  (fun M2 => (∀ r3, r3 = gR M2 t 0 → ((r3 ≤ n ∧ kd r3 = (0, 0)) ∧ (∀ x5, x5 = gI M2 r3 7 → (∀ r6, r6 = gR M2 t 0 → ((r6 ≤ n ∧ kd r6 = (0, 0)) ∧ w_X0_begin n M2 r6 p1 (fun M8 => K x5 M8))))))))) ∧ (¬ p1 ≤ (8 : Int32) → K (-2 : Int32) M))))
set_option maxHeartbeats 4000000 in
set_option maxRecDepth 20000 in
theorem c_X5_build (l : Launch) (E : Gl) (n : Nat) (M : Mem) (t : Nat) (p1 : Int32) (K : Int32 → Mem → Prop) (hw : w_X5_build n M t p1 K) : CT E l yX5_build cX5_build 3 (some .int) rmX5_build n M [rV t, iV p1] (PI E n K) := by
  refine g_met l (by decide) (Nat.le_of_ble_eq_true rfl) ?_
  intro p e s m args below meth c X hr hlk hnm hSz hOld
  change CX E p s m c _ _ RX5 at X
  unfold w_X5_build at hw
  refine g_iload_n X dX5_build_0 1 rfl ?_
  refine g_iconst X (2 : Int32) dX5_build_1 (by decide) ?_
  refine g_icmp_lt X 11 dX5_build_2 (by decide) hw (fun hw => ?_) (fun hw => ?_)
  · refine g_bipush X (-2 : Int32) dX5_build_11 (by decide) ?_
    exact g_iret X hr hlk hSz hOld (Nat.le_refl _) dX5_build_13 hw
  · refine g_iload_n X dX5_build_5 1 rfl ?_
    refine g_bipush X (8 : Int32) dX5_build_6 (by decide) ?_
    refine g_icmp_le X 14 dX5_build_8 (by decide) hw (fun hw => ?_) (fun hw => ?_)
    · refine g_aload_n X dX5_build_14 0 rfl ?_
      obtain ⟨hk1, hw⟩ := hw
      refine g_callv (pc' := 18) (rest := []) rfl (fun H locs ls d qR qL => g_runV X cw_X5_38 iv_X5_remember ⟨Nat.le_of_ble_eq_true rfl, Nat.le_of_ble_eq_true rfl⟩ dX5_build_15 (c_X5_remember l E n M t  _ hw) hk1 rfl rfl (Nat.le_of_ble_eq_true rfl) ⟨Nat.le_of_ble_eq_true rfl, Nat.le_of_ble_eq_true rfl⟩ qR qL) (fun M2 hw => ?_)
      refine g_aload_n X dX5_build_18 0 rfl ?_
      refine g_get X (rV (gR M2 t 0)) dX5_build_19 fl_X5_10 (fun _ => rfl) ⟨hk1, hw⟩ (fun hw => ?_)
      refine g_topR (fun r3 hr3 => ?_)
      have hw := hw r3 hr3
      obtain ⟨hk4, hw⟩ := hw
      refine g_get X (iV (gI M2 r3 7)) dX5_build_22 fl_X5_41 (fun _ => rfl) ⟨hk4, hw⟩ (fun hw => ?_)
      refine g_topI (fun x5 hx5 => ?_)
      have hw := hw x5 hx5
      refine g_istore_n (lv' := [(2, iV x5), (0, rV t), (1, iV p1)]) X dX5_build_25 (by decide) rfl ?_
      refine g_aload_n X dX5_build_26 1 rfl ?_
      refine g_get X (rV (gR M2 t 0)) dX5_build_27 fl_X5_10 (fun _ => rfl) ⟨hk1, hw⟩ (fun hw => ?_)
      refine g_topR (fun r6 hr6 => ?_)
      have hw := hw r6 hr6
      refine g_iload_n X dX5_build_30 2 rfl ?_
      obtain ⟨hk7, hw⟩ := hw
      refine g_callv (pc' := 34) (rest := []) rfl (fun H locs ls d qR qL => g_runV X cw_X5_44 iv_X0_begin ⟨Nat.le_of_ble_eq_true rfl, Nat.le_of_ble_eq_true rfl⟩ dX5_build_31 (c_X0_begin l E n M2 r6 p1 _ hw) hk7 rfl rfl (Nat.le_of_ble_eq_true rfl) ⟨Nat.le_of_ble_eq_true rfl, Nat.le_of_ble_eq_true rfl⟩ qR qL) (fun M8 hw => ?_)
      refine g_iload_n X dX5_build_34 0 rfl ?_
      exact g_iret X hr hlk hSz hOld (Nat.le_refl _) dX5_build_35 hw
    · refine g_bipush X (-2 : Int32) dX5_build_11 (by decide) ?_
      exact g_iret X hr hlk hSz hOld (Nat.le_refl _) dX5_build_13 hw
theorem dX5_setPressure_0 : decode cX5_setPressure 0 = .ok (.aload_n 0, 1) := by decide +kernel
theorem dX5_setPressure_1 : decode cX5_setPressure 1 = .ok (.getfield 10, 3) := by decide +kernel
theorem dX5_setPressure_4 : decode cX5_setPressure 4 = .ok (.iload_n 1, 1) := by decide +kernel
theorem dX5_setPressure_5 : decode cX5_setPressure 5 = .ok (.invokevirtual 48, 3) := by decide +kernel
theorem dX5_setPressure_8 : decode cX5_setPressure 8 = .ok (.astore 4, 2) := by decide +kernel
theorem dX5_setPressure_10 : decode cX5_setPressure 10 = .ok (.aload 4, 2) := by decide +kernel
theorem dX5_setPressure_12 : decode cX5_setPressure 12 = .ok (.ifnull 23, 3) := by decide +kernel
theorem dX5_setPressure_15 : decode cX5_setPressure 15 = .ok (.lload_n 2, 1) := by decide +kernel
theorem dX5_setPressure_16 : decode cX5_setPressure 16 = .ok (.aload 4, 2) := by decide +kernel
theorem dX5_setPressure_18 : decode cX5_setPressure 18 = .ok (.getfield 52, 3) := by decide +kernel
theorem dX5_setPressure_21 : decode cX5_setPressure 21 = .ok (.lcmp, 1) := by decide +kernel
theorem dX5_setPressure_22 : decode cX5_setPressure 22 = .ok (.ifCond .lt 13, 3) := by decide +kernel
theorem dX5_setPressure_25 : decode cX5_setPressure 25 = .ok (.lload_n 2, 1) := by decide +kernel
theorem dX5_setPressure_26 : decode cX5_setPressure 26 = .ok (.aload 4, 2) := by decide +kernel
theorem dX5_setPressure_28 : decode cX5_setPressure 28 = .ok (.getfield 58, 3) := by decide +kernel
theorem dX5_setPressure_31 : decode cX5_setPressure 31 = .ok (.lcmp, 1) := by decide +kernel
theorem dX5_setPressure_32 : decode cX5_setPressure 32 = .ok (.ifCond .le 6, 3) := by decide +kernel
theorem dX5_setPressure_35 : decode cX5_setPressure 35 = .ok (.bipush (-2), 2) := by decide +kernel
theorem dX5_setPressure_37 : decode cX5_setPressure 37 = .ok (.ireturn, 1) := by decide +kernel
theorem dX5_setPressure_38 : decode cX5_setPressure 38 = .ok (.lload_n 2, 1) := by decide +kernel
theorem dX5_setPressure_39 : decode cX5_setPressure 39 = .ok (.aload 4, 2) := by decide +kernel
theorem dX5_setPressure_41 : decode cX5_setPressure 41 = .ok (.getfield 61, 3) := by decide +kernel
theorem dX5_setPressure_44 : decode cX5_setPressure 44 = .ok (.lcmp, 1) := by decide +kernel
theorem dX5_setPressure_45 : decode cX5_setPressure 45 = .ok (.ifCond .ne 6, 3) := by decide +kernel
theorem dX5_setPressure_48 : decode cX5_setPressure 48 = .ok (.bipush (-5), 2) := by decide +kernel
theorem dX5_setPressure_50 : decode cX5_setPressure 50 = .ok (.ireturn, 1) := by decide +kernel
theorem dX5_setPressure_51 : decode cX5_setPressure 51 = .ok (.aload_n 0, 1) := by decide +kernel
theorem dX5_setPressure_52 : decode cX5_setPressure 52 = .ok (.invokevirtual 38, 3) := by decide +kernel
theorem dX5_setPressure_55 : decode cX5_setPressure 55 = .ok (.aload 4, 2) := by decide +kernel
theorem dX5_setPressure_57 : decode cX5_setPressure 57 = .ok (.lload_n 2, 1) := by decide +kernel
theorem dX5_setPressure_58 : decode cX5_setPressure 58 = .ok (.invokevirtual 64, 3) := by decide +kernel
theorem dX5_setPressure_61 : decode cX5_setPressure 61 = .ok (.iconst 1, 1) := by decide +kernel
theorem dX5_setPressure_62 : decode cX5_setPressure 62 = .ok (.ireturn, 1) := by decide +kernel
abbrev rmX5_setPressure : Room := { frames := 3, cells := 0, slots := 0, locals := 63 }
def w_X5_setPressure (n : Nat) (M : Mem) (t : Nat) (p1 : Int32) (p2 : Int64) (K : Int32 → Mem → Prop) : Prop := ((t ≤ n ∧ kd t = (5, 0)) ∧ (∀ r2, r2 = gR M t 0 → ((r2 ≤ n ∧ kd r2 = (0, 0)) ∧ w_X0_pressureAt n M r2 p1 (fun r5 M4 => ((r5 = 0 → K (-2 : Int32) M4) ∧ (¬ r5 = 0 → ((r5 ≤ n ∧ kd r5 = (3, 0)) ∧ (((lg_cmp p2 (gL M4 r5 0)) < 0 → K (-2 : Int32) M4) ∧ (¬ (lg_cmp p2 (gL M4 r5 0)) < 0 → (((lg_cmp p2 (gL M4 r5 1)) ≤ 0 → ((¬ (lg_cmp p2 (gL M4 r5 2)) = 0 → w_X5_remember n M4 t  (fun M7 => w_X3_become n M7 r5 p2 (fun M8 => K (1 : Int32) M8))) ∧ ((lg_cmp p2 (gL M4 r5 2)) = 0 → K (-5 : Int32) M4))) ∧ (¬ (lg_cmp p2 (gL M4 r5 1)) ≤ 0 → K (-2 : Int32) M4)))))))))))
set_option maxHeartbeats 4000000 in
set_option maxRecDepth 20000 in
theorem c_X5_setPressure (l : Launch) (E : Gl) (n : Nat) (M : Mem) (t : Nat) (p1 : Int32) (p2 : Int64) (K : Int32 → Mem → Prop) (hw : w_X5_setPressure n M t p1 p2 K) : CT E l yX5_setPressure cX5_setPressure 5 (some .int) rmX5_setPressure n M [rV t, iV p1, lV p2] (PI E n K) := by
  refine g_met l (by decide) (Nat.le_of_ble_eq_true rfl) ?_
  intro p e s m args below meth c X hr hlk hnm hSz hOld
  change CX E p s m c _ _ RX5 at X
  unfold w_X5_setPressure at hw
  refine g_aload_n X dX5_setPressure_0 0 rfl ?_
  obtain ⟨hk1, hw⟩ := hw
  refine g_get X (rV (gR M t 0)) dX5_setPressure_1 fl_X5_10 (fun _ => rfl) ⟨hk1, hw⟩ (fun hw => ?_)
  refine g_topR (fun r2 hr2 => ?_)
  have hw := hw r2 hr2
  refine g_iload_n X dX5_setPressure_4 1 rfl ?_
  obtain ⟨hk3, hw⟩ := hw
  refine g_callr (pc' := 8) (rest := []) rfl (fun H locs ls d qR qL => g_runV X cw_X5_48 iv_X0_pressureAt ⟨Nat.le_of_ble_eq_true rfl, Nat.le_of_ble_eq_true rfl⟩ dX5_setPressure_5 (c_X0_pressureAt l E n M r2 p1 _ hw) hk3 rfl rfl (Nat.le_of_ble_eq_true rfl) ⟨Nat.le_of_ble_eq_true rfl, Nat.le_of_ble_eq_true rfl⟩ qR qL) (fun r5 M4 hw => ?_)
  refine g_astore (lv' := [(4, rV r5), (0, rV t), (1, iV p1), (2, lV p2)]) X dX5_setPressure_8 (by decide) rfl ?_
  refine g_aload X dX5_setPressure_10 0 rfl ?_
  refine g_ifnull X 35 dX5_setPressure_12 (by decide) hw (fun hw => ?_) (fun hw => ?_)
  · refine g_bipush X (-2 : Int32) dX5_setPressure_35 (by decide) ?_
    exact g_iret X hr hlk hSz hOld (Nat.le_refl _) dX5_setPressure_37 hw
  · refine g_lload_n X dX5_setPressure_15 3 rfl ?_
    refine g_aload X dX5_setPressure_16 0 rfl ?_
    obtain ⟨hk6, hw⟩ := hw
    refine g_get X (lV (gL M4 r5 0)) dX5_setPressure_18 fl_X5_52 (fun _ => rfl) ⟨hk6, hw⟩ (fun hw => ?_)
    refine g_lcmp X dX5_setPressure_21 ?_
    refine g_if_lt X 35 dX5_setPressure_22 (by decide) hw (fun hw => ?_) (fun hw => ?_)
    · refine g_bipush X (-2 : Int32) dX5_setPressure_35 (by decide) ?_
      exact g_iret X hr hlk hSz hOld (Nat.le_refl _) dX5_setPressure_37 hw
    · refine g_lload_n X dX5_setPressure_25 3 rfl ?_
      refine g_aload X dX5_setPressure_26 0 rfl ?_
      refine g_get X (lV (gL M4 r5 1)) dX5_setPressure_28 fl_X5_58 (fun _ => rfl) ⟨hk6, hw⟩ (fun hw => ?_)
      refine g_lcmp X dX5_setPressure_31 ?_
      refine g_if_le X 38 dX5_setPressure_32 (by decide) hw (fun hw => ?_) (fun hw => ?_)
      · refine g_lload_n X dX5_setPressure_38 3 rfl ?_
        refine g_aload X dX5_setPressure_39 0 rfl ?_
        refine g_get X (lV (gL M4 r5 2)) dX5_setPressure_41 fl_X5_61 (fun _ => rfl) ⟨hk6, hw⟩ (fun hw => ?_)
        refine g_lcmp X dX5_setPressure_44 ?_
        refine g_if_ne X 51 dX5_setPressure_45 (by decide) hw (fun hw => ?_) (fun hw => ?_)
        · refine g_aload_n X dX5_setPressure_51 1 rfl ?_
          refine g_callv (pc' := 55) (rest := []) rfl (fun H locs ls d qR qL => g_runV X cw_X5_38 iv_X5_remember ⟨Nat.le_of_ble_eq_true rfl, Nat.le_of_ble_eq_true rfl⟩ dX5_setPressure_52 (c_X5_remember l E n M4 t  _ hw) hk1 rfl rfl (Nat.le_of_ble_eq_true rfl) ⟨Nat.le_of_ble_eq_true rfl, Nat.le_of_ble_eq_true rfl⟩ qR qL) (fun M7 hw => ?_)
          refine g_aload X dX5_setPressure_55 0 rfl ?_
          refine g_lload_n X dX5_setPressure_57 3 rfl ?_
          refine g_callv (pc' := 61) (rest := []) rfl (fun H locs ls d qR qL => g_runV X cw_X5_64 iv_X3_become ⟨Nat.le_of_ble_eq_true rfl, Nat.le_of_ble_eq_true rfl⟩ dX5_setPressure_58 (c_X3_become l E n M7 r5 p2 _ hw) hk6 rfl rfl (Nat.le_of_ble_eq_true rfl) ⟨Nat.le_of_ble_eq_true rfl, Nat.le_of_ble_eq_true rfl⟩ qR qL) (fun M8 hw => ?_)
          refine g_iconst X (1 : Int32) dX5_setPressure_61 (by decide) ?_
          exact g_iret X hr hlk hSz hOld (Nat.le_refl _) dX5_setPressure_62 hw
        · refine g_bipush X (-5 : Int32) dX5_setPressure_48 (by decide) ?_
          exact g_iret X hr hlk hSz hOld (Nat.le_refl _) dX5_setPressure_50 hw
      · refine g_bipush X (-2 : Int32) dX5_setPressure_35 (by decide) ?_
        exact g_iret X hr hlk hSz hOld (Nat.le_refl _) dX5_setPressure_37 hw
theorem dX5_setInterval_0 : decode cX5_setInterval 0 = .ok (.iload_n 1, 1) := by decide +kernel
theorem dX5_setInterval_1 : decode cX5_setInterval 1 = .ok (.iconst 1, 1) := by decide +kernel
theorem dX5_setInterval_2 : decode cX5_setInterval 2 = .ok (.if_icmp .lt 9, 3) := by decide +kernel
theorem dX5_setInterval_5 : decode cX5_setInterval 5 = .ok (.iload_n 1, 1) := by decide +kernel
theorem dX5_setInterval_6 : decode cX5_setInterval 6 = .ok (.bipush 99, 2) := by decide +kernel
theorem dX5_setInterval_8 : decode cX5_setInterval 8 = .ok (.if_icmp .le 6, 3) := by decide +kernel
theorem dX5_setInterval_11 : decode cX5_setInterval 11 = .ok (.bipush (-2), 2) := by decide +kernel
theorem dX5_setInterval_13 : decode cX5_setInterval 13 = .ok (.ireturn, 1) := by decide +kernel
theorem dX5_setInterval_14 : decode cX5_setInterval 14 = .ok (.iload_n 1, 1) := by decide +kernel
theorem dX5_setInterval_15 : decode cX5_setInterval 15 = .ok (.aload_n 0, 1) := by decide +kernel
theorem dX5_setInterval_16 : decode cX5_setInterval 16 = .ok (.getfield 10, 3) := by decide +kernel
theorem dX5_setInterval_19 : decode cX5_setInterval 19 = .ok (.getfield 68, 3) := by decide +kernel
theorem dX5_setInterval_22 : decode cX5_setInterval 22 = .ok (.if_icmp .ne 6, 3) := by decide +kernel
theorem dX5_setInterval_25 : decode cX5_setInterval 25 = .ok (.bipush (-5), 2) := by decide +kernel
theorem dX5_setInterval_27 : decode cX5_setInterval 27 = .ok (.ireturn, 1) := by decide +kernel
theorem dX5_setInterval_28 : decode cX5_setInterval 28 = .ok (.aload_n 0, 1) := by decide +kernel
theorem dX5_setInterval_29 : decode cX5_setInterval 29 = .ok (.invokevirtual 38, 3) := by decide +kernel
theorem dX5_setInterval_32 : decode cX5_setInterval 32 = .ok (.aload_n 0, 1) := by decide +kernel
theorem dX5_setInterval_33 : decode cX5_setInterval 33 = .ok (.getfield 10, 3) := by decide +kernel
theorem dX5_setInterval_36 : decode cX5_setInterval 36 = .ok (.getfield 68, 3) := by decide +kernel
theorem dX5_setInterval_39 : decode cX5_setInterval 39 = .ok (.istore_n 2, 1) := by decide +kernel
theorem dX5_setInterval_40 : decode cX5_setInterval 40 = .ok (.aload_n 0, 1) := by decide +kernel
theorem dX5_setInterval_41 : decode cX5_setInterval 41 = .ok (.getfield 10, 3) := by decide +kernel
theorem dX5_setInterval_44 : decode cX5_setInterval 44 = .ok (.iload_n 1, 1) := by decide +kernel
theorem dX5_setInterval_45 : decode cX5_setInterval 45 = .ok (.putfield 68, 3) := by decide +kernel
theorem dX5_setInterval_48 : decode cX5_setInterval 48 = .ok (.iload_n 2, 1) := by decide +kernel
theorem dX5_setInterval_49 : decode cX5_setInterval 49 = .ok (.ireturn, 1) := by decide +kernel
abbrev rmX5_setInterval : Room := { frames := 3, cells := 0, slots := 0, locals := 63 }
def w_X5_setInterval (n : Nat) (M : Mem) (t : Nat) (p1 : Int32) (K : Int32 → Mem → Prop) : Prop := ((p1 < (1 : Int32) → K (-2 : Int32) M) ∧ (¬ p1 < (1 : Int32) → ((p1 ≤ (99 : Int32) → ((t ≤ n ∧ kd t = (5, 0)) ∧ (∀ r2, r2 = gR M t 0 → ((r2 ≤ n ∧ kd r2 = (0, 0)) ∧ ((¬ p1 = (gI M r2 5) → w_X5_remember n M t  (fun M4 => (∀ r5, r5 = gR M4 t 0 → ((r5 ≤ n ∧ kd r5 = (0, 0)) ∧ (∀ x7, x7 = gI M4 r5 5 → (∀ r8, r8 = gR M4 t 0 → ((r8 ≤ n ∧ kd r8 = (0, 0)) ∧ (∀ M10, M10 = sI M4 r8 5 p1 → K x7 M10)))))))) ∧ (p1 = (gI M r2 5) → K (-5 : Int32) M)))))) ∧ (¬ p1 ≤ (99 : Int32) → K (-2 : Int32) M))))
set_option maxHeartbeats 4000000 in
set_option maxRecDepth 20000 in
theorem c_X5_setInterval (l : Launch) (E : Gl) (n : Nat) (M : Mem) (t : Nat) (p1 : Int32) (K : Int32 → Mem → Prop) (hw : w_X5_setInterval n M t p1 K) : CT E l yX5_setInterval cX5_setInterval 3 (some .int) rmX5_setInterval n M [rV t, iV p1] (PI E n K) := by
  refine g_met l (by decide) (Nat.le_of_ble_eq_true rfl) ?_
  intro p e s m args below meth c X hr hlk hnm hSz hOld
  change CX E p s m c _ _ RX5 at X
  unfold w_X5_setInterval at hw
  refine g_iload_n X dX5_setInterval_0 1 rfl ?_
  refine g_iconst X (1 : Int32) dX5_setInterval_1 (by decide) ?_
  refine g_icmp_lt X 11 dX5_setInterval_2 (by decide) hw (fun hw => ?_) (fun hw => ?_)
  · refine g_bipush X (-2 : Int32) dX5_setInterval_11 (by decide) ?_
    exact g_iret X hr hlk hSz hOld (Nat.le_refl _) dX5_setInterval_13 hw
  · refine g_iload_n X dX5_setInterval_5 1 rfl ?_
    refine g_bipush X (99 : Int32) dX5_setInterval_6 (by decide) ?_
    refine g_icmp_le X 14 dX5_setInterval_8 (by decide) hw (fun hw => ?_) (fun hw => ?_)
    · refine g_iload_n X dX5_setInterval_14 1 rfl ?_
      refine g_aload_n X dX5_setInterval_15 0 rfl ?_
      obtain ⟨hk1, hw⟩ := hw
      refine g_get X (rV (gR M t 0)) dX5_setInterval_16 fl_X5_10 (fun _ => rfl) ⟨hk1, hw⟩ (fun hw => ?_)
      refine g_topR (fun r2 hr2 => ?_)
      have hw := hw r2 hr2
      obtain ⟨hk3, hw⟩ := hw
      refine g_get X (iV (gI M r2 5)) dX5_setInterval_19 fl_X5_68 (fun _ => rfl) ⟨hk3, hw⟩ (fun hw => ?_)
      refine g_icmp_ne X 28 dX5_setInterval_22 (by decide) hw (fun hw => ?_) (fun hw => ?_)
      · refine g_aload_n X dX5_setInterval_28 0 rfl ?_
        refine g_callv (pc' := 32) (rest := []) rfl (fun H locs ls d qR qL => g_runV X cw_X5_38 iv_X5_remember ⟨Nat.le_of_ble_eq_true rfl, Nat.le_of_ble_eq_true rfl⟩ dX5_setInterval_29 (c_X5_remember l E n M t  _ hw) hk1 rfl rfl (Nat.le_of_ble_eq_true rfl) ⟨Nat.le_of_ble_eq_true rfl, Nat.le_of_ble_eq_true rfl⟩ qR qL) (fun M4 hw => ?_)
        refine g_aload_n X dX5_setInterval_32 0 rfl ?_
        refine g_get X (rV (gR M4 t 0)) dX5_setInterval_33 fl_X5_10 (fun _ => rfl) ⟨hk1, hw⟩ (fun hw => ?_)
        refine g_topR (fun r5 hr5 => ?_)
        have hw := hw r5 hr5
        obtain ⟨hk6, hw⟩ := hw
        refine g_get X (iV (gI M4 r5 5)) dX5_setInterval_36 fl_X5_68 (fun _ => rfl) ⟨hk6, hw⟩ (fun hw => ?_)
        refine g_topI (fun x7 hx7 => ?_)
        have hw := hw x7 hx7
        refine g_istore_n (lv' := [(2, iV x7), (0, rV t), (1, iV p1)]) X dX5_setInterval_39 (by decide) rfl ?_
        refine g_aload_n X dX5_setInterval_40 1 rfl ?_
        refine g_get X (rV (gR M4 t 0)) dX5_setInterval_41 fl_X5_10 (fun _ => rfl) ⟨hk1, hw⟩ (fun hw => ?_)
        refine g_topR (fun r8 hr8 => ?_)
        have hw := hw r8 hr8
        refine g_iload_n X dX5_setInterval_44 2 rfl ?_
        obtain ⟨hk9, hw⟩ := hw
        refine g_putI X dX5_setInterval_45 fl_X5_68 rfl (Or.inl rfl) ⟨hk9, hw⟩ (fun hw => ?_)
        refine g_topM (fun M10 hM10 => ?_)
        have hw := hw M10 hM10
        refine g_iload_n X dX5_setInterval_48 0 rfl ?_
        exact g_iret X hr hlk hSz hOld (Nat.le_refl _) dX5_setInterval_49 hw
      · refine g_bipush X (-5 : Int32) dX5_setInterval_25 (by decide) ?_
        exact g_iret X hr hlk hSz hOld (Nat.le_refl _) dX5_setInterval_27 hw
    · refine g_bipush X (-2 : Int32) dX5_setInterval_11 (by decide) ?_
      exact g_iret X hr hlk hSz hOld (Nat.le_refl _) dX5_setInterval_13 hw
theorem dX5_equip_0 : decode cX5_equip 0 = .ok (.aload_n 0, 1) := by decide +kernel
theorem dX5_equip_1 : decode cX5_equip 1 = .ok (.getfield 10, 3) := by decide +kernel
theorem dX5_equip_4 : decode cX5_equip 4 = .ok (.iload_n 1, 1) := by decide +kernel
theorem dX5_equip_5 : decode cX5_equip 5 = .ok (.invokevirtual 71, 3) := by decide +kernel
theorem dX5_equip_8 : decode cX5_equip 8 = .ok (.astore 4, 2) := by decide +kernel
theorem dX5_equip_10 : decode cX5_equip 10 = .ok (.aload 4, 2) := by decide +kernel
theorem dX5_equip_12 : decode cX5_equip 12 = .ok (.ifnonnull 5, 3) := by decide +kernel
theorem dX5_equip_15 : decode cX5_equip 15 = .ok (.iconst (-1), 1) := by decide +kernel
theorem dX5_equip_16 : decode cX5_equip 16 = .ok (.ireturn, 1) := by decide +kernel
theorem dX5_equip_17 : decode cX5_equip 17 = .ok (.iload_n 2, 1) := by decide +kernel
theorem dX5_equip_18 : decode cX5_equip 18 = .ok (.ifCond .lt 19, 3) := by decide +kernel
theorem dX5_equip_21 : decode cX5_equip 21 = .ok (.iload_n 2, 1) := by decide +kernel
theorem dX5_equip_22 : decode cX5_equip 22 = .ok (.sipush 1000, 3) := by decide +kernel
theorem dX5_equip_25 : decode cX5_equip 25 = .ok (.if_icmp .gt 12, 3) := by decide +kernel
theorem dX5_equip_28 : decode cX5_equip 28 = .ok (.iload_n 3, 1) := by decide +kernel
theorem dX5_equip_29 : decode cX5_equip 29 = .ok (.ifCond .lt 8, 3) := by decide +kernel
theorem dX5_equip_32 : decode cX5_equip 32 = .ok (.iload_n 3, 1) := by decide +kernel
theorem dX5_equip_33 : decode cX5_equip 33 = .ok (.iconst 2, 1) := by decide +kernel
theorem dX5_equip_34 : decode cX5_equip 34 = .ok (.if_icmp .le 6, 3) := by decide +kernel
theorem dX5_equip_37 : decode cX5_equip 37 = .ok (.bipush (-2), 2) := by decide +kernel
theorem dX5_equip_39 : decode cX5_equip 39 = .ok (.ireturn, 1) := by decide +kernel
theorem dX5_equip_40 : decode cX5_equip 40 = .ok (.iload_n 2, 1) := by decide +kernel
theorem dX5_equip_41 : decode cX5_equip 41 = .ok (.aload 4, 2) := by decide +kernel
theorem dX5_equip_43 : decode cX5_equip 43 = .ok (.getfield 75, 3) := by decide +kernel
theorem dX5_equip_46 : decode cX5_equip 46 = .ok (.if_icmp .ne 15, 3) := by decide +kernel
theorem dX5_equip_49 : decode cX5_equip 49 = .ok (.iload_n 3, 1) := by decide +kernel
theorem dX5_equip_50 : decode cX5_equip 50 = .ok (.aload 4, 2) := by decide +kernel
theorem dX5_equip_52 : decode cX5_equip 52 = .ok (.getfield 80, 3) := by decide +kernel
theorem dX5_equip_55 : decode cX5_equip 55 = .ok (.if_icmp .ne 6, 3) := by decide +kernel
theorem dX5_equip_58 : decode cX5_equip 58 = .ok (.bipush (-5), 2) := by decide +kernel
theorem dX5_equip_60 : decode cX5_equip 60 = .ok (.ireturn, 1) := by decide +kernel
theorem dX5_equip_61 : decode cX5_equip 61 = .ok (.aload_n 0, 1) := by decide +kernel
theorem dX5_equip_62 : decode cX5_equip 62 = .ok (.invokevirtual 38, 3) := by decide +kernel
theorem dX5_equip_65 : decode cX5_equip 65 = .ok (.aload 4, 2) := by decide +kernel
theorem dX5_equip_67 : decode cX5_equip 67 = .ok (.getfield 75, 3) := by decide +kernel
theorem dX5_equip_70 : decode cX5_equip 70 = .ok (.istore 5, 2) := by decide +kernel
theorem dX5_equip_72 : decode cX5_equip 72 = .ok (.aload 4, 2) := by decide +kernel
theorem dX5_equip_74 : decode cX5_equip 74 = .ok (.iload_n 2, 1) := by decide +kernel
theorem dX5_equip_75 : decode cX5_equip 75 = .ok (.putfield 75, 3) := by decide +kernel
theorem dX5_equip_78 : decode cX5_equip 78 = .ok (.aload 4, 2) := by decide +kernel
theorem dX5_equip_80 : decode cX5_equip 80 = .ok (.iload_n 3, 1) := by decide +kernel
theorem dX5_equip_81 : decode cX5_equip 81 = .ok (.putfield 80, 3) := by decide +kernel
theorem dX5_equip_84 : decode cX5_equip 84 = .ok (.iload 5, 2) := by decide +kernel
theorem dX5_equip_86 : decode cX5_equip 86 = .ok (.ireturn, 1) := by decide +kernel
abbrev rmX5_equip : Room := { frames := 3, cells := 0, slots := 0, locals := 63 }
def w_X5_equip (n : Nat) (M : Mem) (t : Nat) (p1 : Int32) (p2 : Int32) (p3 : Int32) (K : Int32 → Mem → Prop) : Prop := ((t ≤ n ∧ kd t = (5, 0)) ∧ (∀ r2, r2 = gR M t 0 → ((r2 ≤ n ∧ kd r2 = (0, 0)) ∧ w_X0_headAt n M r2 p1 (fun r5 M4 => ((¬ r5 = 0 → ((p2 < 0 → K (-2 : Int32) M4) ∧ (¬ p2 < 0 → (((1000 : Int32) < p2 → K (-2 : Int32) M4) ∧ (¬ (1000 : Int32) < p2 → ((p3 < 0 → K (-2 : Int32) M4) ∧ (¬ p3 < 0 → ((p3 ≤ (2 : Int32) → ((r5 ≤ n ∧ kd r5 = (1, 0)) ∧ ((¬ p2 = (gI M4 r5 3) → w_X5_remember n M4 t  (fun M7 => (∀ x8, x8 = gI M7 r5 3 → (∀ M9, M9 = sI M7 r5 3 p2 → (∀ M10, M10 = sI M9 r5 4 p3 → K x8 M10))))) ∧ (p2 = (gI M4 r5 3) → ((¬ p3 = (gI M4 r5 4) → w_X5_remember n M4 t  (fun M11 => (∀ x12, x12 = gI M11 r5 3 → (∀ M13, M13 = sI M11 r5 3 p2 → (∀ M14, M14 = sI M13 r5 4 p3 → K x12 M14))))) ∧ (p3 = (gI M4 r5 4) → K (-5 : Int32) M4)))))) ∧ (¬ p3 ≤ (2 : Int32) → K (-2 : Int32) M4))))))))) ∧ (r5 = 0 → K (-1 : Int32) M4))))))
set_option maxHeartbeats 4000000 in
set_option maxRecDepth 20000 in
theorem c_X5_equip (l : Launch) (E : Gl) (n : Nat) (M : Mem) (t : Nat) (p1 : Int32) (p2 : Int32) (p3 : Int32) (K : Int32 → Mem → Prop) (hw : w_X5_equip n M t p1 p2 p3 K) : CT E l yX5_equip cX5_equip 6 (some .int) rmX5_equip n M [rV t, iV p1, iV p2, iV p3] (PI E n K) := by
  refine g_met l (by decide) (Nat.le_of_ble_eq_true rfl) ?_
  intro p e s m args below meth c X hr hlk hnm hSz hOld
  change CX E p s m c _ _ RX5 at X
  unfold w_X5_equip at hw
  refine g_aload_n X dX5_equip_0 0 rfl ?_
  obtain ⟨hk1, hw⟩ := hw
  refine g_get X (rV (gR M t 0)) dX5_equip_1 fl_X5_10 (fun _ => rfl) ⟨hk1, hw⟩ (fun hw => ?_)
  refine g_topR (fun r2 hr2 => ?_)
  have hw := hw r2 hr2
  refine g_iload_n X dX5_equip_4 1 rfl ?_
  obtain ⟨hk3, hw⟩ := hw
  refine g_callr (pc' := 8) (rest := []) rfl (fun H locs ls d qR qL => g_runV X cw_X5_71 iv_X0_headAt ⟨Nat.le_of_ble_eq_true rfl, Nat.le_of_ble_eq_true rfl⟩ dX5_equip_5 (c_X0_headAt l E n M r2 p1 _ hw) hk3 rfl rfl (Nat.le_of_ble_eq_true rfl) ⟨Nat.le_of_ble_eq_true rfl, Nat.le_of_ble_eq_true rfl⟩ qR qL) (fun r5 M4 hw => ?_)
  refine g_astore (lv' := [(4, rV r5), (0, rV t), (1, iV p1), (2, iV p2), (3, iV p3)]) X dX5_equip_8 (by decide) rfl ?_
  refine g_aload X dX5_equip_10 0 rfl ?_
  refine g_ifnonnull X 17 dX5_equip_12 (by decide) hw (fun hw => ?_) (fun hw => ?_)
  · refine g_iload_n X dX5_equip_17 3 rfl ?_
    refine g_if_lt X 37 dX5_equip_18 (by decide) hw (fun hw => ?_) (fun hw => ?_)
    · refine g_bipush X (-2 : Int32) dX5_equip_37 (by decide) ?_
      exact g_iret X hr hlk hSz hOld (Nat.le_refl _) dX5_equip_39 hw
    · refine g_iload_n X dX5_equip_21 3 rfl ?_
      refine g_sipush X (1000 : Int32) dX5_equip_22 (by decide) ?_
      refine g_icmp_gt X 37 dX5_equip_25 (by decide) hw (fun hw => ?_) (fun hw => ?_)
      · refine g_bipush X (-2 : Int32) dX5_equip_37 (by decide) ?_
        exact g_iret X hr hlk hSz hOld (Nat.le_refl _) dX5_equip_39 hw
      · refine g_iload_n X dX5_equip_28 4 rfl ?_
        refine g_if_lt X 37 dX5_equip_29 (by decide) hw (fun hw => ?_) (fun hw => ?_)
        · refine g_bipush X (-2 : Int32) dX5_equip_37 (by decide) ?_
          exact g_iret X hr hlk hSz hOld (Nat.le_refl _) dX5_equip_39 hw
        · refine g_iload_n X dX5_equip_32 4 rfl ?_
          refine g_iconst X (2 : Int32) dX5_equip_33 (by decide) ?_
          refine g_icmp_le X 40 dX5_equip_34 (by decide) hw (fun hw => ?_) (fun hw => ?_)
          · refine g_iload_n X dX5_equip_40 3 rfl ?_
            refine g_aload X dX5_equip_41 0 rfl ?_
            obtain ⟨hk6, hw⟩ := hw
            refine g_get X (iV (gI M4 r5 3)) dX5_equip_43 fl_X5_75 (fun _ => rfl) ⟨hk6, hw⟩ (fun hw => ?_)
            refine g_icmp_ne X 61 dX5_equip_46 (by decide) hw (fun hw => ?_) (fun hw => ?_)
            · refine g_aload_n X dX5_equip_61 1 rfl ?_
              refine g_callv (pc' := 65) (rest := []) rfl (fun H locs ls d qR qL => g_runV X cw_X5_38 iv_X5_remember ⟨Nat.le_of_ble_eq_true rfl, Nat.le_of_ble_eq_true rfl⟩ dX5_equip_62 (c_X5_remember l E n M4 t  _ hw) hk1 rfl rfl (Nat.le_of_ble_eq_true rfl) ⟨Nat.le_of_ble_eq_true rfl, Nat.le_of_ble_eq_true rfl⟩ qR qL) (fun M7 hw => ?_)
              refine g_aload X dX5_equip_65 0 rfl ?_
              refine g_get X (iV (gI M7 r5 3)) dX5_equip_67 fl_X5_75 (fun _ => rfl) ⟨hk6, hw⟩ (fun hw => ?_)
              refine g_topI (fun x8 hx8 => ?_)
              have hw := hw x8 hx8
              refine g_istore (lv' := [(5, iV x8), (4, rV r5), (0, rV t), (1, iV p1), (2, iV p2), (3, iV p3)]) X dX5_equip_70 (by decide) rfl ?_
              refine g_aload X dX5_equip_72 1 rfl ?_
              refine g_iload_n X dX5_equip_74 4 rfl ?_
              refine g_putI X dX5_equip_75 fl_X5_75 rfl (Or.inl rfl) ⟨hk6, hw⟩ (fun hw => ?_)
              refine g_topM (fun M9 hM9 => ?_)
              have hw := hw M9 hM9
              refine g_aload X dX5_equip_78 1 rfl ?_
              refine g_iload_n X dX5_equip_80 5 rfl ?_
              refine g_putI X dX5_equip_81 fl_X5_80 rfl (Or.inl rfl) ⟨hk6, hw⟩ (fun hw => ?_)
              refine g_topM (fun M10 hM10 => ?_)
              have hw := hw M10 hM10
              refine g_iload X dX5_equip_84 0 rfl ?_
              exact g_iret X hr hlk hSz hOld (Nat.le_refl _) dX5_equip_86 hw
            · refine g_iload_n X dX5_equip_49 4 rfl ?_
              refine g_aload X dX5_equip_50 0 rfl ?_
              refine g_get X (iV (gI M4 r5 4)) dX5_equip_52 fl_X5_80 (fun _ => rfl) ⟨hk6, hw⟩ (fun hw => ?_)
              refine g_icmp_ne X 61 dX5_equip_55 (by decide) hw (fun hw => ?_) (fun hw => ?_)
              · refine g_aload_n X dX5_equip_61 1 rfl ?_
                refine g_callv (pc' := 65) (rest := []) rfl (fun H locs ls d qR qL => g_runV X cw_X5_38 iv_X5_remember ⟨Nat.le_of_ble_eq_true rfl, Nat.le_of_ble_eq_true rfl⟩ dX5_equip_62 (c_X5_remember l E n M4 t  _ hw) hk1 rfl rfl (Nat.le_of_ble_eq_true rfl) ⟨Nat.le_of_ble_eq_true rfl, Nat.le_of_ble_eq_true rfl⟩ qR qL) (fun M11 hw => ?_)
                refine g_aload X dX5_equip_65 0 rfl ?_
                refine g_get X (iV (gI M11 r5 3)) dX5_equip_67 fl_X5_75 (fun _ => rfl) ⟨hk6, hw⟩ (fun hw => ?_)
                refine g_topI (fun x12 hx12 => ?_)
                have hw := hw x12 hx12
                refine g_istore (lv' := [(5, iV x12), (4, rV r5), (0, rV t), (1, iV p1), (2, iV p2), (3, iV p3)]) X dX5_equip_70 (by decide) rfl ?_
                refine g_aload X dX5_equip_72 1 rfl ?_
                refine g_iload_n X dX5_equip_74 4 rfl ?_
                refine g_putI X dX5_equip_75 fl_X5_75 rfl (Or.inl rfl) ⟨hk6, hw⟩ (fun hw => ?_)
                refine g_topM (fun M13 hM13 => ?_)
                have hw := hw M13 hM13
                refine g_aload X dX5_equip_78 1 rfl ?_
                refine g_iload_n X dX5_equip_80 5 rfl ?_
                refine g_putI X dX5_equip_81 fl_X5_80 rfl (Or.inl rfl) ⟨hk6, hw⟩ (fun hw => ?_)
                refine g_topM (fun M14 hM14 => ?_)
                have hw := hw M14 hM14
                refine g_iload X dX5_equip_84 0 rfl ?_
                exact g_iret X hr hlk hSz hOld (Nat.le_refl _) dX5_equip_86 hw
              · refine g_bipush X (-5 : Int32) dX5_equip_58 (by decide) ?_
                exact g_iret X hr hlk hSz hOld (Nat.le_refl _) dX5_equip_60 hw
          · refine g_bipush X (-2 : Int32) dX5_equip_37 (by decide) ?_
            exact g_iret X hr hlk hSz hOld (Nat.le_refl _) dX5_equip_39 hw
  · refine g_iconst X (-1 : Int32) dX5_equip_15 (by decide) ?_
    exact g_iret X hr hlk hSz hOld (Nat.le_refl _) dX5_equip_16 hw
theorem dX5_calibrate_0 : decode cX5_calibrate 0 = .ok (.aload_n 0, 1) := by decide +kernel
theorem dX5_calibrate_1 : decode cX5_calibrate 1 = .ok (.getfield 10, 3) := by decide +kernel
theorem dX5_calibrate_4 : decode cX5_calibrate 4 = .ok (.iload_n 1, 1) := by decide +kernel
theorem dX5_calibrate_5 : decode cX5_calibrate 5 = .ok (.invokevirtual 71, 3) := by decide +kernel
theorem dX5_calibrate_8 : decode cX5_calibrate 8 = .ok (.astore_n 3, 1) := by decide +kernel
theorem dX5_calibrate_9 : decode cX5_calibrate 9 = .ok (.aload_n 3, 1) := by decide +kernel
theorem dX5_calibrate_10 : decode cX5_calibrate 10 = .ok (.ifnonnull 5, 3) := by decide +kernel
theorem dX5_calibrate_13 : decode cX5_calibrate 13 = .ok (.iconst (-1), 1) := by decide +kernel
theorem dX5_calibrate_14 : decode cX5_calibrate 14 = .ok (.ireturn, 1) := by decide +kernel
theorem dX5_calibrate_15 : decode cX5_calibrate 15 = .ok (.iload_n 2, 1) := by decide +kernel
theorem dX5_calibrate_16 : decode cX5_calibrate 16 = .ok (.iconst 1, 1) := by decide +kernel
theorem dX5_calibrate_17 : decode cX5_calibrate 17 = .ok (.if_icmp .lt 9, 3) := by decide +kernel
theorem dX5_calibrate_20 : decode cX5_calibrate 20 = .ok (.iload_n 2, 1) := by decide +kernel
theorem dX5_calibrate_21 : decode cX5_calibrate 21 = .ok (.ldc 83, 2) := by decide +kernel
theorem dX5_calibrate_23 : decode cX5_calibrate 23 = .ok (.if_icmp .le 6, 3) := by decide +kernel
theorem dX5_calibrate_26 : decode cX5_calibrate 26 = .ok (.bipush (-2), 2) := by decide +kernel
theorem dX5_calibrate_28 : decode cX5_calibrate 28 = .ok (.ireturn, 1) := by decide +kernel
theorem dX5_calibrate_29 : decode cX5_calibrate 29 = .ok (.aload_n 3, 1) := by decide +kernel
theorem dX5_calibrate_30 : decode cX5_calibrate 30 = .ok (.getfield 84, 3) := by decide +kernel
theorem dX5_calibrate_33 : decode cX5_calibrate 33 = .ok (.bipush (-5), 2) := by decide +kernel
theorem dX5_calibrate_35 : decode cX5_calibrate 35 = .ok (.if_icmp .eq 6, 3) := by decide +kernel
theorem dX5_calibrate_38 : decode cX5_calibrate 38 = .ok (.bipush (-4), 2) := by decide +kernel
theorem dX5_calibrate_40 : decode cX5_calibrate 40 = .ok (.ireturn, 1) := by decide +kernel
theorem dX5_calibrate_41 : decode cX5_calibrate 41 = .ok (.aload_n 0, 1) := by decide +kernel
theorem dX5_calibrate_42 : decode cX5_calibrate 42 = .ok (.invokevirtual 38, 3) := by decide +kernel
theorem dX5_calibrate_45 : decode cX5_calibrate 45 = .ok (.aload_n 3, 1) := by decide +kernel
theorem dX5_calibrate_46 : decode cX5_calibrate 46 = .ok (.getfield 87, 3) := by decide +kernel
theorem dX5_calibrate_49 : decode cX5_calibrate 49 = .ok (.istore 4, 2) := by decide +kernel
theorem dX5_calibrate_51 : decode cX5_calibrate 51 = .ok (.aload_n 0, 1) := by decide +kernel
theorem dX5_calibrate_52 : decode cX5_calibrate 52 = .ok (.getfield 10, 3) := by decide +kernel
theorem dX5_calibrate_55 : decode cX5_calibrate 55 = .ok (.aload_n 3, 1) := by decide +kernel
theorem dX5_calibrate_56 : decode cX5_calibrate 56 = .ok (.iload_n 2, 1) := by decide +kernel
theorem dX5_calibrate_57 : decode cX5_calibrate 57 = .ok (.invokevirtual 90, 3) := by decide +kernel
theorem dX5_calibrate_60 : decode cX5_calibrate 60 = .ok (.iload 4, 2) := by decide +kernel
theorem dX5_calibrate_62 : decode cX5_calibrate 62 = .ok (.ireturn, 1) := by decide +kernel
abbrev rmX5_calibrate : Room := { frames := 3, cells := 0, slots := 0, locals := 63 }
def w_X5_calibrate (n : Nat) (M : Mem) (t : Nat) (p1 : Int32) (p2 : Int32) (K : Int32 → Mem → Prop) : Prop := ((t ≤ n ∧ kd t = (5, 0)) ∧ (∀ r2, r2 = gR M t 0 → ((r2 ≤ n ∧ kd r2 = (0, 0)) ∧ w_X0_headAt n M r2 p1 (fun r5 M4 => ((¬ r5 = 0 → ((p2 < (1 : Int32) → K (-2 : Int32) M4) ∧ (¬ p2 < (1 : Int32) → ((p2 ≤ (99999 : Int32) → ((r5 ≤ n ∧ kd r5 = (1, 0)) ∧ (((gI M4 r5 6) = (-5 : Int32) → w_X5_remember n M4 t  (fun M7 => (∀ x8, x8 = gI M7 r5 5 → (∀ r9, r9 = gR M7 t 0 → ((r9 ≤ n ∧ kd r9 = (0, 0)) ∧ w_X0_calibrateWith n M7 r9 r5 p2 (fun M11 => K x8 M11)))))) ∧ (¬ (gI M4 r5 6) = (-5 : Int32) → K (-4 : Int32) M4)))) ∧ (¬ p2 ≤ (99999 : Int32) → K (-2 : Int32) M4))))) ∧ (r5 = 0 → K (-1 : Int32) M4))))))
set_option maxHeartbeats 4000000 in
set_option maxRecDepth 20000 in
theorem c_X5_calibrate (l : Launch) (E : Gl) (n : Nat) (M : Mem) (t : Nat) (p1 : Int32) (p2 : Int32) (K : Int32 → Mem → Prop) (hw : w_X5_calibrate n M t p1 p2 K) : CT E l yX5_calibrate cX5_calibrate 5 (some .int) rmX5_calibrate n M [rV t, iV p1, iV p2] (PI E n K) := by
  refine g_met l (by decide) (Nat.le_of_ble_eq_true rfl) ?_
  intro p e s m args below meth c X hr hlk hnm hSz hOld
  change CX E p s m c _ _ RX5 at X
  unfold w_X5_calibrate at hw
  refine g_aload_n X dX5_calibrate_0 0 rfl ?_
  obtain ⟨hk1, hw⟩ := hw
  refine g_get X (rV (gR M t 0)) dX5_calibrate_1 fl_X5_10 (fun _ => rfl) ⟨hk1, hw⟩ (fun hw => ?_)
  refine g_topR (fun r2 hr2 => ?_)
  have hw := hw r2 hr2
  refine g_iload_n X dX5_calibrate_4 1 rfl ?_
  obtain ⟨hk3, hw⟩ := hw
  refine g_callr (pc' := 8) (rest := []) rfl (fun H locs ls d qR qL => g_runV X cw_X5_71 iv_X0_headAt ⟨Nat.le_of_ble_eq_true rfl, Nat.le_of_ble_eq_true rfl⟩ dX5_calibrate_5 (c_X0_headAt l E n M r2 p1 _ hw) hk3 rfl rfl (Nat.le_of_ble_eq_true rfl) ⟨Nat.le_of_ble_eq_true rfl, Nat.le_of_ble_eq_true rfl⟩ qR qL) (fun r5 M4 hw => ?_)
  refine g_astore_n (lv' := [(3, rV r5), (0, rV t), (1, iV p1), (2, iV p2)]) X dX5_calibrate_8 (by decide) rfl ?_
  refine g_aload_n X dX5_calibrate_9 0 rfl ?_
  refine g_ifnonnull X 15 dX5_calibrate_10 (by decide) hw (fun hw => ?_) (fun hw => ?_)
  · refine g_iload_n X dX5_calibrate_15 3 rfl ?_
    refine g_iconst X (1 : Int32) dX5_calibrate_16 (by decide) ?_
    refine g_icmp_lt X 26 dX5_calibrate_17 (by decide) hw (fun hw => ?_) (fun hw => ?_)
    · refine g_bipush X (-2 : Int32) dX5_calibrate_26 (by decide) ?_
      exact g_iret X hr hlk hSz hOld (Nat.le_refl _) dX5_calibrate_28 hw
    · refine g_iload_n X dX5_calibrate_20 3 rfl ?_
      refine g_ldc X (99999 : Int32) dX5_calibrate_21 wk_X5_83 ?_
      refine g_icmp_le X 29 dX5_calibrate_23 (by decide) hw (fun hw => ?_) (fun hw => ?_)
      · refine g_aload_n X dX5_calibrate_29 0 rfl ?_
        obtain ⟨hk6, hw⟩ := hw
        refine g_get X (iV (gI M4 r5 6)) dX5_calibrate_30 fl_X5_84 (fun _ => rfl) ⟨hk6, hw⟩ (fun hw => ?_)
        refine g_bipush X (-5 : Int32) dX5_calibrate_33 (by decide) ?_
        refine g_icmp_eq X 41 dX5_calibrate_35 (by decide) hw (fun hw => ?_) (fun hw => ?_)
        · refine g_aload_n X dX5_calibrate_41 1 rfl ?_
          refine g_callv (pc' := 45) (rest := []) rfl (fun H locs ls d qR qL => g_runV X cw_X5_38 iv_X5_remember ⟨Nat.le_of_ble_eq_true rfl, Nat.le_of_ble_eq_true rfl⟩ dX5_calibrate_42 (c_X5_remember l E n M4 t  _ hw) hk1 rfl rfl (Nat.le_of_ble_eq_true rfl) ⟨Nat.le_of_ble_eq_true rfl, Nat.le_of_ble_eq_true rfl⟩ qR qL) (fun M7 hw => ?_)
          refine g_aload_n X dX5_calibrate_45 0 rfl ?_
          refine g_get X (iV (gI M7 r5 5)) dX5_calibrate_46 fl_X5_87 (fun _ => rfl) ⟨hk6, hw⟩ (fun hw => ?_)
          refine g_topI (fun x8 hx8 => ?_)
          have hw := hw x8 hx8
          refine g_istore (lv' := [(4, iV x8), (3, rV r5), (0, rV t), (1, iV p1), (2, iV p2)]) X dX5_calibrate_49 (by decide) rfl ?_
          refine g_aload_n X dX5_calibrate_51 2 rfl ?_
          refine g_get X (rV (gR M7 t 0)) dX5_calibrate_52 fl_X5_10 (fun _ => rfl) ⟨hk1, hw⟩ (fun hw => ?_)
          refine g_topR (fun r9 hr9 => ?_)
          have hw := hw r9 hr9
          refine g_aload_n X dX5_calibrate_55 1 rfl ?_
          refine g_iload_n X dX5_calibrate_56 4 rfl ?_
          obtain ⟨hk10, hw⟩ := hw
          refine g_callv (pc' := 60) (rest := []) rfl (fun H locs ls d qR qL => g_runV X cw_X5_90 iv_X0_calibrateWith ⟨Nat.le_of_ble_eq_true rfl, Nat.le_of_ble_eq_true rfl⟩ dX5_calibrate_57 (c_X0_calibrateWith l E n M7 r9 r5 p2 _ hw) hk10 rfl rfl (Nat.le_of_ble_eq_true rfl) ⟨Nat.le_of_ble_eq_true rfl, Nat.le_of_ble_eq_true rfl⟩ qR qL) (fun M11 hw => ?_)
          refine g_iload X dX5_calibrate_60 0 rfl ?_
          exact g_iret X hr hlk hSz hOld (Nat.le_refl _) dX5_calibrate_62 hw
        · refine g_bipush X (-4 : Int32) dX5_calibrate_38 (by decide) ?_
          exact g_iret X hr hlk hSz hOld (Nat.le_refl _) dX5_calibrate_40 hw
      · refine g_bipush X (-2 : Int32) dX5_calibrate_26 (by decide) ?_
        exact g_iret X hr hlk hSz hOld (Nat.le_refl _) dX5_calibrate_28 hw
  · refine g_iconst X (-1 : Int32) dX5_calibrate_13 (by decide) ?_
    exact g_iret X hr hlk hSz hOld (Nat.le_refl _) dX5_calibrate_14 hw
theorem dX5_add_0 : decode cX5_add 0 = .ok (.iload_n 2, 1) := by decide +kernel
theorem dX5_add_1 : decode cX5_add 1 = .ok (.ifCond .lt 21, 3) := by decide +kernel
theorem dX5_add_4 : decode cX5_add 4 = .ok (.iload_n 2, 1) := by decide +kernel
theorem dX5_add_5 : decode cX5_add 5 = .ok (.ldc 83, 2) := by decide +kernel
theorem dX5_add_7 : decode cX5_add 7 = .ok (.if_icmp .gt 15, 3) := by decide +kernel
theorem dX5_add_10 : decode cX5_add 10 = .ok (.iload_n 3, 1) := by decide +kernel
theorem dX5_add_11 : decode cX5_add 11 = .ok (.iconst 1, 1) := by decide +kernel
theorem dX5_add_12 : decode cX5_add 12 = .ok (.if_icmp .lt 10, 3) := by decide +kernel
theorem dX5_add_15 : decode cX5_add 15 = .ok (.iload_n 3, 1) := by decide +kernel
theorem dX5_add_16 : decode cX5_add 16 = .ok (.sipush 999, 3) := by decide +kernel
theorem dX5_add_19 : decode cX5_add 19 = .ok (.if_icmp .le 6, 3) := by decide +kernel
theorem dX5_add_22 : decode cX5_add 22 = .ok (.bipush (-2), 2) := by decide +kernel
theorem dX5_add_24 : decode cX5_add 24 = .ok (.ireturn, 1) := by decide +kernel
theorem dX5_add_25 : decode cX5_add 25 = .ok (.aload_n 0, 1) := by decide +kernel
theorem dX5_add_26 : decode cX5_add 26 = .ok (.getfield 10, 3) := by decide +kernel
theorem dX5_add_29 : decode cX5_add 29 = .ok (.getfield 41, 3) := by decide +kernel
theorem dX5_add_32 : decode cX5_add 32 = .ok (.bipush 60, 2) := by decide +kernel
theorem dX5_add_34 : decode cX5_add 34 = .ok (.if_icmp .lt 6, 3) := by decide +kernel
theorem dX5_add_37 : decode cX5_add 37 = .ok (.bipush (-3), 2) := by decide +kernel
theorem dX5_add_39 : decode cX5_add 39 = .ok (.ireturn, 1) := by decide +kernel
theorem dX5_add_40 : decode cX5_add 40 = .ok (.aload_n 0, 1) := by decide +kernel
theorem dX5_add_41 : decode cX5_add 41 = .ok (.invokevirtual 38, 3) := by decide +kernel
theorem dX5_add_44 : decode cX5_add 44 = .ok (.aload_n 0, 1) := by decide +kernel
theorem dX5_add_45 : decode cX5_add 45 = .ok (.getfield 10, 3) := by decide +kernel
theorem dX5_add_48 : decode cX5_add 48 = .ok (.iload_n 1, 1) := by decide +kernel
theorem dX5_add_49 : decode cX5_add 49 = .ok (.iload_n 2, 1) := by decide +kernel
theorem dX5_add_50 : decode cX5_add 50 = .ok (.iload_n 3, 1) := by decide +kernel
theorem dX5_add_51 : decode cX5_add 51 = .ok (.invokevirtual 94, 3) := by decide +kernel
theorem dX5_add_54 : decode cX5_add 54 = .ok (.ireturn, 1) := by decide +kernel
abbrev rmX5_add : Room := { frames := 3, cells := 0, slots := 0, locals := 63 }
def w_X5_add (n : Nat) (M : Mem) (t : Nat) (p1 : Int32) (p2 : Int32) (p3 : Int32) (K : Int32 → Mem → Prop) : Prop := ((p2 < 0 → K (-2 : Int32) M) ∧ (¬ p2 < 0 → (((99999 : Int32) < p2 → K (-2 : Int32) M) ∧ (¬ (99999 : Int32) < p2 → ((p3 < (1 : Int32) → K (-2 : Int32) M) ∧ (¬ p3 < (1 : Int32) → ((p3 ≤ (999 : Int32) → ((t ≤ n ∧ kd t = (5, 0)) ∧ (∀ r2, r2 = gR M t 0 → ((r2 ≤ n ∧ kd r2 = (0, 0)) ∧ (((gI M r2 7) < (60 : Int32) → w_X5_remember n M t  (fun M4 => (∀ r5, r5 = gR M4 t 0 → ((r5 ≤ n ∧ kd r5 = (0, 0)) ∧ w_X0_addPart n M4 r5 p1 p2 p3 (fun x8 M7 => K x8 M7))))) ∧ (¬ (gI M r2 7) < (60 : Int32) → K (-3 : Int32) M)))))) ∧ (¬ p3 ≤ (999 : Int32) → K (-2 : Int32) M))))))))
set_option maxHeartbeats 4000000 in
set_option maxRecDepth 20000 in
theorem c_X5_add (l : Launch) (E : Gl) (n : Nat) (M : Mem) (t : Nat) (p1 : Int32) (p2 : Int32) (p3 : Int32) (K : Int32 → Mem → Prop) (hw : w_X5_add n M t p1 p2 p3 K) : CT E l yX5_add cX5_add 4 (some .int) rmX5_add n M [rV t, iV p1, iV p2, iV p3] (PI E n K) := by
  refine g_met l (by decide) (Nat.le_of_ble_eq_true rfl) ?_
  intro p e s m args below meth c X hr hlk hnm hSz hOld
  change CX E p s m c _ _ RX5 at X
  unfold w_X5_add at hw
  refine g_iload_n X dX5_add_0 2 rfl ?_
  refine g_if_lt X 22 dX5_add_1 (by decide) hw (fun hw => ?_) (fun hw => ?_)
  · refine g_bipush X (-2 : Int32) dX5_add_22 (by decide) ?_
    exact g_iret X hr hlk hSz hOld (Nat.le_refl _) dX5_add_24 hw
  · refine g_iload_n X dX5_add_4 2 rfl ?_
    refine g_ldc X (99999 : Int32) dX5_add_5 wk_X5_83 ?_
    refine g_icmp_gt X 22 dX5_add_7 (by decide) hw (fun hw => ?_) (fun hw => ?_)
    · refine g_bipush X (-2 : Int32) dX5_add_22 (by decide) ?_
      exact g_iret X hr hlk hSz hOld (Nat.le_refl _) dX5_add_24 hw
    · refine g_iload_n X dX5_add_10 3 rfl ?_
      refine g_iconst X (1 : Int32) dX5_add_11 (by decide) ?_
      refine g_icmp_lt X 22 dX5_add_12 (by decide) hw (fun hw => ?_) (fun hw => ?_)
      · refine g_bipush X (-2 : Int32) dX5_add_22 (by decide) ?_
        exact g_iret X hr hlk hSz hOld (Nat.le_refl _) dX5_add_24 hw
      · refine g_iload_n X dX5_add_15 3 rfl ?_
        refine g_sipush X (999 : Int32) dX5_add_16 (by decide) ?_
        refine g_icmp_le X 25 dX5_add_19 (by decide) hw (fun hw => ?_) (fun hw => ?_)
        · refine g_aload_n X dX5_add_25 0 rfl ?_
          obtain ⟨hk1, hw⟩ := hw
          refine g_get X (rV (gR M t 0)) dX5_add_26 fl_X5_10 (fun _ => rfl) ⟨hk1, hw⟩ (fun hw => ?_)
          refine g_topR (fun r2 hr2 => ?_)
          have hw := hw r2 hr2
          obtain ⟨hk3, hw⟩ := hw
          refine g_get X (iV (gI M r2 7)) dX5_add_29 fl_X5_41 (fun _ => rfl) ⟨hk3, hw⟩ (fun hw => ?_)
          refine g_bipush X (60 : Int32) dX5_add_32 (by decide) ?_
          refine g_icmp_lt X 40 dX5_add_34 (by decide) hw (fun hw => ?_) (fun hw => ?_)
          · refine g_aload_n X dX5_add_40 0 rfl ?_
            refine g_callv (pc' := 44) (rest := []) rfl (fun H locs ls d qR qL => g_runV X cw_X5_38 iv_X5_remember ⟨Nat.le_of_ble_eq_true rfl, Nat.le_of_ble_eq_true rfl⟩ dX5_add_41 (c_X5_remember l E n M t  _ hw) hk1 rfl rfl (Nat.le_of_ble_eq_true rfl) ⟨Nat.le_of_ble_eq_true rfl, Nat.le_of_ble_eq_true rfl⟩ qR qL) (fun M4 hw => ?_)
            refine g_aload_n X dX5_add_44 0 rfl ?_
            refine g_get X (rV (gR M4 t 0)) dX5_add_45 fl_X5_10 (fun _ => rfl) ⟨hk1, hw⟩ (fun hw => ?_)
            refine g_topR (fun r5 hr5 => ?_)
            have hw := hw r5 hr5
            refine g_iload_n X dX5_add_48 1 rfl ?_
            refine g_iload_n X dX5_add_49 2 rfl ?_
            refine g_iload_n X dX5_add_50 3 rfl ?_
            obtain ⟨hk6, hw⟩ := hw
            refine g_calli (pc' := 54) (rest := []) rfl (fun H locs ls d qR qL => g_runV X cw_X5_94 iv_X0_addPart ⟨Nat.le_of_ble_eq_true rfl, Nat.le_of_ble_eq_true rfl⟩ dX5_add_51 (c_X0_addPart l E n M4 r5 p1 p2 p3 _ hw) hk6 rfl rfl (Nat.le_of_ble_eq_true rfl) ⟨Nat.le_of_ble_eq_true rfl, Nat.le_of_ble_eq_true rfl⟩ qR qL) (fun x8 M7 hw => ?_)
            exact g_iret X hr hlk hSz hOld (Nat.le_refl _) dX5_add_54 hw
          · refine g_bipush X (-3 : Int32) dX5_add_37 (by decide) ?_
            exact g_iret X hr hlk hSz hOld (Nat.le_refl _) dX5_add_39 hw
        · refine g_bipush X (-2 : Int32) dX5_add_22 (by decide) ?_
          exact g_iret X hr hlk hSz hOld (Nat.le_refl _) dX5_add_24 hw
theorem dX5_doSteps_0 : decode cX5_doSteps 0 = .ok (.aload_n 0, 1) := by decide +kernel
theorem dX5_doSteps_1 : decode cX5_doSteps 1 = .ok (.invokevirtual 38, 3) := by decide +kernel
theorem dX5_doSteps_4 : decode cX5_doSteps 4 = .ok (.iconst 0, 1) := by decide +kernel
theorem dX5_doSteps_5 : decode cX5_doSteps 5 = .ok (.istore_n 2, 1) := by decide +kernel
theorem dX5_doSteps_6 : decode cX5_doSteps 6 = .ok (.iconst 0, 1) := by decide +kernel
theorem dX5_doSteps_7 : decode cX5_doSteps 7 = .ok (.istore_n 3, 1) := by decide +kernel
theorem dX5_doSteps_8 : decode cX5_doSteps 8 = .ok (.iload_n 3, 1) := by decide +kernel
theorem dX5_doSteps_9 : decode cX5_doSteps 9 = .ok (.iload_n 1, 1) := by decide +kernel
theorem dX5_doSteps_10 : decode cX5_doSteps 10 = .ok (.if_icmp .ge 22, 3) := by decide +kernel
theorem dX5_doSteps_13 : decode cX5_doSteps 13 = .ok (.aload_n 0, 1) := by decide +kernel
theorem dX5_doSteps_14 : decode cX5_doSteps 14 = .ok (.getfield 10, 3) := by decide +kernel
theorem dX5_doSteps_17 : decode cX5_doSteps 17 = .ok (.invokevirtual 249, 3) := by decide +kernel
theorem dX5_doSteps_20 : decode cX5_doSteps 20 = .ok (.ifCond .eq 6, 3) := by decide +kernel
theorem dX5_doSteps_23 : decode cX5_doSteps 23 = .ok (.iinc 2 1, 3) := by decide +kernel
theorem dX5_doSteps_26 : decode cX5_doSteps 26 = .ok (.iinc 3 1, 3) := by decide +kernel
theorem dX5_doSteps_29 : decode cX5_doSteps 29 = .ok (.goto (-21), 3) := by decide +kernel
theorem dX5_doSteps_32 : decode cX5_doSteps 32 = .ok (.iload_n 2, 1) := by decide +kernel
theorem dX5_doSteps_33 : decode cX5_doSteps 33 = .ok (.ireturn, 1) := by decide +kernel
abbrev rmX5_doSteps : Room := { frames := 4, cells := 0, slots := 0, locals := 93 }
def w_X5_doSteps_L8 (n : Nat) (K : Int32 → Mem → Prop) : Nat → Mem → Nat → Int32 → Int32 → Int32 → Prop
  | 0, _, _, _, _, _ => False
  | fuel + 1, M, o0, a1, a2, a3 => ((a1 ≤ a3 → K a2 M) ∧ (¬ a1 ≤ a3 → ((o0 ≤ n ∧ kd o0 = (5, 0)) ∧ (∀ r4, r4 = gR M o0 0 → ((r4 ≤ n ∧ kd r4 = (0, 0)) ∧ w_X0_step n M r4  (fun x7 M6 => ((x7 = 0 → (∀ x8, x8 = a3 + (1 : Int32) → w_X5_doSteps_L8 n K fuel M6 o0 a1 a2 x8)) ∧ (¬ x7 = 0 → (∀ x9, x9 = a2 + (1 : Int32) → (∀ x10, x10 = a3 + (1 : Int32) → w_X5_doSteps_L8 n K fuel M6 o0 a1 x9 x10))))))))))
def w_X5_doSteps (n : Nat) (M : Mem) (t : Nat) (p1 : Int32) (K : Int32 → Mem → Prop) : Prop := ((t ≤ n ∧ kd t = (5, 0)) ∧ w_X5_remember n M t  (fun M2 => w_X5_doSteps_L8 n K 4000 M2 t p1 (0 : Int32) (0 : Int32)))
set_option maxHeartbeats 4000000 in
set_option maxRecDepth 20000 in
theorem c_X5_doSteps (l : Launch) (E : Gl) (n : Nat) (M : Mem) (t : Nat) (p1 : Int32) (K : Int32 → Mem → Prop) (hw : w_X5_doSteps n M t p1 K) : CT E l yX5_doSteps cX5_doSteps 4 (some .int) rmX5_doSteps n M [rV t, iV p1] (PI E n K) := by
  refine g_met l (by decide) (Nat.le_of_ble_eq_true rfl) ?_
  intro p e s m args below meth c X hr hlk hnm hSz hOld
  change CX E p s m c _ _ RX5 at X
  have L8 : ∀ (fuel8 : Nat) (M : Mem) (o0 : Nat) (a1 : Int32) (a2 : Int32) (a3 : Int32), w_X5_doSteps_L8 n K fuel8 M o0 a1 a2 a3 → G E p l e rmX5_doSteps s m args below meth c 4 n M 0 0 (MQD lw_cs below (PI E n K) args s rmX5_doSteps.cells rmX5_doSteps.slots (Ab E)) 8 [(0, rV o0), (1, iV a1), (2, iV a2), (3, iV a3)] [] := by
    intro fuel8
    induction fuel8 with
    | zero => intro M o0 a1 a2 a3 hw; exact False.elim hw
    | succ fuel8 ih8 =>
      intro M o0 a1 a2 a3 hw
      unfold w_X5_doSteps_L8 at hw
      refine g_iload_n X dX5_doSteps_8 3 rfl ?_
      refine g_iload_n X dX5_doSteps_9 1 rfl ?_
      refine g_icmp_ge X 32 dX5_doSteps_10 (by decide) hw (fun hw => ?_) (fun hw => ?_)
      · refine g_iload_n X dX5_doSteps_32 2 rfl ?_
        exact g_iret X hr hlk hSz hOld (Nat.le_refl _) dX5_doSteps_33 hw
      · refine g_aload_n X dX5_doSteps_13 0 rfl ?_
        obtain ⟨hk3, hw⟩ := hw
        refine g_get X (rV (gR M o0 0)) dX5_doSteps_14 fl_X5_10 (fun _ => rfl) ⟨hk3, hw⟩ (fun hw => ?_)
        refine g_topR (fun r4 hr4 => ?_)
        have hw := hw r4 hr4
        obtain ⟨hk5, hw⟩ := hw
        refine g_calli (pc' := 20) (rest := []) rfl (fun H locs ls d qR qL => g_runV X cw_X5_249 iv_X0_step ⟨Nat.le_of_ble_eq_true rfl, Nat.le_of_ble_eq_true rfl⟩ dX5_doSteps_17 (c_X0_step l E n M r4  _ hw) hk5 rfl rfl (Nat.le_of_ble_eq_true rfl) ⟨Nat.le_of_ble_eq_true rfl, Nat.le_of_ble_eq_true rfl⟩ qR qL) (fun x7 M6 hw => ?_)
        refine g_if_eq X 26 dX5_doSteps_20 (by decide) hw (fun hw => ?_) (fun hw => ?_)
        · obtain ⟨x8, hx8⟩ : ∃ y : Int32, y = a3 + (1 : Int32) := ⟨_, rfl⟩
          have hw := hw x8 hx8
          refine g_iinc (lv' := [(3, iV x8), (0, rV o0), (1, iV a1), (2, iV a2)]) X x8 dX5_doSteps_26 3 rfl (by rw [hx8]; rfl) (by decide) rfl ?_
          refine g_goto X 8 dX5_doSteps_29 (by decide) ?_
          refine g_lvsub (lv' := [(0, rV o0), (1, iV a1), (2, iV a2), (3, iV x8)]) [1, 2, 3, 0] rfl ?_
          exact ih8 _ _ _ _ _ hw
        · obtain ⟨x9, hx9⟩ : ∃ y : Int32, y = a2 + (1 : Int32) := ⟨_, rfl⟩
          have hw := hw x9 hx9
          refine g_iinc (lv' := [(2, iV x9), (0, rV o0), (1, iV a1), (3, iV a3)]) X x9 dX5_doSteps_23 2 rfl (by rw [hx9]; rfl) (by decide) rfl ?_
          obtain ⟨x10, hx10⟩ : ∃ y : Int32, y = a3 + (1 : Int32) := ⟨_, rfl⟩
          have hw := hw x10 hx10
          refine g_iinc (lv' := [(3, iV x10), (2, iV x9), (0, rV o0), (1, iV a1)]) X x10 dX5_doSteps_26 3 rfl (by rw [hx10]; rfl) (by decide) rfl ?_
          refine g_goto X 8 dX5_doSteps_29 (by decide) ?_
          refine g_lvsub (lv' := [(0, rV o0), (1, iV a1), (2, iV x9), (3, iV x10)]) [2, 3, 1, 0] rfl ?_
          exact ih8 _ _ _ _ _ hw
  unfold w_X5_doSteps at hw
  refine g_aload_n X dX5_doSteps_0 0 rfl ?_
  obtain ⟨hk1, hw⟩ := hw
  refine g_callv (pc' := 4) (rest := []) rfl (fun H locs ls d qR qL => g_runV X cw_X5_38 iv_X5_remember ⟨Nat.le_of_ble_eq_true rfl, Nat.le_of_ble_eq_true rfl⟩ dX5_doSteps_1 (c_X5_remember l E n M t  _ hw) hk1 rfl rfl (Nat.le_of_ble_eq_true rfl) ⟨Nat.le_of_ble_eq_true rfl, Nat.le_of_ble_eq_true rfl⟩ qR qL) (fun M2 hw => ?_)
  refine g_iconst X (0 : Int32) dX5_doSteps_4 (by decide) ?_
  refine g_istore_n (lv' := [(2, iV (0 : Int32)), (0, rV t), (1, iV p1)]) X dX5_doSteps_5 (by decide) rfl ?_
  refine g_iconst X (0 : Int32) dX5_doSteps_6 (by decide) ?_
  refine g_istore_n (lv' := [(3, iV (0 : Int32)), (2, iV (0 : Int32)), (0, rV t), (1, iV p1)]) X dX5_doSteps_7 (by decide) rfl ?_
  refine g_lvsub (lv' := [(0, rV t), (1, iV p1), (2, iV (0 : Int32)), (3, iV (0 : Int32))]) [2, 3, 1, 0] rfl ?_
  exact L8 _ _ _ _ _ _ hw
theorem dX5_run_0 : decode cX5_run 0 = .ok (.iload_n 1, 1) := by decide +kernel
theorem dX5_run_1 : decode cX5_run 1 = .ok (.iconst 1, 1) := by decide +kernel
theorem dX5_run_2 : decode cX5_run 2 = .ok (.if_icmp .lt 9, 3) := by decide +kernel
theorem dX5_run_5 : decode cX5_run 5 = .ok (.iload_n 1, 1) := by decide +kernel
theorem dX5_run_6 : decode cX5_run 6 = .ok (.bipush 40, 2) := by decide +kernel
theorem dX5_run_8 : decode cX5_run 8 = .ok (.if_icmp .le 6, 3) := by decide +kernel
theorem dX5_run_11 : decode cX5_run 11 = .ok (.bipush (-2), 2) := by decide +kernel
theorem dX5_run_13 : decode cX5_run 13 = .ok (.ireturn, 1) := by decide +kernel
theorem dX5_run_14 : decode cX5_run 14 = .ok (.aload_n 0, 1) := by decide +kernel
theorem dX5_run_15 : decode cX5_run 15 = .ok (.iload_n 1, 1) := by decide +kernel
theorem dX5_run_16 : decode cX5_run 16 = .ok (.invokevirtual 98, 3) := by decide +kernel
theorem dX5_run_19 : decode cX5_run 19 = .ok (.ireturn, 1) := by decide +kernel
abbrev rmX5_run : Room := { frames := 5, cells := 0, slots := 0, locals := 116 }
def w_X5_run (n : Nat) (M : Mem) (t : Nat) (p1 : Int32) (K : Int32 → Mem → Prop) : Prop := ((p1 < (1 : Int32) → K (-2 : Int32) M) ∧ (¬ p1 < (1 : Int32) → ((p1 ≤ (40 : Int32) → ((t ≤ n ∧ kd t = (5, 0)) ∧ w_X5_doSteps n M t p1 (fun x3 M2 => K x3 M2))) ∧ (¬ p1 ≤ (40 : Int32) → K (-2 : Int32) M))))
set_option maxHeartbeats 4000000 in
set_option maxRecDepth 20000 in
theorem c_X5_run (l : Launch) (E : Gl) (n : Nat) (M : Mem) (t : Nat) (p1 : Int32) (K : Int32 → Mem → Prop) (hw : w_X5_run n M t p1 K) : CT E l yX5_run cX5_run 2 (some .int) rmX5_run n M [rV t, iV p1] (PI E n K) := by
  refine g_met l (by decide) (Nat.le_of_ble_eq_true rfl) ?_
  intro p e s m args below meth c X hr hlk hnm hSz hOld
  change CX E p s m c _ _ RX5 at X
  unfold w_X5_run at hw
  refine g_iload_n X dX5_run_0 1 rfl ?_
  refine g_iconst X (1 : Int32) dX5_run_1 (by decide) ?_
  refine g_icmp_lt X 11 dX5_run_2 (by decide) hw (fun hw => ?_) (fun hw => ?_)
  · refine g_bipush X (-2 : Int32) dX5_run_11 (by decide) ?_
    exact g_iret X hr hlk hSz hOld (Nat.le_refl _) dX5_run_13 hw
  · refine g_iload_n X dX5_run_5 1 rfl ?_
    refine g_bipush X (40 : Int32) dX5_run_6 (by decide) ?_
    refine g_icmp_le X 14 dX5_run_8 (by decide) hw (fun hw => ?_) (fun hw => ?_)
    · refine g_aload_n X dX5_run_14 0 rfl ?_
      refine g_iload_n X dX5_run_15 1 rfl ?_
      obtain ⟨hk1, hw⟩ := hw
      refine g_calli (pc' := 19) (rest := []) rfl (fun H locs ls d qR qL => g_runV X cw_X5_98 iv_X5_doSteps ⟨Nat.le_of_ble_eq_true rfl, Nat.le_of_ble_eq_true rfl⟩ dX5_run_16 (c_X5_doSteps l E n M t p1 _ hw) hk1 rfl rfl (Nat.le_of_ble_eq_true rfl) ⟨Nat.le_of_ble_eq_true rfl, Nat.le_of_ble_eq_true rfl⟩ qR qL) (fun x3 M2 hw => ?_)
      exact g_iret X hr hlk hSz hOld (Nat.le_refl _) dX5_run_19 hw
    · refine g_bipush X (-2 : Int32) dX5_run_11 (by decide) ?_
      exact g_iret X hr hlk hSz hOld (Nat.le_refl _) dX5_run_13 hw
theorem dX5_type_0 : decode cX5_type 0 = .ok (.aload_n 0, 1) := by decide +kernel
theorem dX5_type_1 : decode cX5_type 1 = .ok (.getfield 26, 3) := by decide +kernel
theorem dX5_type_4 : decode cX5_type 4 = .ok (.iload_n 1, 1) := by decide +kernel
theorem dX5_type_5 : decode cX5_type 5 = .ok (.invokevirtual 102, 3) := by decide +kernel
theorem dX5_type_8 : decode cX5_type 8 = .ok (.ireturn, 1) := by decide +kernel
abbrev rmX5_type : Room := { frames := 1, cells := 0, slots := 0, locals := 21 }
def w_X5_type (n : Nat) (M : Mem) (t : Nat) (p1 : Int32) (K : Int32 → Mem → Prop) : Prop := ((t ≤ n ∧ kd t = (5, 0)) ∧ (∀ r2, r2 = gR M t 3 → ((r2 ≤ n ∧ kd r2 = (4, 0)) ∧ w_X4_append n M r2 p1 (fun x5 M4 => K x5 M4))))
set_option maxHeartbeats 4000000 in
set_option maxRecDepth 20000 in
theorem c_X5_type (l : Launch) (E : Gl) (n : Nat) (M : Mem) (t : Nat) (p1 : Int32) (K : Int32 → Mem → Prop) (hw : w_X5_type n M t p1 K) : CT E l yX5_type cX5_type 2 (some .int) rmX5_type n M [rV t, iV p1] (PI E n K) := by
  refine g_met l (by decide) (Nat.le_of_ble_eq_true rfl) ?_
  intro p e s m args below meth c X hr hlk hnm hSz hOld
  change CX E p s m c _ _ RX5 at X
  unfold w_X5_type at hw
  refine g_aload_n X dX5_type_0 0 rfl ?_
  obtain ⟨hk1, hw⟩ := hw
  refine g_get X (rV (gR M t 3)) dX5_type_1 fl_X5_26 (fun _ => rfl) ⟨hk1, hw⟩ (fun hw => ?_)
  refine g_topR (fun r2 hr2 => ?_)
  have hw := hw r2 hr2
  refine g_iload_n X dX5_type_4 1 rfl ?_
  obtain ⟨hk3, hw⟩ := hw
  refine g_calli (pc' := 8) (rest := []) rfl (fun H locs ls d qR qL => g_runV X cw_X5_102 iv_X4_append ⟨Nat.le_of_ble_eq_true rfl, Nat.le_of_ble_eq_true rfl⟩ dX5_type_5 (c_X4_append l E n M r2 p1 _ hw) hk3 rfl rfl (Nat.le_of_ble_eq_true rfl) ⟨Nat.le_of_ble_eq_true rfl, Nat.le_of_ble_eq_true rfl⟩ qR qL) (fun x5 M4 hw => ?_)
  exact g_iret X hr hlk hSz hOld (Nat.le_refl _) dX5_type_8 hw
theorem dX5_clearText_0 : decode cX5_clearText 0 = .ok (.aload_n 0, 1) := by decide +kernel
theorem dX5_clearText_1 : decode cX5_clearText 1 = .ok (.getfield 26, 3) := by decide +kernel
theorem dX5_clearText_4 : decode cX5_clearText 4 = .ok (.getfield 106, 3) := by decide +kernel
theorem dX5_clearText_7 : decode cX5_clearText 7 = .ok (.istore_n 1, 1) := by decide +kernel
theorem dX5_clearText_8 : decode cX5_clearText 8 = .ok (.aload_n 0, 1) := by decide +kernel
theorem dX5_clearText_9 : decode cX5_clearText 9 = .ok (.getfield 26, 3) := by decide +kernel
theorem dX5_clearText_12 : decode cX5_clearText 12 = .ok (.iconst 0, 1) := by decide +kernel
theorem dX5_clearText_13 : decode cX5_clearText 13 = .ok (.putfield 106, 3) := by decide +kernel
theorem dX5_clearText_16 : decode cX5_clearText 16 = .ok (.iload_n 1, 1) := by decide +kernel
theorem dX5_clearText_17 : decode cX5_clearText 17 = .ok (.ireturn, 1) := by decide +kernel
abbrev rmX5_clearText : Room := { frames := 0, cells := 0, slots := 0, locals := 0 }
def w_X5_clearText (n : Nat) (M : Mem) (t : Nat) (K : Int32 → Mem → Prop) : Prop := ((t ≤ n ∧ kd t = (5, 0)) ∧ (∀ r2, r2 = gR M t 3 → ((r2 ≤ n ∧ kd r2 = (4, 0)) ∧ (∀ x4, x4 = gI M r2 1 → (∀ r5, r5 = gR M t 3 → ((r5 ≤ n ∧ kd r5 = (4, 0)) ∧ (∀ M7, M7 = sI M r5 1 (0 : Int32) → K x4 M7)))))))
set_option maxHeartbeats 4000000 in
set_option maxRecDepth 20000 in
theorem c_X5_clearText (l : Launch) (E : Gl) (n : Nat) (M : Mem) (t : Nat) (K : Int32 → Mem → Prop) (hw : w_X5_clearText n M t K) : CT E l yX5_clearText cX5_clearText 2 (some .int) rmX5_clearText n M [rV t] (PI E n K) := by
  refine g_met l (by decide) (Nat.le_of_ble_eq_true rfl) ?_
  intro p e s m args below meth c X hr hlk hnm hSz hOld
  change CX E p s m c _ _ RX5 at X
  unfold w_X5_clearText at hw
  refine g_aload_n X dX5_clearText_0 0 rfl ?_
  obtain ⟨hk1, hw⟩ := hw
  refine g_get X (rV (gR M t 3)) dX5_clearText_1 fl_X5_26 (fun _ => rfl) ⟨hk1, hw⟩ (fun hw => ?_)
  refine g_topR (fun r2 hr2 => ?_)
  have hw := hw r2 hr2
  obtain ⟨hk3, hw⟩ := hw
  refine g_get X (iV (gI M r2 1)) dX5_clearText_4 fl_X5_106 (fun _ => rfl) ⟨hk3, hw⟩ (fun hw => ?_)
  refine g_topI (fun x4 hx4 => ?_)
  have hw := hw x4 hx4
  refine g_istore_n (lv' := [(1, iV x4), (0, rV t)]) X dX5_clearText_7 (by decide) rfl ?_
  refine g_aload_n X dX5_clearText_8 1 rfl ?_
  refine g_get X (rV (gR M t 3)) dX5_clearText_9 fl_X5_26 (fun _ => rfl) ⟨hk1, hw⟩ (fun hw => ?_)
  refine g_topR (fun r5 hr5 => ?_)
  have hw := hw r5 hr5
  refine g_iconst X (0 : Int32) dX5_clearText_12 (by decide) ?_
  obtain ⟨hk6, hw⟩ := hw
  refine g_putI X dX5_clearText_13 fl_X5_106 rfl (Or.inl rfl) ⟨hk6, hw⟩ (fun hw => ?_)
  refine g_topM (fun M7 hM7 => ?_)
  have hw := hw M7 hM7
  refine g_iload_n X dX5_clearText_16 0 rfl ?_
  exact g_iret X hr hlk hSz hOld (Nat.le_refl _) dX5_clearText_17 hw
theorem dX5_readParts_0 : decode cX5_readParts 0 = .ok (.aload_n 0, 1) := by decide +kernel
theorem dX5_readParts_1 : decode cX5_readParts 1 = .ok (.getfield 26, 3) := by decide +kernel
theorem dX5_readParts_4 : decode cX5_readParts 4 = .ok (.invokevirtual 109, 3) := by decide +kernel
theorem dX5_readParts_7 : decode cX5_readParts 7 = .ok (.istore_n 1, 1) := by decide +kernel
theorem dX5_readParts_8 : decode cX5_readParts 8 = .ok (.iload_n 1, 1) := by decide +kernel
theorem dX5_readParts_9 : decode cX5_readParts 9 = .ok (.iconst (-1), 1) := by decide +kernel
theorem dX5_readParts_10 : decode cX5_readParts 10 = .ok (.if_icmp .eq 8, 3) := by decide +kernel
theorem dX5_readParts_13 : decode cX5_readParts 13 = .ok (.bipush (-100), 2) := by decide +kernel
theorem dX5_readParts_15 : decode cX5_readParts 15 = .ok (.iload_n 1, 1) := by decide +kernel
theorem dX5_readParts_16 : decode cX5_readParts 16 = .ok (.isub, 1) := by decide +kernel
theorem dX5_readParts_17 : decode cX5_readParts 17 = .ok (.ireturn, 1) := by decide +kernel
theorem dX5_readParts_18 : decode cX5_readParts 18 = .ok (.aload_n 0, 1) := by decide +kernel
theorem dX5_readParts_19 : decode cX5_readParts 19 = .ok (.getfield 26, 3) := by decide +kernel
theorem dX5_readParts_22 : decode cX5_readParts 22 = .ok (.invokevirtual 113, 3) := by decide +kernel
theorem dX5_readParts_25 : decode cX5_readParts 25 = .ok (.istore_n 2, 1) := by decide +kernel
theorem dX5_readParts_26 : decode cX5_readParts 26 = .ok (.iload_n 2, 1) := by decide +kernel
theorem dX5_readParts_27 : decode cX5_readParts 27 = .ok (.bipush 60, 2) := by decide +kernel
theorem dX5_readParts_29 : decode cX5_readParts 29 = .ok (.aload_n 0, 1) := by decide +kernel
theorem dX5_readParts_30 : decode cX5_readParts 30 = .ok (.getfield 10, 3) := by decide +kernel
theorem dX5_readParts_33 : decode cX5_readParts 33 = .ok (.getfield 41, 3) := by decide +kernel
theorem dX5_readParts_36 : decode cX5_readParts 36 = .ok (.isub, 1) := by decide +kernel
theorem dX5_readParts_37 : decode cX5_readParts 37 = .ok (.if_icmp .le 6, 3) := by decide +kernel
theorem dX5_readParts_40 : decode cX5_readParts 40 = .ok (.bipush (-3), 2) := by decide +kernel
theorem dX5_readParts_42 : decode cX5_readParts 42 = .ok (.ireturn, 1) := by decide +kernel
theorem dX5_readParts_43 : decode cX5_readParts 43 = .ok (.aload_n 0, 1) := by decide +kernel
theorem dX5_readParts_44 : decode cX5_readParts 44 = .ok (.invokevirtual 38, 3) := by decide +kernel
theorem dX5_readParts_47 : decode cX5_readParts 47 = .ok (.aload_n 0, 1) := by decide +kernel
theorem dX5_readParts_48 : decode cX5_readParts 48 = .ok (.getfield 26, 3) := by decide +kernel
theorem dX5_readParts_51 : decode cX5_readParts 51 = .ok (.aload_n 0, 1) := by decide +kernel
theorem dX5_readParts_52 : decode cX5_readParts 52 = .ok (.getfield 10, 3) := by decide +kernel
theorem dX5_readParts_55 : decode cX5_readParts 55 = .ok (.iload_n 2, 1) := by decide +kernel
theorem dX5_readParts_56 : decode cX5_readParts 56 = .ok (.invokevirtual 116, 3) := by decide +kernel
theorem dX5_readParts_59 : decode cX5_readParts 59 = .ok (.iload_n 2, 1) := by decide +kernel
theorem dX5_readParts_60 : decode cX5_readParts 60 = .ok (.ireturn, 1) := by decide +kernel
abbrev rmX5_readParts : Room := { frames := 5, cells := 0, slots := 0, locals := 113 }
def w_X5_readParts (n : Nat) (M : Mem) (t : Nat) (K : Int32 → Mem → Prop) : Prop := ((t ≤ n ∧ kd t = (5, 0)) ∧ (∀ r2, r2 = gR M t 3 → ((r2 ≤ n ∧ kd r2 = (4, 0)) ∧ w_X4_firstFault n M r2  (fun x5 M4 => ((x5 = (-1 : Int32) → (∀ r6, r6 = gR M4 t 3 → ((r6 ≤ n ∧ kd r6 = (4, 0)) ∧ w_X4_partsTold n M4 r6  (fun x9 M8 => (∀ r10, r10 = gR M8 t 0 → ((r10 ≤ n ∧ kd r10 = (0, 0)) ∧ ((x9 ≤ ((60 : Int32) - (gI M8 r10 7)) → w_X5_remember n M8 t  (fun M12 => (∀ r13, r13 = gR M12 t 3 → (∀ r14, r14 = gR M12 t 0 → ((r13 ≤ n ∧ kd r13 = (4, 0)) ∧ w_X4_addPartsTo n M12 r13 r14 x9 (fun M16 => K x9 M16)))))) ∧ (¬ x9 ≤ ((60 : Int32) - (gI M8 r10 7)) → K (-3 : Int32) M8)))))))) ∧ (¬ x5 = (-1 : Int32) → K ((-100 : Int32) - x5) M4))))))
set_option maxHeartbeats 4000000 in
set_option maxRecDepth 20000 in
theorem c_X5_readParts (l : Launch) (E : Gl) (n : Nat) (M : Mem) (t : Nat) (K : Int32 → Mem → Prop) (hw : w_X5_readParts n M t K) : CT E l yX5_readParts cX5_readParts 3 (some .int) rmX5_readParts n M [rV t] (PI E n K) := by
  refine g_met l (by decide) (Nat.le_of_ble_eq_true rfl) ?_
  intro p e s m args below meth c X hr hlk hnm hSz hOld
  change CX E p s m c _ _ RX5 at X
  unfold w_X5_readParts at hw
  refine g_aload_n X dX5_readParts_0 0 rfl ?_
  obtain ⟨hk1, hw⟩ := hw
  refine g_get X (rV (gR M t 3)) dX5_readParts_1 fl_X5_26 (fun _ => rfl) ⟨hk1, hw⟩ (fun hw => ?_)
  refine g_topR (fun r2 hr2 => ?_)
  have hw := hw r2 hr2
  obtain ⟨hk3, hw⟩ := hw
  refine g_calli (pc' := 7) (rest := []) rfl (fun H locs ls d qR qL => g_runV X cw_X5_109 iv_X4_firstFault ⟨Nat.le_of_ble_eq_true rfl, Nat.le_of_ble_eq_true rfl⟩ dX5_readParts_4 (c_X4_firstFault l E n M r2  _ hw) hk3 rfl rfl (Nat.le_of_ble_eq_true rfl) ⟨Nat.le_of_ble_eq_true rfl, Nat.le_of_ble_eq_true rfl⟩ qR qL) (fun x5 M4 hw => ?_)
  refine g_istore_n (lv' := [(1, iV x5), (0, rV t)]) X dX5_readParts_7 (by decide) rfl ?_
  refine g_iload_n X dX5_readParts_8 0 rfl ?_
  refine g_iconst X (-1 : Int32) dX5_readParts_9 (by decide) ?_
  refine g_icmp_eq X 18 dX5_readParts_10 (by decide) hw (fun hw => ?_) (fun hw => ?_)
  · refine g_aload_n X dX5_readParts_18 1 rfl ?_
    refine g_get X (rV (gR M4 t 3)) dX5_readParts_19 fl_X5_26 (fun _ => rfl) ⟨hk1, hw⟩ (fun hw => ?_)
    refine g_topR (fun r6 hr6 => ?_)
    have hw := hw r6 hr6
    obtain ⟨hk7, hw⟩ := hw
    refine g_calli (pc' := 25) (rest := []) rfl (fun H locs ls d qR qL => g_runV X cw_X5_113 iv_X4_partsTold ⟨Nat.le_of_ble_eq_true rfl, Nat.le_of_ble_eq_true rfl⟩ dX5_readParts_22 (c_X4_partsTold l E n M4 r6  _ hw) hk7 rfl rfl (Nat.le_of_ble_eq_true rfl) ⟨Nat.le_of_ble_eq_true rfl, Nat.le_of_ble_eq_true rfl⟩ qR qL) (fun x9 M8 hw => ?_)
    refine g_istore_n (lv' := [(2, iV x9), (1, iV x5), (0, rV t)]) X dX5_readParts_25 (by decide) rfl ?_
    refine g_iload_n X dX5_readParts_26 0 rfl ?_
    refine g_bipush X (60 : Int32) dX5_readParts_27 (by decide) ?_
    refine g_aload_n X dX5_readParts_29 2 rfl ?_
    refine g_get X (rV (gR M8 t 0)) dX5_readParts_30 fl_X5_10 (fun _ => rfl) ⟨hk1, hw⟩ (fun hw => ?_)
    refine g_topR (fun r10 hr10 => ?_)
    have hw := hw r10 hr10
    obtain ⟨hk11, hw⟩ := hw
    refine g_get X (iV (gI M8 r10 7)) dX5_readParts_33 fl_X5_41 (fun _ => rfl) ⟨hk11, hw⟩ (fun hw => ?_)
    refine g_isub X dX5_readParts_36 ?_
    refine g_icmp_le X 43 dX5_readParts_37 (by decide) hw (fun hw => ?_) (fun hw => ?_)
    · refine g_aload_n X dX5_readParts_43 2 rfl ?_
      refine g_callv (pc' := 47) (rest := []) rfl (fun H locs ls d qR qL => g_runV X cw_X5_38 iv_X5_remember ⟨Nat.le_of_ble_eq_true rfl, Nat.le_of_ble_eq_true rfl⟩ dX5_readParts_44 (c_X5_remember l E n M8 t  _ hw) hk1 rfl rfl (Nat.le_of_ble_eq_true rfl) ⟨Nat.le_of_ble_eq_true rfl, Nat.le_of_ble_eq_true rfl⟩ qR qL) (fun M12 hw => ?_)
      refine g_aload_n X dX5_readParts_47 2 rfl ?_
      refine g_get X (rV (gR M12 t 3)) dX5_readParts_48 fl_X5_26 (fun _ => rfl) ⟨hk1, hw⟩ (fun hw => ?_)
      refine g_topR (fun r13 hr13 => ?_)
      have hw := hw r13 hr13
      refine g_aload_n X dX5_readParts_51 2 rfl ?_
      refine g_get X (rV (gR M12 t 0)) dX5_readParts_52 fl_X5_10 (fun _ => rfl) ⟨hk1, hw⟩ (fun hw => ?_)
      refine g_topR (fun r14 hr14 => ?_)
      have hw := hw r14 hr14
      refine g_iload_n X dX5_readParts_55 0 rfl ?_
      obtain ⟨hk15, hw⟩ := hw
      refine g_callv (pc' := 59) (rest := []) rfl (fun H locs ls d qR qL => g_runV X cw_X5_116 iv_X4_addPartsTo ⟨Nat.le_of_ble_eq_true rfl, Nat.le_of_ble_eq_true rfl⟩ dX5_readParts_56 (c_X4_addPartsTo l E n M12 r13 r14 x9 _ hw) hk15 rfl rfl (Nat.le_of_ble_eq_true rfl) ⟨Nat.le_of_ble_eq_true rfl, Nat.le_of_ble_eq_true rfl⟩ qR qL) (fun M16 hw => ?_)
      refine g_iload_n X dX5_readParts_59 0 rfl ?_
      exact g_iret X hr hlk hSz hOld (Nat.le_refl _) dX5_readParts_60 hw
    · refine g_bipush X (-3 : Int32) dX5_readParts_40 (by decide) ?_
      exact g_iret X hr hlk hSz hOld (Nat.le_refl _) dX5_readParts_42 hw
  · refine g_bipush X (-100 : Int32) dX5_readParts_13 (by decide) ?_
    refine g_iload_n X dX5_readParts_15 0 rfl ?_
    refine g_isub X dX5_readParts_16 ?_
    exact g_iret X hr hlk hSz hOld (Nat.le_refl _) dX5_readParts_17 hw
theorem dX5_clearHeads_0 : decode cX5_clearHeads 0 = .ok (.aload_n 0, 1) := by decide +kernel
theorem dX5_clearHeads_1 : decode cX5_clearHeads 1 = .ok (.getfield 10, 3) := by decide +kernel
theorem dX5_clearHeads_4 : decode cX5_clearHeads 4 = .ok (.iconst 1, 1) := by decide +kernel
theorem dX5_clearHeads_5 : decode cX5_clearHeads 5 = .ok (.invokevirtual 234, 3) := by decide +kernel
theorem dX5_clearHeads_8 : decode cX5_clearHeads 8 = .ok (.istore_n 1, 1) := by decide +kernel
theorem dX5_clearHeads_9 : decode cX5_clearHeads 9 = .ok (.iload_n 1, 1) := by decide +kernel
theorem dX5_clearHeads_10 : decode cX5_clearHeads 10 = .ok (.ifCond .ne 6, 3) := by decide +kernel
theorem dX5_clearHeads_13 : decode cX5_clearHeads 13 = .ok (.bipush (-5), 2) := by decide +kernel
theorem dX5_clearHeads_15 : decode cX5_clearHeads 15 = .ok (.ireturn, 1) := by decide +kernel
theorem dX5_clearHeads_16 : decode cX5_clearHeads 16 = .ok (.aload_n 0, 1) := by decide +kernel
theorem dX5_clearHeads_17 : decode cX5_clearHeads 17 = .ok (.invokevirtual 38, 3) := by decide +kernel
theorem dX5_clearHeads_20 : decode cX5_clearHeads 20 = .ok (.aload_n 0, 1) := by decide +kernel
theorem dX5_clearHeads_21 : decode cX5_clearHeads 21 = .ok (.getfield 10, 3) := by decide +kernel
theorem dX5_clearHeads_24 : decode cX5_clearHeads 24 = .ok (.invokevirtual 255, 3) := by decide +kernel
theorem dX5_clearHeads_27 : decode cX5_clearHeads 27 = .ok (.iload_n 1, 1) := by decide +kernel
theorem dX5_clearHeads_28 : decode cX5_clearHeads 28 = .ok (.ireturn, 1) := by decide +kernel
abbrev rmX5_clearHeads : Room := { frames := 3, cells := 0, slots := 0, locals := 63 }
def w_X5_clearHeads (n : Nat) (M : Mem) (t : Nat) (K : Int32 → Mem → Prop) : Prop := ((t ≤ n ∧ kd t = (5, 0)) ∧ (∀ r2, r2 = gR M t 0 → ((r2 ≤ n ∧ kd r2 = (0, 0)) ∧ w_X0_partsIn n M r2 (1 : Int32) (fun x5 M4 => ((¬ x5 = 0 → w_X5_remember n M4 t  (fun M6 => (∀ r7, r7 = gR M6 t 0 → ((r7 ≤ n ∧ kd r7 = (0, 0)) ∧ w_X0_takeFromHeads n M6 r7  (fun M9 => K x5 M9))))) ∧ (x5 = 0 → K (-5 : Int32) M4))))))
set_option maxHeartbeats 4000000 in
set_option maxRecDepth 20000 in
theorem c_X5_clearHeads (l : Launch) (E : Gl) (n : Nat) (M : Mem) (t : Nat) (K : Int32 → Mem → Prop) (hw : w_X5_clearHeads n M t K) : CT E l yX5_clearHeads cX5_clearHeads 2 (some .int) rmX5_clearHeads n M [rV t] (PI E n K) := by
  refine g_met l (by decide) (Nat.le_of_ble_eq_true rfl) ?_
  intro p e s m args below meth c X hr hlk hnm hSz hOld
  change CX E p s m c _ _ RX5 at X
  unfold w_X5_clearHeads at hw
  refine g_aload_n X dX5_clearHeads_0 0 rfl ?_
  obtain ⟨hk1, hw⟩ := hw
  refine g_get X (rV (gR M t 0)) dX5_clearHeads_1 fl_X5_10 (fun _ => rfl) ⟨hk1, hw⟩ (fun hw => ?_)
  refine g_topR (fun r2 hr2 => ?_)
  have hw := hw r2 hr2
  refine g_iconst X (1 : Int32) dX5_clearHeads_4 (by decide) ?_
  obtain ⟨hk3, hw⟩ := hw
  refine g_calli (pc' := 8) (rest := []) rfl (fun H locs ls d qR qL => g_runV X cw_X5_234 iv_X0_partsIn ⟨Nat.le_of_ble_eq_true rfl, Nat.le_of_ble_eq_true rfl⟩ dX5_clearHeads_5 (c_X0_partsIn l E n M r2 (1 : Int32) _ hw) hk3 rfl rfl (Nat.le_of_ble_eq_true rfl) ⟨Nat.le_of_ble_eq_true rfl, Nat.le_of_ble_eq_true rfl⟩ qR qL) (fun x5 M4 hw => ?_)
  refine g_istore_n (lv' := [(1, iV x5), (0, rV t)]) X dX5_clearHeads_8 (by decide) rfl ?_
  refine g_iload_n X dX5_clearHeads_9 0 rfl ?_
  refine g_if_ne X 16 dX5_clearHeads_10 (by decide) hw (fun hw => ?_) (fun hw => ?_)
  · refine g_aload_n X dX5_clearHeads_16 1 rfl ?_
    refine g_callv (pc' := 20) (rest := []) rfl (fun H locs ls d qR qL => g_runV X cw_X5_38 iv_X5_remember ⟨Nat.le_of_ble_eq_true rfl, Nat.le_of_ble_eq_true rfl⟩ dX5_clearHeads_17 (c_X5_remember l E n M4 t  _ hw) hk1 rfl rfl (Nat.le_of_ble_eq_true rfl) ⟨Nat.le_of_ble_eq_true rfl, Nat.le_of_ble_eq_true rfl⟩ qR qL) (fun M6 hw => ?_)
    refine g_aload_n X dX5_clearHeads_20 1 rfl ?_
    refine g_get X (rV (gR M6 t 0)) dX5_clearHeads_21 fl_X5_10 (fun _ => rfl) ⟨hk1, hw⟩ (fun hw => ?_)
    refine g_topR (fun r7 hr7 => ?_)
    have hw := hw r7 hr7
    obtain ⟨hk8, hw⟩ := hw
    refine g_callv (pc' := 27) (rest := []) rfl (fun H locs ls d qR qL => g_runV X cw_X5_255 iv_X0_takeFromHeads ⟨Nat.le_of_ble_eq_true rfl, Nat.le_of_ble_eq_true rfl⟩ dX5_clearHeads_24 (c_X0_takeFromHeads l E n M6 r7  _ hw) hk8 rfl rfl (Nat.le_of_ble_eq_true rfl) ⟨Nat.le_of_ble_eq_true rfl, Nat.le_of_ble_eq_true rfl⟩ qR qL) (fun M9 hw => ?_)
    refine g_iload_n X dX5_clearHeads_27 0 rfl ?_
    exact g_iret X hr hlk hSz hOld (Nat.le_refl _) dX5_clearHeads_28 hw
  · refine g_bipush X (-5 : Int32) dX5_clearHeads_13 (by decide) ?_
    exact g_iret X hr hlk hSz hOld (Nat.le_refl _) dX5_clearHeads_15 hw
theorem dX5_stopWaiting_0 : decode cX5_stopWaiting 0 = .ok (.aload_n 0, 1) := by decide +kernel
theorem dX5_stopWaiting_1 : decode cX5_stopWaiting 1 = .ok (.getfield 10, 3) := by decide +kernel
theorem dX5_stopWaiting_4 : decode cX5_stopWaiting 4 = .ok (.iconst 0, 1) := by decide +kernel
theorem dX5_stopWaiting_5 : decode cX5_stopWaiting 5 = .ok (.invokevirtual 234, 3) := by decide +kernel
theorem dX5_stopWaiting_8 : decode cX5_stopWaiting 8 = .ok (.istore_n 1, 1) := by decide +kernel
theorem dX5_stopWaiting_9 : decode cX5_stopWaiting 9 = .ok (.iload_n 1, 1) := by decide +kernel
theorem dX5_stopWaiting_10 : decode cX5_stopWaiting 10 = .ok (.ifCond .ne 6, 3) := by decide +kernel
theorem dX5_stopWaiting_13 : decode cX5_stopWaiting 13 = .ok (.bipush (-5), 2) := by decide +kernel
theorem dX5_stopWaiting_15 : decode cX5_stopWaiting 15 = .ok (.ireturn, 1) := by decide +kernel
theorem dX5_stopWaiting_16 : decode cX5_stopWaiting 16 = .ok (.aload_n 0, 1) := by decide +kernel
theorem dX5_stopWaiting_17 : decode cX5_stopWaiting 17 = .ok (.invokevirtual 38, 3) := by decide +kernel
theorem dX5_stopWaiting_20 : decode cX5_stopWaiting 20 = .ok (.aload_n 0, 1) := by decide +kernel
theorem dX5_stopWaiting_21 : decode cX5_stopWaiting 21 = .ok (.getfield 10, 3) := by decide +kernel
theorem dX5_stopWaiting_24 : decode cX5_stopWaiting 24 = .ok (.invokevirtual 252, 3) := by decide +kernel
theorem dX5_stopWaiting_27 : decode cX5_stopWaiting 27 = .ok (.iload_n 1, 1) := by decide +kernel
theorem dX5_stopWaiting_28 : decode cX5_stopWaiting 28 = .ok (.ireturn, 1) := by decide +kernel
abbrev rmX5_stopWaiting : Room := { frames := 3, cells := 0, slots := 0, locals := 63 }
def w_X5_stopWaiting (n : Nat) (M : Mem) (t : Nat) (K : Int32 → Mem → Prop) : Prop := ((t ≤ n ∧ kd t = (5, 0)) ∧ (∀ r2, r2 = gR M t 0 → ((r2 ≤ n ∧ kd r2 = (0, 0)) ∧ w_X0_partsIn n M r2 (0 : Int32) (fun x5 M4 => ((¬ x5 = 0 → w_X5_remember n M4 t  (fun M6 => (∀ r7, r7 = gR M6 t 0 → ((r7 ≤ n ∧ kd r7 = (0, 0)) ∧ w_X0_rejectWaiting n M6 r7  (fun M9 => K x5 M9))))) ∧ (x5 = 0 → K (-5 : Int32) M4))))))
set_option maxHeartbeats 4000000 in
set_option maxRecDepth 20000 in
theorem c_X5_stopWaiting (l : Launch) (E : Gl) (n : Nat) (M : Mem) (t : Nat) (K : Int32 → Mem → Prop) (hw : w_X5_stopWaiting n M t K) : CT E l yX5_stopWaiting cX5_stopWaiting 2 (some .int) rmX5_stopWaiting n M [rV t] (PI E n K) := by
  refine g_met l (by decide) (Nat.le_of_ble_eq_true rfl) ?_
  intro p e s m args below meth c X hr hlk hnm hSz hOld
  change CX E p s m c _ _ RX5 at X
  unfold w_X5_stopWaiting at hw
  refine g_aload_n X dX5_stopWaiting_0 0 rfl ?_
  obtain ⟨hk1, hw⟩ := hw
  refine g_get X (rV (gR M t 0)) dX5_stopWaiting_1 fl_X5_10 (fun _ => rfl) ⟨hk1, hw⟩ (fun hw => ?_)
  refine g_topR (fun r2 hr2 => ?_)
  have hw := hw r2 hr2
  refine g_iconst X (0 : Int32) dX5_stopWaiting_4 (by decide) ?_
  obtain ⟨hk3, hw⟩ := hw
  refine g_calli (pc' := 8) (rest := []) rfl (fun H locs ls d qR qL => g_runV X cw_X5_234 iv_X0_partsIn ⟨Nat.le_of_ble_eq_true rfl, Nat.le_of_ble_eq_true rfl⟩ dX5_stopWaiting_5 (c_X0_partsIn l E n M r2 (0 : Int32) _ hw) hk3 rfl rfl (Nat.le_of_ble_eq_true rfl) ⟨Nat.le_of_ble_eq_true rfl, Nat.le_of_ble_eq_true rfl⟩ qR qL) (fun x5 M4 hw => ?_)
  refine g_istore_n (lv' := [(1, iV x5), (0, rV t)]) X dX5_stopWaiting_8 (by decide) rfl ?_
  refine g_iload_n X dX5_stopWaiting_9 0 rfl ?_
  refine g_if_ne X 16 dX5_stopWaiting_10 (by decide) hw (fun hw => ?_) (fun hw => ?_)
  · refine g_aload_n X dX5_stopWaiting_16 1 rfl ?_
    refine g_callv (pc' := 20) (rest := []) rfl (fun H locs ls d qR qL => g_runV X cw_X5_38 iv_X5_remember ⟨Nat.le_of_ble_eq_true rfl, Nat.le_of_ble_eq_true rfl⟩ dX5_stopWaiting_17 (c_X5_remember l E n M4 t  _ hw) hk1 rfl rfl (Nat.le_of_ble_eq_true rfl) ⟨Nat.le_of_ble_eq_true rfl, Nat.le_of_ble_eq_true rfl⟩ qR qL) (fun M6 hw => ?_)
    refine g_aload_n X dX5_stopWaiting_20 1 rfl ?_
    refine g_get X (rV (gR M6 t 0)) dX5_stopWaiting_21 fl_X5_10 (fun _ => rfl) ⟨hk1, hw⟩ (fun hw => ?_)
    refine g_topR (fun r7 hr7 => ?_)
    have hw := hw r7 hr7
    obtain ⟨hk8, hw⟩ := hw
    refine g_callv (pc' := 27) (rest := []) rfl (fun H locs ls d qR qL => g_runV X cw_X5_252 iv_X0_rejectWaiting ⟨Nat.le_of_ble_eq_true rfl, Nat.le_of_ble_eq_true rfl⟩ dX5_stopWaiting_24 (c_X0_rejectWaiting l E n M6 r7  _ hw) hk8 rfl rfl (Nat.le_of_ble_eq_true rfl) ⟨Nat.le_of_ble_eq_true rfl, Nat.le_of_ble_eq_true rfl⟩ qR qL) (fun M9 hw => ?_)
    refine g_iload_n X dX5_stopWaiting_27 0 rfl ?_
    exact g_iret X hr hlk hSz hOld (Nat.le_refl _) dX5_stopWaiting_28 hw
  · refine g_bipush X (-5 : Int32) dX5_stopWaiting_13 (by decide) ?_
    exact g_iret X hr hlk hSz hOld (Nat.le_refl _) dX5_stopWaiting_15 hw
theorem dX5_perform_0 : decode cX5_perform 0 = .ok (.aload_n 0, 1) := by decide +kernel
theorem dX5_perform_1 : decode cX5_perform 1 = .ok (.getfield 26, 3) := by decide +kernel
theorem dX5_perform_4 : decode cX5_perform 4 = .ok (.ldc 120, 2) := by decide +kernel
theorem dX5_perform_6 : decode cX5_perform 6 = .ok (.invokevirtual 122, 3) := by decide +kernel
theorem dX5_perform_9 : decode cX5_perform 9 = .ok (.ifCond .eq 9, 3) := by decide +kernel
theorem dX5_perform_12 : decode cX5_perform 12 = .ok (.aload_n 0, 1) := by decide +kernel
theorem dX5_perform_13 : decode cX5_perform 13 = .ok (.iconst 1, 1) := by decide +kernel
theorem dX5_perform_14 : decode cX5_perform 14 = .ok (.invokevirtual 98, 3) := by decide +kernel
theorem dX5_perform_17 : decode cX5_perform 17 = .ok (.ireturn, 1) := by decide +kernel
theorem dX5_perform_18 : decode cX5_perform 18 = .ok (.aload_n 0, 1) := by decide +kernel
theorem dX5_perform_19 : decode cX5_perform 19 = .ok (.getfield 26, 3) := by decide +kernel
theorem dX5_perform_22 : decode cX5_perform 22 = .ok (.ldc 126, 2) := by decide +kernel
theorem dX5_perform_24 : decode cX5_perform 24 = .ok (.invokevirtual 122, 3) := by decide +kernel
theorem dX5_perform_27 : decode cX5_perform 27 = .ok (.ifCond .eq 15, 3) := by decide +kernel
theorem dX5_perform_30 : decode cX5_perform 30 = .ok (.aload_n 0, 1) := by decide +kernel
theorem dX5_perform_31 : decode cX5_perform 31 = .ok (.aload_n 0, 1) := by decide +kernel
theorem dX5_perform_32 : decode cX5_perform 32 = .ok (.getfield 10, 3) := by decide +kernel
theorem dX5_perform_35 : decode cX5_perform 35 = .ok (.getfield 128, 3) := by decide +kernel
theorem dX5_perform_38 : decode cX5_perform 38 = .ok (.invokevirtual 98, 3) := by decide +kernel
theorem dX5_perform_41 : decode cX5_perform 41 = .ok (.ireturn, 1) := by decide +kernel
theorem dX5_perform_42 : decode cX5_perform 42 = .ok (.aload_n 0, 1) := by decide +kernel
theorem dX5_perform_43 : decode cX5_perform 43 = .ok (.getfield 26, 3) := by decide +kernel
theorem dX5_perform_46 : decode cX5_perform 46 = .ok (.ldc 131, 2) := by decide +kernel
theorem dX5_perform_48 : decode cX5_perform 48 = .ok (.invokevirtual 122, 3) := by decide +kernel
theorem dX5_perform_51 : decode cX5_perform 51 = .ok (.ifCond .eq 8, 3) := by decide +kernel
theorem dX5_perform_54 : decode cX5_perform 54 = .ok (.aload_n 0, 1) := by decide +kernel
theorem dX5_perform_55 : decode cX5_perform 55 = .ok (.invokevirtual 133, 3) := by decide +kernel
theorem dX5_perform_58 : decode cX5_perform 58 = .ok (.ireturn, 1) := by decide +kernel
theorem dX5_perform_59 : decode cX5_perform 59 = .ok (.aload_n 0, 1) := by decide +kernel
theorem dX5_perform_60 : decode cX5_perform 60 = .ok (.getfield 26, 3) := by decide +kernel
theorem dX5_perform_63 : decode cX5_perform 63 = .ok (.ldc 136, 2) := by decide +kernel
theorem dX5_perform_65 : decode cX5_perform 65 = .ok (.invokevirtual 122, 3) := by decide +kernel
theorem dX5_perform_68 : decode cX5_perform 68 = .ok (.ifCond .eq 8, 3) := by decide +kernel
theorem dX5_perform_71 : decode cX5_perform 71 = .ok (.aload_n 0, 1) := by decide +kernel
theorem dX5_perform_72 : decode cX5_perform 72 = .ok (.invokevirtual 138, 3) := by decide +kernel
theorem dX5_perform_75 : decode cX5_perform 75 = .ok (.ireturn, 1) := by decide +kernel
theorem dX5_perform_76 : decode cX5_perform 76 = .ok (.bipush (-2), 2) := by decide +kernel
theorem dX5_perform_78 : decode cX5_perform 78 = .ok (.ireturn, 1) := by decide +kernel
abbrev rmX5_perform : Room := { frames := 5, cells := 0, slots := 0, locals := 116 }
def w_X5_perform (n : Nat) (M : Mem) (t : Nat) (K : Int32 → Mem → Prop) : Prop := ((t ≤ n ∧ kd t = (5, 0)) ∧ (∀ r2, r2 = gR M t 3 → ((r2 ≤ n ∧ kd r2 = (4, 0)) ∧ w_X4_reads n M r2 0 (fun x5 M4 => ((x5 = 0 → (∀ r6, r6 = gR M4 t 3 → ((r6 ≤ n ∧ kd r6 = (4, 0)) ∧ w_X4_reads n M4 r6 1 (fun x9 M8 => ((x9 = 0 → (∀ r10, r10 = gR M8 t 3 → ((r10 ≤ n ∧ kd r10 = (4, 0)) ∧ w_X4_reads n M8 r10 2 (fun x13 M12 => ((x13 = 0 → (∀ r14, r14 = gR M12 t 3 → ((r14 ≤ n ∧ kd r14 = (4, 0)) ∧ w_X4_reads n M12 r14 3 (fun x17 M16 => ((x17 = 0 → K (-2 : Int32) M16) ∧ (¬ x17 = 0 → w_X5_clearHeads n M16 t  (fun x19 M18 => K x19 M18))))))) ∧ (¬ x13 = 0 → w_X5_stopWaiting n M12 t  (fun x21 M20 => K x21 M20))))))) ∧ (¬ x9 = 0 → (∀ r22, r22 = gR M8 t 0 → ((r22 ≤ n ∧ kd r22 = (0, 0)) ∧ w_X5_doSteps n M8 t (gI M8 r22 6) (fun x25 M24 => K x25 M24))))))))) ∧ (¬ x5 = 0 → w_X5_doSteps n M4 t (1 : Int32) (fun x27 M26 => K x27 M26)))))))
set_option maxHeartbeats 4000000 in
set_option maxRecDepth 20000 in
theorem c_X5_perform (l : Launch) (E : Gl) (n : Nat) (M : Mem) (t : Nat) (K : Int32 → Mem → Prop) (hw : w_X5_perform n M t K) : CT E l yX5_perform cX5_perform 1 (some .int) rmX5_perform n M [rV t] (PI E n K) := by
  refine g_met l (by decide) (Nat.le_of_ble_eq_true rfl) ?_
  intro p e s m args below meth c X hr hlk hnm hSz hOld
  change CX E p s m c _ _ RX5 at X
  unfold w_X5_perform at hw
  refine g_aload_n X dX5_perform_0 0 rfl ?_
  obtain ⟨hk1, hw⟩ := hw
  refine g_get X (rV (gR M t 3)) dX5_perform_1 fl_X5_26 (fun _ => rfl) ⟨hk1, hw⟩ (fun hw => ?_)
  refine g_topR (fun r2 hr2 => ?_)
  have hw := hw r2 hr2
  refine g_ldcS (i := 0) X dX5_perform_4 (fun k => k.2.2.2.2.2.2.2.2.1.1) ?_
  obtain ⟨hk3, hw⟩ := hw
  refine g_calli (pc' := 9) (rest := []) rfl (fun H locs ls d qR qL => g_runV X cw_X5_122 iv_X4_reads ⟨Nat.le_of_ble_eq_true rfl, Nat.le_of_ble_eq_true rfl⟩ dX5_perform_6 (c_X4_reads l E n M r2 0 _ hw) hk3 rfl rfl (Nat.le_of_ble_eq_true rfl) ⟨Nat.le_of_ble_eq_true rfl, Nat.le_of_ble_eq_true rfl⟩ qR qL) (fun x5 M4 hw => ?_)
  refine g_if_eq X 18 dX5_perform_9 (by decide) hw (fun hw => ?_) (fun hw => ?_)
  · refine g_aload_n X dX5_perform_18 0 rfl ?_
    refine g_get X (rV (gR M4 t 3)) dX5_perform_19 fl_X5_26 (fun _ => rfl) ⟨hk1, hw⟩ (fun hw => ?_)
    refine g_topR (fun r6 hr6 => ?_)
    have hw := hw r6 hr6
    refine g_ldcS (i := 1) X dX5_perform_22 (fun k => k.2.2.2.2.2.2.2.2.1.2.1) ?_
    obtain ⟨hk7, hw⟩ := hw
    refine g_calli (pc' := 27) (rest := []) rfl (fun H locs ls d qR qL => g_runV X cw_X5_122 iv_X4_reads ⟨Nat.le_of_ble_eq_true rfl, Nat.le_of_ble_eq_true rfl⟩ dX5_perform_24 (c_X4_reads l E n M4 r6 1 _ hw) hk7 rfl rfl (Nat.le_of_ble_eq_true rfl) ⟨Nat.le_of_ble_eq_true rfl, Nat.le_of_ble_eq_true rfl⟩ qR qL) (fun x9 M8 hw => ?_)
    refine g_if_eq X 42 dX5_perform_27 (by decide) hw (fun hw => ?_) (fun hw => ?_)
    · refine g_aload_n X dX5_perform_42 0 rfl ?_
      refine g_get X (rV (gR M8 t 3)) dX5_perform_43 fl_X5_26 (fun _ => rfl) ⟨hk1, hw⟩ (fun hw => ?_)
      refine g_topR (fun r10 hr10 => ?_)
      have hw := hw r10 hr10
      refine g_ldcS (i := 2) X dX5_perform_46 (fun k => k.2.2.2.2.2.2.2.2.1.2.2.1) ?_
      obtain ⟨hk11, hw⟩ := hw
      refine g_calli (pc' := 51) (rest := []) rfl (fun H locs ls d qR qL => g_runV X cw_X5_122 iv_X4_reads ⟨Nat.le_of_ble_eq_true rfl, Nat.le_of_ble_eq_true rfl⟩ dX5_perform_48 (c_X4_reads l E n M8 r10 2 _ hw) hk11 rfl rfl (Nat.le_of_ble_eq_true rfl) ⟨Nat.le_of_ble_eq_true rfl, Nat.le_of_ble_eq_true rfl⟩ qR qL) (fun x13 M12 hw => ?_)
      refine g_if_eq X 59 dX5_perform_51 (by decide) hw (fun hw => ?_) (fun hw => ?_)
      · refine g_aload_n X dX5_perform_59 0 rfl ?_
        refine g_get X (rV (gR M12 t 3)) dX5_perform_60 fl_X5_26 (fun _ => rfl) ⟨hk1, hw⟩ (fun hw => ?_)
        refine g_topR (fun r14 hr14 => ?_)
        have hw := hw r14 hr14
        refine g_ldcS (i := 3) X dX5_perform_63 (fun k => k.2.2.2.2.2.2.2.2.1.2.2.2) ?_
        obtain ⟨hk15, hw⟩ := hw
        refine g_calli (pc' := 68) (rest := []) rfl (fun H locs ls d qR qL => g_runV X cw_X5_122 iv_X4_reads ⟨Nat.le_of_ble_eq_true rfl, Nat.le_of_ble_eq_true rfl⟩ dX5_perform_65 (c_X4_reads l E n M12 r14 3 _ hw) hk15 rfl rfl (Nat.le_of_ble_eq_true rfl) ⟨Nat.le_of_ble_eq_true rfl, Nat.le_of_ble_eq_true rfl⟩ qR qL) (fun x17 M16 hw => ?_)
        refine g_if_eq X 76 dX5_perform_68 (by decide) hw (fun hw => ?_) (fun hw => ?_)
        · refine g_bipush X (-2 : Int32) dX5_perform_76 (by decide) ?_
          exact g_iret X hr hlk hSz hOld (Nat.le_refl _) dX5_perform_78 hw
        · refine g_aload_n X dX5_perform_71 0 rfl ?_
          refine g_calli (pc' := 75) (rest := []) rfl (fun H locs ls d qR qL => g_runV X cw_X5_138 iv_X5_clearHeads ⟨Nat.le_of_ble_eq_true rfl, Nat.le_of_ble_eq_true rfl⟩ dX5_perform_72 (c_X5_clearHeads l E n M16 t  _ hw) hk1 rfl rfl (Nat.le_of_ble_eq_true rfl) ⟨Nat.le_of_ble_eq_true rfl, Nat.le_of_ble_eq_true rfl⟩ qR qL) (fun x19 M18 hw => ?_)
          exact g_iret X hr hlk hSz hOld (Nat.le_refl _) dX5_perform_75 hw
      · refine g_aload_n X dX5_perform_54 0 rfl ?_
        refine g_calli (pc' := 58) (rest := []) rfl (fun H locs ls d qR qL => g_runV X cw_X5_133 iv_X5_stopWaiting ⟨Nat.le_of_ble_eq_true rfl, Nat.le_of_ble_eq_true rfl⟩ dX5_perform_55 (c_X5_stopWaiting l E n M12 t  _ hw) hk1 rfl rfl (Nat.le_of_ble_eq_true rfl) ⟨Nat.le_of_ble_eq_true rfl, Nat.le_of_ble_eq_true rfl⟩ qR qL) (fun x21 M20 hw => ?_)
        exact g_iret X hr hlk hSz hOld (Nat.le_refl _) dX5_perform_58 hw
    · refine g_aload_n X dX5_perform_30 0 rfl ?_
      refine g_aload_n X dX5_perform_31 0 rfl ?_
      refine g_get X (rV (gR M8 t 0)) dX5_perform_32 fl_X5_10 (fun _ => rfl) ⟨hk1, hw⟩ (fun hw => ?_)
      refine g_topR (fun r22 hr22 => ?_)
      have hw := hw r22 hr22
      obtain ⟨hk23, hw⟩ := hw
      refine g_get X (iV (gI M8 r22 6)) dX5_perform_35 fl_X5_128 (fun _ => rfl) ⟨hk23, hw⟩ (fun hw => ?_)
      refine g_calli (pc' := 41) (rest := []) rfl (fun H locs ls d qR qL => g_runV X cw_X5_98 iv_X5_doSteps ⟨Nat.le_of_ble_eq_true rfl, Nat.le_of_ble_eq_true rfl⟩ dX5_perform_38 (c_X5_doSteps l E n M8 t (gI M8 r22 6) _ hw) hk1 rfl rfl (Nat.le_of_ble_eq_true rfl) ⟨Nat.le_of_ble_eq_true rfl, Nat.le_of_ble_eq_true rfl⟩ qR qL) (fun x25 M24 hw => ?_)
      exact g_iret X hr hlk hSz hOld (Nat.le_refl _) dX5_perform_41 hw
  · refine g_aload_n X dX5_perform_12 0 rfl ?_
    refine g_iconst X (1 : Int32) dX5_perform_13 (by decide) ?_
    refine g_calli (pc' := 17) (rest := []) rfl (fun H locs ls d qR qL => g_runV X cw_X5_98 iv_X5_doSteps ⟨Nat.le_of_ble_eq_true rfl, Nat.le_of_ble_eq_true rfl⟩ dX5_perform_14 (c_X5_doSteps l E n M4 t (1 : Int32) _ hw) hk1 rfl rfl (Nat.le_of_ble_eq_true rfl) ⟨Nat.le_of_ble_eq_true rfl, Nat.le_of_ble_eq_true rfl⟩ qR qL) (fun x27 M26 hw => ?_)
    exact g_iret X hr hlk hSz hOld (Nat.le_refl _) dX5_perform_17 hw
theorem dX5_undo_0 : decode cX5_undo 0 = .ok (.aload_n 0, 1) := by decide +kernel
theorem dX5_undo_1 : decode cX5_undo 1 = .ok (.getfield 30, 3) := by decide +kernel
theorem dX5_undo_4 : decode cX5_undo 4 = .ok (.iconst 1, 1) := by decide +kernel
theorem dX5_undo_5 : decode cX5_undo 5 = .ok (.isub, 1) := by decide +kernel
theorem dX5_undo_6 : decode cX5_undo 6 = .ok (.istore_n 1, 1) := by decide +kernel
theorem dX5_undo_7 : decode cX5_undo 7 = .ok (.iload_n 1, 1) := by decide +kernel
theorem dX5_undo_8 : decode cX5_undo 8 = .ok (.ifCond .lt 12, 3) := by decide +kernel
theorem dX5_undo_11 : decode cX5_undo 11 = .ok (.iload_n 1, 1) := by decide +kernel
theorem dX5_undo_12 : decode cX5_undo 12 = .ok (.aload_n 0, 1) := by decide +kernel
theorem dX5_undo_13 : decode cX5_undo 13 = .ok (.getfield 16, 3) := by decide +kernel
theorem dX5_undo_16 : decode cX5_undo 16 = .ok (.arraylength, 1) := by decide +kernel
theorem dX5_undo_17 : decode cX5_undo 17 = .ok (.if_icmp .lt 6, 3) := by decide +kernel
theorem dX5_undo_20 : decode cX5_undo 20 = .ok (.bipush (-5), 2) := by decide +kernel
theorem dX5_undo_22 : decode cX5_undo 22 = .ok (.ireturn, 1) := by decide +kernel
theorem dX5_undo_23 : decode cX5_undo 23 = .ok (.aload_n 0, 1) := by decide +kernel
theorem dX5_undo_24 : decode cX5_undo 24 = .ok (.getfield 10, 3) := by decide +kernel
theorem dX5_undo_27 : decode cX5_undo 27 = .ok (.aload_n 0, 1) := by decide +kernel
theorem dX5_undo_28 : decode cX5_undo 28 = .ok (.getfield 16, 3) := by decide +kernel
theorem dX5_undo_31 : decode cX5_undo 31 = .ok (.iload_n 1, 1) := by decide +kernel
theorem dX5_undo_32 : decode cX5_undo 32 = .ok (.aaload, 1) := by decide +kernel
theorem dX5_undo_33 : decode cX5_undo 33 = .ok (.invokevirtual 141, 3) := by decide +kernel
theorem dX5_undo_36 : decode cX5_undo 36 = .ok (.aload_n 0, 1) := by decide +kernel
theorem dX5_undo_37 : decode cX5_undo 37 = .ok (.iload_n 1, 1) := by decide +kernel
theorem dX5_undo_38 : decode cX5_undo 38 = .ok (.putfield 30, 3) := by decide +kernel
theorem dX5_undo_41 : decode cX5_undo 41 = .ok (.aload_n 0, 1) := by decide +kernel
theorem dX5_undo_42 : decode cX5_undo 42 = .ok (.getfield 30, 3) := by decide +kernel
theorem dX5_undo_45 : decode cX5_undo 45 = .ok (.ireturn, 1) := by decide +kernel
abbrev rmX5_undo : Room := { frames := 2, cells := 0, slots := 0, locals := 43 }
def w_X5_undo (n : Nat) (M : Mem) (t : Nat) (K : Int32 → Mem → Prop) : Prop := ((t ≤ n ∧ kd t = (5, 0)) ∧ (∀ x2, x2 = (gI M t 4) - (1 : Int32) → ((x2 < 0 → K (-5 : Int32) M) ∧ (¬ x2 < 0 → (∀ r3, r3 = gR M t 1 → ((r3 ≤ n ∧ 7 ≤ (kd r3).1 ∧ (kd r3).1 < 13) ∧ ((x2 < (nI (kd r3).2) → (∀ r4, r4 = gR M t 0 → (∀ r5, r5 = gR M t 1 → ((r5 ≤ n ∧ (10 ≤ (kd r5).1 ∧ (kd r5).1 < 13) ∧ vp_in x2 (kd r5).2) ∧ (∀ r6, r6 = gR M r5 (Int32.toNatClampNeg x2) → ((r4 ≤ n ∧ kd r4 = (0, 0)) ∧ w_X0_copyOf n M r4 r6 (fun M8 => (∀ M9, M9 = sI M8 t 4 x2 → K (gI M9 t 4) M9)))))))) ∧ (¬ x2 < (nI (kd r3).2) → K (-5 : Int32) M))))))))
set_option maxHeartbeats 4000000 in
set_option maxRecDepth 20000 in
theorem c_X5_undo (l : Launch) (E : Gl) (n : Nat) (M : Mem) (t : Nat) (K : Int32 → Mem → Prop) (hw : w_X5_undo n M t K) : CT E l yX5_undo cX5_undo 2 (some .int) rmX5_undo n M [rV t] (PI E n K) := by
  refine g_met l (by decide) (Nat.le_of_ble_eq_true rfl) ?_
  intro p e s m args below meth c X hr hlk hnm hSz hOld
  change CX E p s m c _ _ RX5 at X
  unfold w_X5_undo at hw
  refine g_aload_n X dX5_undo_0 0 rfl ?_
  obtain ⟨hk1, hw⟩ := hw
  refine g_get X (iV (gI M t 4)) dX5_undo_1 fl_X5_30 (fun _ => rfl) ⟨hk1, hw⟩ (fun hw => ?_)
  refine g_iconst X (1 : Int32) dX5_undo_4 (by decide) ?_
  refine g_isub X dX5_undo_5 ?_
  refine g_topI (fun x2 hx2 => ?_)
  have hw := hw x2 hx2
  refine g_istore_n (lv' := [(1, iV x2), (0, rV t)]) X dX5_undo_6 (by decide) rfl ?_
  refine g_iload_n X dX5_undo_7 0 rfl ?_
  refine g_if_lt X 20 dX5_undo_8 (by decide) hw (fun hw => ?_) (fun hw => ?_)
  · refine g_bipush X (-5 : Int32) dX5_undo_20 (by decide) ?_
    exact g_iret X hr hlk hSz hOld (Nat.le_refl _) dX5_undo_22 hw
  · refine g_iload_n X dX5_undo_11 0 rfl ?_
    refine g_aload_n X dX5_undo_12 1 rfl ?_
    refine g_get X (rV (gR M t 1)) dX5_undo_13 fl_X5_16 (fun _ => rfl) ⟨hk1, hw⟩ (fun hw => ?_)
    refine g_topR (fun r3 hr3 => ?_)
    have hw := hw r3 hr3
    refine g_alen X dX5_undo_16 hw (fun hw => ?_)
    refine g_icmp_lt X 23 dX5_undo_17 (by decide) hw (fun hw => ?_) (fun hw => ?_)
    · refine g_aload_n X dX5_undo_23 1 rfl ?_
      refine g_get X (rV (gR M t 0)) dX5_undo_24 fl_X5_10 (fun _ => rfl) ⟨hk1, hw⟩ (fun hw => ?_)
      refine g_topR (fun r4 hr4 => ?_)
      have hw := hw r4 hr4
      refine g_aload_n X dX5_undo_27 1 rfl ?_
      refine g_get X (rV (gR M t 1)) dX5_undo_28 fl_X5_16 (fun _ => rfl) ⟨hk1, hw⟩ (fun hw => ?_)
      refine g_topR (fun r5 hr5 => ?_)
      have hw := hw r5 hr5
      refine g_iload_n X dX5_undo_31 0 rfl ?_
      refine g_aald X dX5_undo_32 hw (fun hw => ?_)
      refine g_topR (fun r6 hr6 => ?_)
      have hw := hw r6 hr6
      obtain ⟨hk7, hw⟩ := hw
      refine g_callv (pc' := 36) (rest := []) rfl (fun H locs ls d qR qL => g_runV X cw_X5_141 iv_X0_copyOf ⟨Nat.le_of_ble_eq_true rfl, Nat.le_of_ble_eq_true rfl⟩ dX5_undo_33 (c_X0_copyOf l E n M r4 r6 _ hw) hk7 rfl rfl (Nat.le_of_ble_eq_true rfl) ⟨Nat.le_of_ble_eq_true rfl, Nat.le_of_ble_eq_true rfl⟩ qR qL) (fun M8 hw => ?_)
      refine g_aload_n X dX5_undo_36 1 rfl ?_
      refine g_iload_n X dX5_undo_37 0 rfl ?_
      refine g_putI X dX5_undo_38 fl_X5_30 rfl (Or.inl rfl) ⟨hk1, hw⟩ (fun hw => ?_)
      refine g_topM (fun M9 hM9 => ?_)
      have hw := hw M9 hM9
      refine g_aload_n X dX5_undo_41 1 rfl ?_
      refine g_get X (iV (gI M9 t 4)) dX5_undo_42 fl_X5_30 (fun _ => rfl) ⟨hk1, hw⟩ (fun hw => ?_)
      exact g_iret X hr hlk hSz hOld (Nat.le_refl _) dX5_undo_45 hw
    · refine g_bipush X (-5 : Int32) dX5_undo_20 (by decide) ?_
      exact g_iret X hr hlk hSz hOld (Nat.le_refl _) dX5_undo_22 hw
theorem dX5_keep_0 : decode cX5_keep 0 = .ok (.aload_n 0, 1) := by decide +kernel
theorem dX5_keep_1 : decode cX5_keep 1 = .ok (.getfield 20, 3) := by decide +kernel
theorem dX5_keep_4 : decode cX5_keep 4 = .ok (.aload_n 0, 1) := by decide +kernel
theorem dX5_keep_5 : decode cX5_keep 5 = .ok (.getfield 10, 3) := by decide +kernel
theorem dX5_keep_8 : decode cX5_keep 8 = .ok (.invokevirtual 141, 3) := by decide +kernel
theorem dX5_keep_11 : decode cX5_keep 11 = .ok (.aload_n 0, 1) := by decide +kernel
theorem dX5_keep_12 : decode cX5_keep 12 = .ok (.iconst 1, 1) := by decide +kernel
theorem dX5_keep_13 : decode cX5_keep 13 = .ok (.putfield 34, 3) := by decide +kernel
theorem dX5_keep_16 : decode cX5_keep 16 = .ok (.aload_n 0, 1) := by decide +kernel
theorem dX5_keep_17 : decode cX5_keep 17 = .ok (.getfield 10, 3) := by decide +kernel
theorem dX5_keep_20 : decode cX5_keep 20 = .ok (.getfield 41, 3) := by decide +kernel
theorem dX5_keep_23 : decode cX5_keep 23 = .ok (.ireturn, 1) := by decide +kernel
abbrev rmX5_keep : Room := { frames := 2, cells := 0, slots := 0, locals := 43 }
def w_X5_keep (n : Nat) (M : Mem) (t : Nat) (K : Int32 → Mem → Prop) : Prop := ((t ≤ n ∧ kd t = (5, 0)) ∧ (∀ r2, r2 = gR M t 2 → (∀ r3, r3 = gR M t 0 → ((r2 ≤ n ∧ kd r2 = (0, 0)) ∧ w_X0_copyOf n M r2 r3 (fun M5 => (∀ M6, M6 = sI M5 t 5 (1 : Int32) → (∀ r7, r7 = gR M6 t 0 → ((r7 ≤ n ∧ kd r7 = (0, 0)) ∧ K (gI M6 r7 7) M6))))))))
set_option maxHeartbeats 4000000 in
set_option maxRecDepth 20000 in
theorem c_X5_keep (l : Launch) (E : Gl) (n : Nat) (M : Mem) (t : Nat) (K : Int32 → Mem → Prop) (hw : w_X5_keep n M t K) : CT E l yX5_keep cX5_keep 1 (some .int) rmX5_keep n M [rV t] (PI E n K) := by
  refine g_met l (by decide) (Nat.le_of_ble_eq_true rfl) ?_
  intro p e s m args below meth c X hr hlk hnm hSz hOld
  change CX E p s m c _ _ RX5 at X
  unfold w_X5_keep at hw
  refine g_aload_n X dX5_keep_0 0 rfl ?_
  obtain ⟨hk1, hw⟩ := hw
  refine g_get X (rV (gR M t 2)) dX5_keep_1 fl_X5_20 (fun _ => rfl) ⟨hk1, hw⟩ (fun hw => ?_)
  refine g_topR (fun r2 hr2 => ?_)
  have hw := hw r2 hr2
  refine g_aload_n X dX5_keep_4 0 rfl ?_
  refine g_get X (rV (gR M t 0)) dX5_keep_5 fl_X5_10 (fun _ => rfl) ⟨hk1, hw⟩ (fun hw => ?_)
  refine g_topR (fun r3 hr3 => ?_)
  have hw := hw r3 hr3
  obtain ⟨hk4, hw⟩ := hw
  refine g_callv (pc' := 11) (rest := []) rfl (fun H locs ls d qR qL => g_runV X cw_X5_141 iv_X0_copyOf ⟨Nat.le_of_ble_eq_true rfl, Nat.le_of_ble_eq_true rfl⟩ dX5_keep_8 (c_X0_copyOf l E n M r2 r3 _ hw) hk4 rfl rfl (Nat.le_of_ble_eq_true rfl) ⟨Nat.le_of_ble_eq_true rfl, Nat.le_of_ble_eq_true rfl⟩ qR qL) (fun M5 hw => ?_)
  refine g_aload_n X dX5_keep_11 0 rfl ?_
  refine g_iconst X (1 : Int32) dX5_keep_12 (by decide) ?_
  refine g_putZ X dX5_keep_13 fl_X5_34 rfl (Or.inl rfl) ⟨by decide, hk1, hw⟩ (fun hw => ?_)
  refine g_topM (fun M6 hM6 => ?_)
  have hw := hw M6 hM6
  refine g_aload_n X dX5_keep_16 0 rfl ?_
  refine g_get X (rV (gR M6 t 0)) dX5_keep_17 fl_X5_10 (fun _ => rfl) ⟨hk1, hw⟩ (fun hw => ?_)
  refine g_topR (fun r7 hr7 => ?_)
  have hw := hw r7 hr7
  obtain ⟨hk8, hw⟩ := hw
  refine g_get X (iV (gI M6 r7 7)) dX5_keep_20 fl_X5_41 (fun _ => rfl) ⟨hk8, hw⟩ (fun hw => ?_)
  exact g_iret X hr hlk hSz hOld (Nat.le_refl _) dX5_keep_23 hw
theorem dX5_restore_0 : decode cX5_restore 0 = .ok (.aload_n 0, 1) := by decide +kernel
theorem dX5_restore_1 : decode cX5_restore 1 = .ok (.getfield 34, 3) := by decide +kernel
theorem dX5_restore_4 : decode cX5_restore 4 = .ok (.ifCond .ne 6, 3) := by decide +kernel
theorem dX5_restore_7 : decode cX5_restore 7 = .ok (.bipush (-5), 2) := by decide +kernel
theorem dX5_restore_9 : decode cX5_restore 9 = .ok (.ireturn, 1) := by decide +kernel
theorem dX5_restore_10 : decode cX5_restore 10 = .ok (.aload_n 0, 1) := by decide +kernel
theorem dX5_restore_11 : decode cX5_restore 11 = .ok (.invokevirtual 38, 3) := by decide +kernel
theorem dX5_restore_14 : decode cX5_restore 14 = .ok (.aload_n 0, 1) := by decide +kernel
theorem dX5_restore_15 : decode cX5_restore 15 = .ok (.getfield 10, 3) := by decide +kernel
theorem dX5_restore_18 : decode cX5_restore 18 = .ok (.aload_n 0, 1) := by decide +kernel
theorem dX5_restore_19 : decode cX5_restore 19 = .ok (.getfield 20, 3) := by decide +kernel
theorem dX5_restore_22 : decode cX5_restore 22 = .ok (.invokevirtual 141, 3) := by decide +kernel
theorem dX5_restore_25 : decode cX5_restore 25 = .ok (.aload_n 0, 1) := by decide +kernel
theorem dX5_restore_26 : decode cX5_restore 26 = .ok (.getfield 10, 3) := by decide +kernel
theorem dX5_restore_29 : decode cX5_restore 29 = .ok (.getfield 41, 3) := by decide +kernel
theorem dX5_restore_32 : decode cX5_restore 32 = .ok (.ireturn, 1) := by decide +kernel
abbrev rmX5_restore : Room := { frames := 3, cells := 0, slots := 0, locals := 63 }
def w_X5_restore (n : Nat) (M : Mem) (t : Nat) (K : Int32 → Mem → Prop) : Prop := ((t ≤ n ∧ kd t = (5, 0)) ∧ ((¬ (gI M t 5) = 0 → w_X5_remember n M t  (fun M2 => (∀ r3, r3 = gR M2 t 0 → (∀ r4, r4 = gR M2 t 2 → ((r3 ≤ n ∧ kd r3 = (0, 0)) ∧ w_X0_copyOf n M2 r3 r4 (fun M6 => (∀ r7, r7 = gR M6 t 0 → ((r7 ≤ n ∧ kd r7 = (0, 0)) ∧ K (gI M6 r7 7) M6)))))))) ∧ ((gI M t 5) = 0 → K (-5 : Int32) M)))
set_option maxHeartbeats 4000000 in
set_option maxRecDepth 20000 in
theorem c_X5_restore (l : Launch) (E : Gl) (n : Nat) (M : Mem) (t : Nat) (K : Int32 → Mem → Prop) (hw : w_X5_restore n M t K) : CT E l yX5_restore cX5_restore 1 (some .int) rmX5_restore n M [rV t] (PI E n K) := by
  refine g_met l (by decide) (Nat.le_of_ble_eq_true rfl) ?_
  intro p e s m args below meth c X hr hlk hnm hSz hOld
  change CX E p s m c _ _ RX5 at X
  unfold w_X5_restore at hw
  refine g_aload_n X dX5_restore_0 0 rfl ?_
  obtain ⟨hk1, hw⟩ := hw
  refine g_get X (iV (gI M t 5)) dX5_restore_1 fl_X5_34 (fun _ => rfl) ⟨hk1, hw⟩ (fun hw => ?_)
  refine g_if_ne X 10 dX5_restore_4 (by decide) hw (fun hw => ?_) (fun hw => ?_)
  · refine g_aload_n X dX5_restore_10 0 rfl ?_
    refine g_callv (pc' := 14) (rest := []) rfl (fun H locs ls d qR qL => g_runV X cw_X5_38 iv_X5_remember ⟨Nat.le_of_ble_eq_true rfl, Nat.le_of_ble_eq_true rfl⟩ dX5_restore_11 (c_X5_remember l E n M t  _ hw) hk1 rfl rfl (Nat.le_of_ble_eq_true rfl) ⟨Nat.le_of_ble_eq_true rfl, Nat.le_of_ble_eq_true rfl⟩ qR qL) (fun M2 hw => ?_)
    refine g_aload_n X dX5_restore_14 0 rfl ?_
    refine g_get X (rV (gR M2 t 0)) dX5_restore_15 fl_X5_10 (fun _ => rfl) ⟨hk1, hw⟩ (fun hw => ?_)
    refine g_topR (fun r3 hr3 => ?_)
    have hw := hw r3 hr3
    refine g_aload_n X dX5_restore_18 0 rfl ?_
    refine g_get X (rV (gR M2 t 2)) dX5_restore_19 fl_X5_20 (fun _ => rfl) ⟨hk1, hw⟩ (fun hw => ?_)
    refine g_topR (fun r4 hr4 => ?_)
    have hw := hw r4 hr4
    obtain ⟨hk5, hw⟩ := hw
    refine g_callv (pc' := 25) (rest := []) rfl (fun H locs ls d qR qL => g_runV X cw_X5_141 iv_X0_copyOf ⟨Nat.le_of_ble_eq_true rfl, Nat.le_of_ble_eq_true rfl⟩ dX5_restore_22 (c_X0_copyOf l E n M2 r3 r4 _ hw) hk5 rfl rfl (Nat.le_of_ble_eq_true rfl) ⟨Nat.le_of_ble_eq_true rfl, Nat.le_of_ble_eq_true rfl⟩ qR qL) (fun M6 hw => ?_)
    refine g_aload_n X dX5_restore_25 0 rfl ?_
    refine g_get X (rV (gR M6 t 0)) dX5_restore_26 fl_X5_10 (fun _ => rfl) ⟨hk1, hw⟩ (fun hw => ?_)
    refine g_topR (fun r7 hr7 => ?_)
    have hw := hw r7 hr7
    obtain ⟨hk8, hw⟩ := hw
    refine g_get X (iV (gI M6 r7 7)) dX5_restore_29 fl_X5_41 (fun _ => rfl) ⟨hk8, hw⟩ (fun hw => ?_)
    exact g_iret X hr hlk hSz hOld (Nat.le_refl _) dX5_restore_32 hw
  · refine g_bipush X (-5 : Int32) dX5_restore_7 (by decide) ?_
    exact g_iret X hr hlk hSz hOld (Nat.le_refl _) dX5_restore_9 hw
theorem dX5_head_0 : decode cX5_head 0 = .ok (.aload_n 0, 1) := by decide +kernel
theorem dX5_head_1 : decode cX5_head 1 = .ok (.getfield 10, 3) := by decide +kernel
theorem dX5_head_4 : decode cX5_head 4 = .ok (.iload_n 1, 1) := by decide +kernel
theorem dX5_head_5 : decode cX5_head 5 = .ok (.invokevirtual 71, 3) := by decide +kernel
theorem dX5_head_8 : decode cX5_head 8 = .ok (.astore_n 3, 1) := by decide +kernel
theorem dX5_head_9 : decode cX5_head 9 = .ok (.aload_n 3, 1) := by decide +kernel
theorem dX5_head_10 : decode cX5_head 10 = .ok (.ifnonnull 5, 3) := by decide +kernel
theorem dX5_head_13 : decode cX5_head 13 = .ok (.iconst (-1), 1) := by decide +kernel
theorem dX5_head_14 : decode cX5_head 14 = .ok (.ireturn, 1) := by decide +kernel
theorem dX5_head_15 : decode cX5_head 15 = .ok (.iload_n 2, 1) := by decide +kernel
theorem dX5_head_16 : decode cX5_head 16 = .ok (.tableswitch 101 0 8 #[52, 57, 62, 67, 72, 77, 82, 87, 92], 52) := by decide +kernel
theorem dX5_head_68 : decode cX5_head 68 = .ok (.aload_n 3, 1) := by decide +kernel
theorem dX5_head_69 : decode cX5_head 69 = .ok (.getfield 75, 3) := by decide +kernel
theorem dX5_head_72 : decode cX5_head 72 = .ok (.ireturn, 1) := by decide +kernel
theorem dX5_head_73 : decode cX5_head 73 = .ok (.aload_n 3, 1) := by decide +kernel
theorem dX5_head_74 : decode cX5_head 74 = .ok (.getfield 80, 3) := by decide +kernel
theorem dX5_head_77 : decode cX5_head 77 = .ok (.ireturn, 1) := by decide +kernel
theorem dX5_head_78 : decode cX5_head 78 = .ok (.aload_n 3, 1) := by decide +kernel
theorem dX5_head_79 : decode cX5_head 79 = .ok (.getfield 87, 3) := by decide +kernel
theorem dX5_head_82 : decode cX5_head 82 = .ok (.ireturn, 1) := by decide +kernel
theorem dX5_head_83 : decode cX5_head 83 = .ok (.aload_n 3, 1) := by decide +kernel
theorem dX5_head_84 : decode cX5_head 84 = .ok (.getfield 84, 3) := by decide +kernel
theorem dX5_head_87 : decode cX5_head 87 = .ok (.ireturn, 1) := by decide +kernel
theorem dX5_head_88 : decode cX5_head 88 = .ok (.aload_n 3, 1) := by decide +kernel
theorem dX5_head_89 : decode cX5_head 89 = .ok (.getfield 145, 3) := by decide +kernel
theorem dX5_head_92 : decode cX5_head 92 = .ok (.ireturn, 1) := by decide +kernel
theorem dX5_head_93 : decode cX5_head 93 = .ok (.aload_n 3, 1) := by decide +kernel
theorem dX5_head_94 : decode cX5_head 94 = .ok (.getfield 148, 3) := by decide +kernel
theorem dX5_head_97 : decode cX5_head 97 = .ok (.ireturn, 1) := by decide +kernel
theorem dX5_head_98 : decode cX5_head 98 = .ok (.aload_n 3, 1) := by decide +kernel
theorem dX5_head_99 : decode cX5_head 99 = .ok (.getfield 151, 3) := by decide +kernel
theorem dX5_head_102 : decode cX5_head 102 = .ok (.ireturn, 1) := by decide +kernel
theorem dX5_head_103 : decode cX5_head 103 = .ok (.aload_n 3, 1) := by decide +kernel
theorem dX5_head_104 : decode cX5_head 104 = .ok (.getfield 154, 3) := by decide +kernel
theorem dX5_head_107 : decode cX5_head 107 = .ok (.ireturn, 1) := by decide +kernel
theorem dX5_head_108 : decode cX5_head 108 = .ok (.aload_n 0, 1) := by decide +kernel
theorem dX5_head_109 : decode cX5_head 109 = .ok (.getfield 10, 3) := by decide +kernel
theorem dX5_head_112 : decode cX5_head 112 = .ok (.aload_n 3, 1) := by decide +kernel
theorem dX5_head_113 : decode cX5_head 113 = .ok (.invokevirtual 157, 3) := by decide +kernel
theorem dX5_head_116 : decode cX5_head 116 = .ok (.ireturn, 1) := by decide +kernel
theorem dX5_head_117 : decode cX5_head 117 = .ok (.bipush (-2), 2) := by decide +kernel
theorem dX5_head_119 : decode cX5_head 119 = .ok (.ireturn, 1) := by decide +kernel
abbrev rmX5_head : Room := { frames := 1, cells := 0, slots := 0, locals := 22 }
def w_X5_head (n : Nat) (M : Mem) (t : Nat) (p1 : Int32) (p2 : Int32) (K : Int32 → Mem → Prop) : Prop := ((t ≤ n ∧ kd t = (5, 0)) ∧ (∀ r2, r2 = gR M t 0 → ((r2 ≤ n ∧ kd r2 = (0, 0)) ∧ w_X0_headAt n M r2 p1 (fun r5 M4 => ((¬ r5 = 0 → ((p2 = (0 : Int32) → ((r5 ≤ n ∧ kd r5 = (1, 0)) ∧ K (gI M4 r5 3) M4)) ∧ (¬ p2 = (0 : Int32) → ((p2 = (1 : Int32) → ((r5 ≤ n ∧ kd r5 = (1, 0)) ∧ K (gI M4 r5 4) M4)) ∧ (¬ p2 = (1 : Int32) → ((p2 = (2 : Int32) → ((r5 ≤ n ∧ kd r5 = (1, 0)) ∧ K (gI M4 r5 5) M4)) ∧ (¬ p2 = (2 : Int32) → ((p2 = (3 : Int32) → ((r5 ≤ n ∧ kd r5 = (1, 0)) ∧ K (gI M4 r5 6) M4)) ∧ (¬ p2 = (3 : Int32) → ((p2 = (4 : Int32) → ((r5 ≤ n ∧ kd r5 = (1, 0)) ∧ K (gI M4 r5 10) M4)) ∧ (¬ p2 = (4 : Int32) → ((p2 = (5 : Int32) → ((r5 ≤ n ∧ kd r5 = (1, 0)) ∧ K (gI M4 r5 11) M4)) ∧ (¬ p2 = (5 : Int32) → ((p2 = (6 : Int32) → ((r5 ≤ n ∧ kd r5 = (1, 0)) ∧ K (gI M4 r5 12) M4)) ∧ (¬ p2 = (6 : Int32) → ((p2 = (7 : Int32) → ((r5 ≤ n ∧ kd r5 = (1, 0)) ∧ K (gI M4 r5 13) M4)) ∧ (¬ p2 = (7 : Int32) → ((p2 = (8 : Int32) → (∀ r14, r14 = gR M4 t 0 → ((r14 ≤ n ∧ kd r14 = (0, 0)) ∧ w_X0_stepsUntil n M4 r14 r5 (fun x17 M16 => K x17 M16)))) ∧ (¬ p2 = (8 : Int32) → K (-2 : Int32) M4))))))))))))))))))) ∧ (r5 = 0 → K (-1 : Int32) M4))))))
set_option maxHeartbeats 4000000 in
set_option maxRecDepth 20000 in
theorem c_X5_head (l : Launch) (E : Gl) (n : Nat) (M : Mem) (t : Nat) (p1 : Int32) (p2 : Int32) (K : Int32 → Mem → Prop) (hw : w_X5_head n M t p1 p2 K) : CT E l yX5_head cX5_head 4 (some .int) rmX5_head n M [rV t, iV p1, iV p2] (PI E n K) := by
  refine g_met l (by decide) (Nat.le_of_ble_eq_true rfl) ?_
  intro p e s m args below meth c X hr hlk hnm hSz hOld
  change CX E p s m c _ _ RX5 at X
  unfold w_X5_head at hw
  refine g_aload_n X dX5_head_0 0 rfl ?_
  obtain ⟨hk1, hw⟩ := hw
  refine g_get X (rV (gR M t 0)) dX5_head_1 fl_X5_10 (fun _ => rfl) ⟨hk1, hw⟩ (fun hw => ?_)
  refine g_topR (fun r2 hr2 => ?_)
  have hw := hw r2 hr2
  refine g_iload_n X dX5_head_4 1 rfl ?_
  obtain ⟨hk3, hw⟩ := hw
  refine g_callr (pc' := 8) (rest := []) rfl (fun H locs ls d qR qL => g_runV X cw_X5_71 iv_X0_headAt ⟨Nat.le_of_ble_eq_true rfl, Nat.le_of_ble_eq_true rfl⟩ dX5_head_5 (c_X0_headAt l E n M r2 p1 _ hw) hk3 rfl rfl (Nat.le_of_ble_eq_true rfl) ⟨Nat.le_of_ble_eq_true rfl, Nat.le_of_ble_eq_true rfl⟩ qR qL) (fun r5 M4 hw => ?_)
  refine g_astore_n (lv' := [(3, rV r5), (0, rV t), (1, iV p1), (2, iV p2)]) X dX5_head_8 (by decide) rfl ?_
  refine g_aload_n X dX5_head_9 0 rfl ?_
  refine g_ifnonnull X 15 dX5_head_10 (by decide) hw (fun hw => ?_) (fun hw => ?_)
  · refine g_iload_n X dX5_head_15 3 rfl ?_
    by_cases q0 : p2 = (0 : Int32)
    · have hw := hw.1 q0
      refine g_swIn (off := 52) X 68 dX5_head_16 (by rw [q0]; decide) (by rw [q0]; decide) (by rw [q0]; decide) (by decide) ?_
      refine g_aload_n X dX5_head_68 0 rfl ?_
      obtain ⟨hk6, hw⟩ := hw
      refine g_get X (iV (gI M4 r5 3)) dX5_head_69 fl_X5_75 (fun _ => rfl) ⟨hk6, hw⟩ (fun hw => ?_)
      exact g_iret X hr hlk hSz hOld (Nat.le_refl _) dX5_head_72 hw
    have hw := hw.2 q0
    by_cases q1 : p2 = (1 : Int32)
    · have hw := hw.1 q1
      refine g_swIn (off := 57) X 73 dX5_head_16 (by rw [q1]; decide) (by rw [q1]; decide) (by rw [q1]; decide) (by decide) ?_
      refine g_aload_n X dX5_head_73 0 rfl ?_
      obtain ⟨hk7, hw⟩ := hw
      refine g_get X (iV (gI M4 r5 4)) dX5_head_74 fl_X5_80 (fun _ => rfl) ⟨hk7, hw⟩ (fun hw => ?_)
      exact g_iret X hr hlk hSz hOld (Nat.le_refl _) dX5_head_77 hw
    have hw := hw.2 q1
    by_cases q2 : p2 = (2 : Int32)
    · have hw := hw.1 q2
      refine g_swIn (off := 62) X 78 dX5_head_16 (by rw [q2]; decide) (by rw [q2]; decide) (by rw [q2]; decide) (by decide) ?_
      refine g_aload_n X dX5_head_78 0 rfl ?_
      obtain ⟨hk8, hw⟩ := hw
      refine g_get X (iV (gI M4 r5 5)) dX5_head_79 fl_X5_87 (fun _ => rfl) ⟨hk8, hw⟩ (fun hw => ?_)
      exact g_iret X hr hlk hSz hOld (Nat.le_refl _) dX5_head_82 hw
    have hw := hw.2 q2
    by_cases q3 : p2 = (3 : Int32)
    · have hw := hw.1 q3
      refine g_swIn (off := 67) X 83 dX5_head_16 (by rw [q3]; decide) (by rw [q3]; decide) (by rw [q3]; decide) (by decide) ?_
      refine g_aload_n X dX5_head_83 0 rfl ?_
      obtain ⟨hk9, hw⟩ := hw
      refine g_get X (iV (gI M4 r5 6)) dX5_head_84 fl_X5_84 (fun _ => rfl) ⟨hk9, hw⟩ (fun hw => ?_)
      exact g_iret X hr hlk hSz hOld (Nat.le_refl _) dX5_head_87 hw
    have hw := hw.2 q3
    by_cases q4 : p2 = (4 : Int32)
    · have hw := hw.1 q4
      refine g_swIn (off := 72) X 88 dX5_head_16 (by rw [q4]; decide) (by rw [q4]; decide) (by rw [q4]; decide) (by decide) ?_
      refine g_aload_n X dX5_head_88 0 rfl ?_
      obtain ⟨hk10, hw⟩ := hw
      refine g_get X (iV (gI M4 r5 10)) dX5_head_89 fl_X5_145 (fun _ => rfl) ⟨hk10, hw⟩ (fun hw => ?_)
      exact g_iret X hr hlk hSz hOld (Nat.le_refl _) dX5_head_92 hw
    have hw := hw.2 q4
    by_cases q5 : p2 = (5 : Int32)
    · have hw := hw.1 q5
      refine g_swIn (off := 77) X 93 dX5_head_16 (by rw [q5]; decide) (by rw [q5]; decide) (by rw [q5]; decide) (by decide) ?_
      refine g_aload_n X dX5_head_93 0 rfl ?_
      obtain ⟨hk11, hw⟩ := hw
      refine g_get X (iV (gI M4 r5 11)) dX5_head_94 fl_X5_148 (fun _ => rfl) ⟨hk11, hw⟩ (fun hw => ?_)
      exact g_iret X hr hlk hSz hOld (Nat.le_refl _) dX5_head_97 hw
    have hw := hw.2 q5
    by_cases q6 : p2 = (6 : Int32)
    · have hw := hw.1 q6
      refine g_swIn (off := 82) X 98 dX5_head_16 (by rw [q6]; decide) (by rw [q6]; decide) (by rw [q6]; decide) (by decide) ?_
      refine g_aload_n X dX5_head_98 0 rfl ?_
      obtain ⟨hk12, hw⟩ := hw
      refine g_get X (iV (gI M4 r5 12)) dX5_head_99 fl_X5_151 (fun _ => rfl) ⟨hk12, hw⟩ (fun hw => ?_)
      exact g_iret X hr hlk hSz hOld (Nat.le_refl _) dX5_head_102 hw
    have hw := hw.2 q6
    by_cases q7 : p2 = (7 : Int32)
    · have hw := hw.1 q7
      refine g_swIn (off := 87) X 103 dX5_head_16 (by rw [q7]; decide) (by rw [q7]; decide) (by rw [q7]; decide) (by decide) ?_
      refine g_aload_n X dX5_head_103 0 rfl ?_
      obtain ⟨hk13, hw⟩ := hw
      refine g_get X (iV (gI M4 r5 13)) dX5_head_104 fl_X5_154 (fun _ => rfl) ⟨hk13, hw⟩ (fun hw => ?_)
      exact g_iret X hr hlk hSz hOld (Nat.le_refl _) dX5_head_107 hw
    have hw := hw.2 q7
    by_cases q8 : p2 = (8 : Int32)
    · have hw := hw.1 q8
      refine g_swIn (off := 92) X 108 dX5_head_16 (by rw [q8]; decide) (by rw [q8]; decide) (by rw [q8]; decide) (by decide) ?_
      refine g_aload_n X dX5_head_108 1 rfl ?_
      refine g_get X (rV (gR M4 t 0)) dX5_head_109 fl_X5_10 (fun _ => rfl) ⟨hk1, hw⟩ (fun hw => ?_)
      refine g_topR (fun r14 hr14 => ?_)
      have hw := hw r14 hr14
      refine g_aload_n X dX5_head_112 0 rfl ?_
      obtain ⟨hk15, hw⟩ := hw
      refine g_calli (pc' := 116) (rest := []) rfl (fun H locs ls d qR qL => g_runV X cw_X5_157 iv_X0_stepsUntil ⟨Nat.le_of_ble_eq_true rfl, Nat.le_of_ble_eq_true rfl⟩ dX5_head_113 (c_X0_stepsUntil l E n M4 r14 r5 _ hw) hk15 rfl rfl (Nat.le_of_ble_eq_true rfl) ⟨Nat.le_of_ble_eq_true rfl, Nat.le_of_ble_eq_true rfl⟩ qR qL) (fun x17 M16 hw => ?_)
      exact g_iret X hr hlk hSz hOld (Nat.le_refl _) dX5_head_116 hw
    have hw := hw.2 q8
    have swn0 := sw_ne (k := 0) (by decide) q0
    have swn1 := sw_ne (k := 1) (by decide) q1
    have swn2 := sw_ne (k := 2) (by decide) q2
    have swn3 := sw_ne (k := 3) (by decide) q3
    have swn4 := sw_ne (k := 4) (by decide) q4
    have swn5 := sw_ne (k := 5) (by decide) q5
    have swn6 := sw_ne (k := 6) (by decide) q6
    have swn7 := sw_ne (k := 7) (by decide) q7
    have swn8 := sw_ne (k := 8) (by decide) q8
    refine g_swOut X 117 dX5_head_16 (by omega) (by decide) ?_
    refine g_bipush X (-2 : Int32) dX5_head_117 (by decide) ?_
    exact g_iret X hr hlk hSz hOld (Nat.le_refl _) dX5_head_119 hw
  · refine g_iconst X (-1 : Int32) dX5_head_13 (by decide) ?_
    exact g_iret X hr hlk hSz hOld (Nat.le_refl _) dX5_head_14 hw
theorem dX5_gauge_0 : decode cX5_gauge 0 = .ok (.aload_n 0, 1) := by decide +kernel
theorem dX5_gauge_1 : decode cX5_gauge 1 = .ok (.getfield 10, 3) := by decide +kernel
theorem dX5_gauge_4 : decode cX5_gauge 4 = .ok (.iload_n 1, 1) := by decide +kernel
theorem dX5_gauge_5 : decode cX5_gauge 5 = .ok (.invokevirtual 71, 3) := by decide +kernel
theorem dX5_gauge_8 : decode cX5_gauge 8 = .ok (.astore_n 3, 1) := by decide +kernel
theorem dX5_gauge_9 : decode cX5_gauge 9 = .ok (.aload_n 3, 1) := by decide +kernel
theorem dX5_gauge_10 : decode cX5_gauge 10 = .ok (.ifnonnull 7, 3) := by decide +kernel
theorem dX5_gauge_13 : decode cX5_gauge 13 = .ok (.invokestatic 161, 3) := by decide +kernel
theorem dX5_gauge_16 : decode cX5_gauge 16 = .ok (.dreturn, 1) := by decide +kernel
theorem dX5_gauge_17 : decode cX5_gauge 17 = .ok (.iload_n 2, 1) := by decide +kernel
theorem dX5_gauge_18 : decode cX5_gauge 18 = .ok (.ifCond .ne 8, 3) := by decide +kernel
theorem dX5_gauge_21 : decode cX5_gauge 21 = .ok (.aload_n 3, 1) := by decide +kernel
theorem dX5_gauge_22 : decode cX5_gauge 22 = .ok (.getfield 165, 3) := by decide +kernel
theorem dX5_gauge_25 : decode cX5_gauge 25 = .ok (.dreturn, 1) := by decide +kernel
theorem dX5_gauge_26 : decode cX5_gauge 26 = .ok (.iload_n 2, 1) := by decide +kernel
theorem dX5_gauge_27 : decode cX5_gauge 27 = .ok (.iconst 1, 1) := by decide +kernel
theorem dX5_gauge_28 : decode cX5_gauge 28 = .ok (.if_icmp .ne 8, 3) := by decide +kernel
theorem dX5_gauge_31 : decode cX5_gauge 31 = .ok (.aload_n 3, 1) := by decide +kernel
theorem dX5_gauge_32 : decode cX5_gauge 32 = .ok (.getfield 169, 3) := by decide +kernel
theorem dX5_gauge_35 : decode cX5_gauge 35 = .ok (.dreturn, 1) := by decide +kernel
theorem dX5_gauge_36 : decode cX5_gauge 36 = .ok (.aload_n 3, 1) := by decide +kernel
theorem dX5_gauge_37 : decode cX5_gauge 37 = .ok (.getfield 84, 3) := by decide +kernel
theorem dX5_gauge_40 : decode cX5_gauge 40 = .ok (.bipush (-5), 2) := by decide +kernel
theorem dX5_gauge_42 : decode cX5_gauge 42 = .ok (.if_icmp .ne 7, 3) := by decide +kernel
theorem dX5_gauge_45 : decode cX5_gauge 45 = .ok (.invokestatic 161, 3) := by decide +kernel
theorem dX5_gauge_48 : decode cX5_gauge 48 = .ok (.dreturn, 1) := by decide +kernel
theorem dX5_gauge_49 : decode cX5_gauge 49 = .ok (.iload_n 2, 1) := by decide +kernel
theorem dX5_gauge_50 : decode cX5_gauge 50 = .ok (.iconst 2, 1) := by decide +kernel
theorem dX5_gauge_51 : decode cX5_gauge 51 = .ok (.if_icmp .ne 8, 3) := by decide +kernel
theorem dX5_gauge_54 : decode cX5_gauge 54 = .ok (.aload_n 3, 1) := by decide +kernel
theorem dX5_gauge_55 : decode cX5_gauge 55 = .ok (.getfield 172, 3) := by decide +kernel
theorem dX5_gauge_58 : decode cX5_gauge 58 = .ok (.dreturn, 1) := by decide +kernel
theorem dX5_gauge_59 : decode cX5_gauge 59 = .ok (.iload_n 2, 1) := by decide +kernel
theorem dX5_gauge_60 : decode cX5_gauge 60 = .ok (.iconst 3, 1) := by decide +kernel
theorem dX5_gauge_61 : decode cX5_gauge 61 = .ok (.if_icmp .ne 10, 3) := by decide +kernel
theorem dX5_gauge_64 : decode cX5_gauge 64 = .ok (.aload_n 3, 1) := by decide +kernel
theorem dX5_gauge_65 : decode cX5_gauge 65 = .ok (.getfield 175, 3) := by decide +kernel
theorem dX5_gauge_68 : decode cX5_gauge 68 = .ok (.goto 6, 3) := by decide +kernel
theorem dX5_gauge_71 : decode cX5_gauge 71 = .ok (.invokestatic 161, 3) := by decide +kernel
theorem dX5_gauge_74 : decode cX5_gauge 74 = .ok (.dreturn, 1) := by decide +kernel
abbrev rmX5_gauge : Room := { frames := 1, cells := 0, slots := 0, locals := 22 }
def w_X5_gauge (n : Nat) (M : Mem) (t : Nat) (p1 : Int32) (p2 : Int32) (K : UInt64 → Mem → Prop) : Prop := ((t ≤ n ∧ kd t = (5, 0)) ∧ (∀ r2, r2 = gR M t 0 → ((r2 ≤ n ∧ kd r2 = (0, 0)) ∧ w_X0_headAt n M r2 p1 (fun r5 M4 => ((¬ r5 = 0 → ((¬ p2 = 0 → ((¬ p2 = (1 : Int32) → ((r5 ≤ n ∧ kd r5 = (1, 0)) ∧ ((¬ (gI M4 r5 6) = (-5 : Int32) → ((¬ p2 = (2 : Int32) → ((¬ p2 = (3 : Int32) → w_X5_notANumber n M4  (fun z8 M7 => K z8 M7)) ∧ (p2 = (3 : Int32) → K (gD M4 r5 8) M4))) ∧ (p2 = (2 : Int32) → K (gD M4 r5 7) M4))) ∧ ((gI M4 r5 6) = (-5 : Int32) → w_X5_notANumber n M4  (fun z10 M9 => K z10 M9))))) ∧ (p2 = (1 : Int32) → ((r5 ≤ n ∧ kd r5 = (1, 0)) ∧ K (gD M4 r5 2) M4)))) ∧ (p2 = 0 → ((r5 ≤ n ∧ kd r5 = (1, 0)) ∧ K (gD M4 r5 1) M4)))) ∧ (r5 = 0 → w_X5_notANumber n M4  (fun z14 M13 => K z14 M13)))))))
set_option maxHeartbeats 4000000 in
set_option maxRecDepth 20000 in
theorem c_X5_gauge (l : Launch) (E : Gl) (n : Nat) (M : Mem) (t : Nat) (p1 : Int32) (p2 : Int32) (K : UInt64 → Mem → Prop) (hw : w_X5_gauge n M t p1 p2 K) : CT E l yX5_gauge cX5_gauge 4 (some .double) rmX5_gauge n M [rV t, iV p1, iV p2] (PD E n K) := by
  refine g_met l (by decide) (Nat.le_of_ble_eq_true rfl) ?_
  intro p e s m args below meth c X hr hlk hnm hSz hOld
  change CX E p s m c _ _ RX5 at X
  unfold w_X5_gauge at hw
  refine g_aload_n X dX5_gauge_0 0 rfl ?_
  obtain ⟨hk1, hw⟩ := hw
  refine g_get X (rV (gR M t 0)) dX5_gauge_1 fl_X5_10 (fun _ => rfl) ⟨hk1, hw⟩ (fun hw => ?_)
  refine g_topR (fun r2 hr2 => ?_)
  have hw := hw r2 hr2
  refine g_iload_n X dX5_gauge_4 1 rfl ?_
  obtain ⟨hk3, hw⟩ := hw
  refine g_callr (pc' := 8) (rest := []) rfl (fun H locs ls d qR qL => g_runV X cw_X5_71 iv_X0_headAt ⟨Nat.le_of_ble_eq_true rfl, Nat.le_of_ble_eq_true rfl⟩ dX5_gauge_5 (c_X0_headAt l E n M r2 p1 _ hw) hk3 rfl rfl (Nat.le_of_ble_eq_true rfl) ⟨Nat.le_of_ble_eq_true rfl, Nat.le_of_ble_eq_true rfl⟩ qR qL) (fun r5 M4 hw => ?_)
  refine g_astore_n (lv' := [(3, rV r5), (0, rV t), (1, iV p1), (2, iV p2)]) X dX5_gauge_8 (by decide) rfl ?_
  refine g_aload_n X dX5_gauge_9 0 rfl ?_
  refine g_ifnonnull X 17 dX5_gauge_10 (by decide) hw (fun hw => ?_) (fun hw => ?_)
  · refine g_iload_n X dX5_gauge_17 3 rfl ?_
    refine g_if_ne X 26 dX5_gauge_18 (by decide) hw (fun hw => ?_) (fun hw => ?_)
    · refine g_iload_n X dX5_gauge_26 3 rfl ?_
      refine g_iconst X (1 : Int32) dX5_gauge_27 (by decide) ?_
      refine g_icmp_ne X 36 dX5_gauge_28 (by decide) hw (fun hw => ?_) (fun hw => ?_)
      · refine g_aload_n X dX5_gauge_36 0 rfl ?_
        obtain ⟨hk6, hw⟩ := hw
        refine g_get X (iV (gI M4 r5 6)) dX5_gauge_37 fl_X5_84 (fun _ => rfl) ⟨hk6, hw⟩ (fun hw => ?_)
        refine g_bipush X (-5 : Int32) dX5_gauge_40 (by decide) ?_
        refine g_icmp_ne X 49 dX5_gauge_42 (by decide) hw (fun hw => ?_) (fun hw => ?_)
        · refine g_iload_n X dX5_gauge_49 3 rfl ?_
          refine g_iconst X (2 : Int32) dX5_gauge_50 (by decide) ?_
          refine g_icmp_ne X 59 dX5_gauge_51 (by decide) hw (fun hw => ?_) (fun hw => ?_)
          · refine g_iload_n X dX5_gauge_59 3 rfl ?_
            refine g_iconst X (3 : Int32) dX5_gauge_60 (by decide) ?_
            refine g_icmp_ne X 71 dX5_gauge_61 (by decide) hw (fun hw => ?_) (fun hw => ?_)
            · refine g_calld (pc' := 74) (rest := []) rfl (fun H locs ls d qR qL => g_runS X cw_X5_161 wt_X5_notANumber ⟨Nat.le_of_ble_eq_true rfl, Nat.le_of_ble_eq_true rfl⟩ dX5_gauge_71 (c_X5_notANumber l E n M4  _ hw) rfl rfl (Nat.le_of_ble_eq_true rfl) ⟨Nat.le_of_ble_eq_true rfl, Nat.le_of_ble_eq_true rfl⟩ qR qL) (fun z8 M7 hw => ?_)
              exact g_dret X hr hlk hSz hOld (Nat.le_refl _) dX5_gauge_74 hw
            · refine g_aload_n X dX5_gauge_64 0 rfl ?_
              refine g_get X (dV (gD M4 r5 8)) dX5_gauge_65 fl_X5_175 (fun _ => rfl) ⟨hk6, hw⟩ (fun hw => ?_)
              refine g_goto X 74 dX5_gauge_68 (by decide) ?_
              exact g_dret X hr hlk hSz hOld (Nat.le_refl _) dX5_gauge_74 hw
          · refine g_aload_n X dX5_gauge_54 0 rfl ?_
            refine g_get X (dV (gD M4 r5 7)) dX5_gauge_55 fl_X5_172 (fun _ => rfl) ⟨hk6, hw⟩ (fun hw => ?_)
            exact g_dret X hr hlk hSz hOld (Nat.le_refl _) dX5_gauge_58 hw
        · refine g_calld (pc' := 48) (rest := []) rfl (fun H locs ls d qR qL => g_runS X cw_X5_161 wt_X5_notANumber ⟨Nat.le_of_ble_eq_true rfl, Nat.le_of_ble_eq_true rfl⟩ dX5_gauge_45 (c_X5_notANumber l E n M4  _ hw) rfl rfl (Nat.le_of_ble_eq_true rfl) ⟨Nat.le_of_ble_eq_true rfl, Nat.le_of_ble_eq_true rfl⟩ qR qL) (fun z10 M9 hw => ?_)
          exact g_dret X hr hlk hSz hOld (Nat.le_refl _) dX5_gauge_48 hw
      · refine g_aload_n X dX5_gauge_31 0 rfl ?_
        obtain ⟨hk11, hw⟩ := hw
        refine g_get X (dV (gD M4 r5 2)) dX5_gauge_32 fl_X5_169 (fun _ => rfl) ⟨hk11, hw⟩ (fun hw => ?_)
        exact g_dret X hr hlk hSz hOld (Nat.le_refl _) dX5_gauge_35 hw
    · refine g_aload_n X dX5_gauge_21 0 rfl ?_
      obtain ⟨hk12, hw⟩ := hw
      refine g_get X (dV (gD M4 r5 1)) dX5_gauge_22 fl_X5_165 (fun _ => rfl) ⟨hk12, hw⟩ (fun hw => ?_)
      exact g_dret X hr hlk hSz hOld (Nat.le_refl _) dX5_gauge_25 hw
  · refine g_calld (pc' := 16) (rest := []) rfl (fun H locs ls d qR qL => g_runS X cw_X5_161 wt_X5_notANumber ⟨Nat.le_of_ble_eq_true rfl, Nat.le_of_ble_eq_true rfl⟩ dX5_gauge_13 (c_X5_notANumber l E n M4  _ hw) rfl rfl (Nat.le_of_ble_eq_true rfl) ⟨Nat.le_of_ble_eq_true rfl, Nat.le_of_ble_eq_true rfl⟩ qR qL) (fun z14 M13 hw => ?_)
    exact g_dret X hr hlk hSz hOld (Nat.le_refl _) dX5_gauge_16 hw
theorem dX5_display_0 : decode cX5_display 0 = .ok (.aload_n 0, 1) := by decide +kernel
theorem dX5_display_1 : decode cX5_display 1 = .ok (.getfield 10, 3) := by decide +kernel
theorem dX5_display_4 : decode cX5_display 4 = .ok (.iload_n 1, 1) := by decide +kernel
theorem dX5_display_5 : decode cX5_display 5 = .ok (.invokevirtual 71, 3) := by decide +kernel
theorem dX5_display_8 : decode cX5_display 8 = .ok (.astore_n 2, 1) := by decide +kernel
theorem dX5_display_9 : decode cX5_display 9 = .ok (.aload_n 2, 1) := by decide +kernel
theorem dX5_display_10 : decode cX5_display 10 = .ok (.ifnonnull 5, 3) := by decide +kernel
theorem dX5_display_13 : decode cX5_display 13 = .ok (.iconst (-1), 1) := by decide +kernel
theorem dX5_display_14 : decode cX5_display 14 = .ok (.ireturn, 1) := by decide +kernel
theorem dX5_display_15 : decode cX5_display 15 = .ok (.aload_n 2, 1) := by decide +kernel
theorem dX5_display_16 : decode cX5_display 16 = .ok (.getfield 84, 3) := by decide +kernel
theorem dX5_display_19 : decode cX5_display 19 = .ok (.bipush (-5), 2) := by decide +kernel
theorem dX5_display_21 : decode cX5_display 21 = .ok (.if_icmp .ne 8, 3) := by decide +kernel
theorem dX5_display_24 : decode cX5_display 24 = .ok (.bipush (-5), 2) := by decide +kernel
theorem dX5_display_26 : decode cX5_display 26 = .ok (.goto 11, 3) := by decide +kernel
theorem dX5_display_29 : decode cX5_display 29 = .ok (.aload_n 2, 1) := by decide +kernel
theorem dX5_display_30 : decode cX5_display 30 = .ok (.getfield 175, 3) := by decide +kernel
theorem dX5_display_33 : decode cX5_display 33 = .ok (.d2f, 1) := by decide +kernel
theorem dX5_display_34 : decode cX5_display 34 = .ok (.invokestatic 178, 3) := by decide +kernel
theorem dX5_display_37 : decode cX5_display 37 = .ok (.ireturn, 1) := by decide +kernel
abbrev rmX5_display : Room := { frames := 1, cells := 0, slots := 0, locals := 24 }
def w_X5_display (n : Nat) (M : Mem) (t : Nat) (p1 : Int32) (K : Int32 → Mem → Prop) : Prop := ((t ≤ n ∧ kd t = (5, 0)) ∧ (∀ r2, r2 = gR M t 0 → ((r2 ≤ n ∧ kd r2 = (0, 0)) ∧ w_X0_headAt n M r2 p1 (fun r5 M4 => ((¬ r5 = 0 → ((r5 ≤ n ∧ kd r5 = (1, 0)) ∧ ((¬ (gI M4 r5 6) = (-5 : Int32) → (vf_n32 (FP.d2f (gD M4 r5 8)) ∧ w_X5_bitsOf n M4 (FP.d2f (gD M4 r5 8)) (fun x8 M7 => K x8 M7))) ∧ ((gI M4 r5 6) = (-5 : Int32) → K (-5 : Int32) M4)))) ∧ (r5 = 0 → K (-1 : Int32) M4))))))
set_option maxHeartbeats 4000000 in
set_option maxRecDepth 20000 in
theorem c_X5_display (l : Launch) (E : Gl) (n : Nat) (M : Mem) (t : Nat) (p1 : Int32) (K : Int32 → Mem → Prop) (hw : w_X5_display n M t p1 K) : CT E l yX5_display cX5_display 3 (some .int) rmX5_display n M [rV t, iV p1] (PI E n K) := by
  refine g_met l (by decide) (Nat.le_of_ble_eq_true rfl) ?_
  intro p e s m args below meth c X hr hlk hnm hSz hOld
  change CX E p s m c _ _ RX5 at X
  unfold w_X5_display at hw
  refine g_aload_n X dX5_display_0 0 rfl ?_
  obtain ⟨hk1, hw⟩ := hw
  refine g_get X (rV (gR M t 0)) dX5_display_1 fl_X5_10 (fun _ => rfl) ⟨hk1, hw⟩ (fun hw => ?_)
  refine g_topR (fun r2 hr2 => ?_)
  have hw := hw r2 hr2
  refine g_iload_n X dX5_display_4 1 rfl ?_
  obtain ⟨hk3, hw⟩ := hw
  refine g_callr (pc' := 8) (rest := []) rfl (fun H locs ls d qR qL => g_runV X cw_X5_71 iv_X0_headAt ⟨Nat.le_of_ble_eq_true rfl, Nat.le_of_ble_eq_true rfl⟩ dX5_display_5 (c_X0_headAt l E n M r2 p1 _ hw) hk3 rfl rfl (Nat.le_of_ble_eq_true rfl) ⟨Nat.le_of_ble_eq_true rfl, Nat.le_of_ble_eq_true rfl⟩ qR qL) (fun r5 M4 hw => ?_)
  refine g_astore_n (lv' := [(2, rV r5), (0, rV t), (1, iV p1)]) X dX5_display_8 (by decide) rfl ?_
  refine g_aload_n X dX5_display_9 0 rfl ?_
  refine g_ifnonnull X 15 dX5_display_10 (by decide) hw (fun hw => ?_) (fun hw => ?_)
  · refine g_aload_n X dX5_display_15 0 rfl ?_
    obtain ⟨hk6, hw⟩ := hw
    refine g_get X (iV (gI M4 r5 6)) dX5_display_16 fl_X5_84 (fun _ => rfl) ⟨hk6, hw⟩ (fun hw => ?_)
    refine g_bipush X (-5 : Int32) dX5_display_19 (by decide) ?_
    refine g_icmp_ne X 29 dX5_display_21 (by decide) hw (fun hw => ?_) (fun hw => ?_)
    · refine g_aload_n X dX5_display_29 0 rfl ?_
      refine g_get X (dV (gD M4 r5 8)) dX5_display_30 fl_X5_175 (fun _ => rfl) ⟨hk6, hw⟩ (fun hw => ?_)
      refine g_d2f X dX5_display_33 hw (fun hw => ?_)
      refine g_calli (pc' := 37) (rest := []) rfl (fun H locs ls d qR qL => g_runS X cw_X5_178 wt_X5_bitsOf ⟨Nat.le_of_ble_eq_true rfl, Nat.le_of_ble_eq_true rfl⟩ dX5_display_34 (c_X5_bitsOf l E n M4 (FP.d2f (gD M4 r5 8)) _ hw) rfl rfl (Nat.le_of_ble_eq_true rfl) ⟨Nat.le_of_ble_eq_true rfl, Nat.le_of_ble_eq_true rfl⟩ qR qL) (fun x8 M7 hw => ?_)
      exact g_iret X hr hlk hSz hOld (Nat.le_refl _) dX5_display_37 hw
    · refine g_bipush X (-5 : Int32) dX5_display_24 (by decide) ?_
      refine g_goto X 37 dX5_display_26 (by decide) ?_
      exact g_iret X hr hlk hSz hOld (Nat.le_refl _) dX5_display_37 hw
  · refine g_iconst X (-1 : Int32) dX5_display_13 (by decide) ?_
    exact g_iret X hr hlk hSz hOld (Nat.le_refl _) dX5_display_14 hw
theorem dX5_part_0 : decode cX5_part 0 = .ok (.aload_n 0, 1) := by decide +kernel
theorem dX5_part_1 : decode cX5_part 1 = .ok (.getfield 10, 3) := by decide +kernel
theorem dX5_part_4 : decode cX5_part 4 = .ok (.iload_n 1, 1) := by decide +kernel
theorem dX5_part_5 : decode cX5_part 5 = .ok (.invokevirtual 182, 3) := by decide +kernel
theorem dX5_part_8 : decode cX5_part 8 = .ok (.astore_n 3, 1) := by decide +kernel
theorem dX5_part_9 : decode cX5_part 9 = .ok (.aload_n 3, 1) := by decide +kernel
theorem dX5_part_10 : decode cX5_part 10 = .ok (.ifnonnull 5, 3) := by decide +kernel
theorem dX5_part_13 : decode cX5_part 13 = .ok (.iconst (-1), 1) := by decide +kernel
theorem dX5_part_14 : decode cX5_part 14 = .ok (.ireturn, 1) := by decide +kernel
theorem dX5_part_15 : decode cX5_part 15 = .ok (.iload_n 2, 1) := by decide +kernel
theorem dX5_part_16 : decode cX5_part 16 = .ok (.tableswitch 105 0 8 #[52, 65, 70, 75, 80, 85, 90, 95, 100], 52) := by decide +kernel
theorem dX5_part_68 : decode cX5_part 68 = .ok (.aload_n 3, 1) := by decide +kernel
theorem dX5_part_69 : decode cX5_part 69 = .ok (.getfield 186, 3) := by decide +kernel
theorem dX5_part_72 : decode cX5_part 72 = .ok (.ifCond .eq 7, 3) := by decide +kernel
theorem dX5_part_75 : decode cX5_part 75 = .ok (.iconst 1, 1) := by decide +kernel
theorem dX5_part_76 : decode cX5_part 76 = .ok (.goto 4, 3) := by decide +kernel
theorem dX5_part_79 : decode cX5_part 79 = .ok (.iconst 0, 1) := by decide +kernel
theorem dX5_part_80 : decode cX5_part 80 = .ok (.ireturn, 1) := by decide +kernel
theorem dX5_part_81 : decode cX5_part 81 = .ok (.aload_n 3, 1) := by decide +kernel
theorem dX5_part_82 : decode cX5_part 82 = .ok (.getfield 191, 3) := by decide +kernel
theorem dX5_part_85 : decode cX5_part 85 = .ok (.ireturn, 1) := by decide +kernel
theorem dX5_part_86 : decode cX5_part 86 = .ok (.aload_n 3, 1) := by decide +kernel
theorem dX5_part_87 : decode cX5_part 87 = .ok (.getfield 194, 3) := by decide +kernel
theorem dX5_part_90 : decode cX5_part 90 = .ok (.ireturn, 1) := by decide +kernel
theorem dX5_part_91 : decode cX5_part 91 = .ok (.aload_n 3, 1) := by decide +kernel
theorem dX5_part_92 : decode cX5_part 92 = .ok (.getfield 197, 3) := by decide +kernel
theorem dX5_part_95 : decode cX5_part 95 = .ok (.ireturn, 1) := by decide +kernel
theorem dX5_part_96 : decode cX5_part 96 = .ok (.aload_n 3, 1) := by decide +kernel
theorem dX5_part_97 : decode cX5_part 97 = .ok (.getfield 200, 3) := by decide +kernel
theorem dX5_part_100 : decode cX5_part 100 = .ok (.ireturn, 1) := by decide +kernel
theorem dX5_part_101 : decode cX5_part 101 = .ok (.aload_n 3, 1) := by decide +kernel
theorem dX5_part_102 : decode cX5_part 102 = .ok (.getfield 201, 3) := by decide +kernel
theorem dX5_part_105 : decode cX5_part 105 = .ok (.ireturn, 1) := by decide +kernel
theorem dX5_part_106 : decode cX5_part 106 = .ok (.aload_n 3, 1) := by decide +kernel
theorem dX5_part_107 : decode cX5_part 107 = .ok (.getfield 202, 3) := by decide +kernel
theorem dX5_part_110 : decode cX5_part 110 = .ok (.ireturn, 1) := by decide +kernel
theorem dX5_part_111 : decode cX5_part 111 = .ok (.aload_n 3, 1) := by decide +kernel
theorem dX5_part_112 : decode cX5_part 112 = .ok (.getfield 205, 3) := by decide +kernel
theorem dX5_part_115 : decode cX5_part 115 = .ok (.ireturn, 1) := by decide +kernel
theorem dX5_part_116 : decode cX5_part 116 = .ok (.aload_n 3, 1) := by decide +kernel
theorem dX5_part_117 : decode cX5_part 117 = .ok (.getfield 208, 3) := by decide +kernel
theorem dX5_part_120 : decode cX5_part 120 = .ok (.ireturn, 1) := by decide +kernel
theorem dX5_part_121 : decode cX5_part 121 = .ok (.bipush (-2), 2) := by decide +kernel
theorem dX5_part_123 : decode cX5_part 123 = .ok (.ireturn, 1) := by decide +kernel
abbrev rmX5_part : Room := { frames := 1, cells := 0, slots := 0, locals := 22 }
def w_X5_part (n : Nat) (M : Mem) (t : Nat) (p1 : Int32) (p2 : Int32) (K : Int32 → Mem → Prop) : Prop := ((t ≤ n ∧ kd t = (5, 0)) ∧ (∀ r2, r2 = gR M t 0 → ((r2 ≤ n ∧ kd r2 = (0, 0)) ∧ w_X0_partAt n M r2 p1 (fun r5 M4 => ((¬ r5 = 0 → ((p2 = (0 : Int32) → ((r5 ≤ n ∧ kd r5 = (2, 0)) ∧ (((gI M4 r5 1) = 0 → K (0 : Int32) M4) ∧ (¬ (gI M4 r5 1) = 0 → K (1 : Int32) M4)))) ∧ (¬ p2 = (0 : Int32) → ((p2 = (1 : Int32) → ((r5 ≤ n ∧ kd r5 = (2, 0)) ∧ K (gI M4 r5 2) M4)) ∧ (¬ p2 = (1 : Int32) → ((p2 = (2 : Int32) → ((r5 ≤ n ∧ kd r5 = (2, 0)) ∧ K (gI M4 r5 3) M4)) ∧ (¬ p2 = (2 : Int32) → ((p2 = (3 : Int32) → ((r5 ≤ n ∧ kd r5 = (2, 0)) ∧ K (gI M4 r5 4) M4)) ∧ (¬ p2 = (3 : Int32) → ((p2 = (4 : Int32) → ((r5 ≤ n ∧ kd r5 = (2, 0)) ∧ K (gI M4 r5 6) M4)) ∧ (¬ p2 = (4 : Int32) → ((p2 = (5 : Int32) → ((r5 ≤ n ∧ kd r5 = (2, 0)) ∧ K (gI M4 r5 7) M4)) ∧ (¬ p2 = (5 : Int32) → ((p2 = (6 : Int32) → ((r5 ≤ n ∧ kd r5 = (2, 0)) ∧ K (gI M4 r5 8) M4)) ∧ (¬ p2 = (6 : Int32) → ((p2 = (7 : Int32) → ((r5 ≤ n ∧ kd r5 = (2, 0)) ∧ K (gI M4 r5 10) M4)) ∧ (¬ p2 = (7 : Int32) → ((p2 = (8 : Int32) → ((r5 ≤ n ∧ kd r5 = (2, 0)) ∧ K (gI M4 r5 5) M4)) ∧ (¬ p2 = (8 : Int32) → K (-2 : Int32) M4))))))))))))))))))) ∧ (r5 = 0 → K (-1 : Int32) M4))))))
set_option maxHeartbeats 4000000 in
set_option maxRecDepth 20000 in
theorem c_X5_part (l : Launch) (E : Gl) (n : Nat) (M : Mem) (t : Nat) (p1 : Int32) (p2 : Int32) (K : Int32 → Mem → Prop) (hw : w_X5_part n M t p1 p2 K) : CT E l yX5_part cX5_part 4 (some .int) rmX5_part n M [rV t, iV p1, iV p2] (PI E n K) := by
  refine g_met l (by decide) (Nat.le_of_ble_eq_true rfl) ?_
  intro p e s m args below meth c X hr hlk hnm hSz hOld
  change CX E p s m c _ _ RX5 at X
  unfold w_X5_part at hw
  refine g_aload_n X dX5_part_0 0 rfl ?_
  obtain ⟨hk1, hw⟩ := hw
  refine g_get X (rV (gR M t 0)) dX5_part_1 fl_X5_10 (fun _ => rfl) ⟨hk1, hw⟩ (fun hw => ?_)
  refine g_topR (fun r2 hr2 => ?_)
  have hw := hw r2 hr2
  refine g_iload_n X dX5_part_4 1 rfl ?_
  obtain ⟨hk3, hw⟩ := hw
  refine g_callr (pc' := 8) (rest := []) rfl (fun H locs ls d qR qL => g_runV X cw_X5_182 iv_X0_partAt ⟨Nat.le_of_ble_eq_true rfl, Nat.le_of_ble_eq_true rfl⟩ dX5_part_5 (c_X0_partAt l E n M r2 p1 _ hw) hk3 rfl rfl (Nat.le_of_ble_eq_true rfl) ⟨Nat.le_of_ble_eq_true rfl, Nat.le_of_ble_eq_true rfl⟩ qR qL) (fun r5 M4 hw => ?_)
  refine g_astore_n (lv' := [(3, rV r5), (0, rV t), (1, iV p1), (2, iV p2)]) X dX5_part_8 (by decide) rfl ?_
  refine g_aload_n X dX5_part_9 0 rfl ?_
  refine g_ifnonnull X 15 dX5_part_10 (by decide) hw (fun hw => ?_) (fun hw => ?_)
  · refine g_iload_n X dX5_part_15 3 rfl ?_
    by_cases q0 : p2 = (0 : Int32)
    · have hw := hw.1 q0
      refine g_swIn (off := 52) X 68 dX5_part_16 (by rw [q0]; decide) (by rw [q0]; decide) (by rw [q0]; decide) (by decide) ?_
      refine g_aload_n X dX5_part_68 0 rfl ?_
      obtain ⟨hk6, hw⟩ := hw
      refine g_get X (iV (gI M4 r5 1)) dX5_part_69 fl_X5_186 (fun _ => rfl) ⟨hk6, hw⟩ (fun hw => ?_)
      refine g_if_eq X 79 dX5_part_72 (by decide) hw (fun hw => ?_) (fun hw => ?_)
      · refine g_iconst X (0 : Int32) dX5_part_79 (by decide) ?_
        exact g_iret X hr hlk hSz hOld (Nat.le_refl _) dX5_part_80 hw
      · refine g_iconst X (1 : Int32) dX5_part_75 (by decide) ?_
        refine g_goto X 80 dX5_part_76 (by decide) ?_
        exact g_iret X hr hlk hSz hOld (Nat.le_refl _) dX5_part_80 hw
    have hw := hw.2 q0
    by_cases q1 : p2 = (1 : Int32)
    · have hw := hw.1 q1
      refine g_swIn (off := 65) X 81 dX5_part_16 (by rw [q1]; decide) (by rw [q1]; decide) (by rw [q1]; decide) (by decide) ?_
      refine g_aload_n X dX5_part_81 0 rfl ?_
      obtain ⟨hk7, hw⟩ := hw
      refine g_get X (iV (gI M4 r5 2)) dX5_part_82 fl_X5_191 (fun _ => rfl) ⟨hk7, hw⟩ (fun hw => ?_)
      exact g_iret X hr hlk hSz hOld (Nat.le_refl _) dX5_part_85 hw
    have hw := hw.2 q1
    by_cases q2 : p2 = (2 : Int32)
    · have hw := hw.1 q2
      refine g_swIn (off := 70) X 86 dX5_part_16 (by rw [q2]; decide) (by rw [q2]; decide) (by rw [q2]; decide) (by decide) ?_
      refine g_aload_n X dX5_part_86 0 rfl ?_
      obtain ⟨hk8, hw⟩ := hw
      refine g_get X (iV (gI M4 r5 3)) dX5_part_87 fl_X5_194 (fun _ => rfl) ⟨hk8, hw⟩ (fun hw => ?_)
      exact g_iret X hr hlk hSz hOld (Nat.le_refl _) dX5_part_90 hw
    have hw := hw.2 q2
    by_cases q3 : p2 = (3 : Int32)
    · have hw := hw.1 q3
      refine g_swIn (off := 75) X 91 dX5_part_16 (by rw [q3]; decide) (by rw [q3]; decide) (by rw [q3]; decide) (by decide) ?_
      refine g_aload_n X dX5_part_91 0 rfl ?_
      obtain ⟨hk9, hw⟩ := hw
      refine g_get X (iV (gI M4 r5 4)) dX5_part_92 fl_X5_197 (fun _ => rfl) ⟨hk9, hw⟩ (fun hw => ?_)
      exact g_iret X hr hlk hSz hOld (Nat.le_refl _) dX5_part_95 hw
    have hw := hw.2 q3
    by_cases q4 : p2 = (4 : Int32)
    · have hw := hw.1 q4
      refine g_swIn (off := 80) X 96 dX5_part_16 (by rw [q4]; decide) (by rw [q4]; decide) (by rw [q4]; decide) (by decide) ?_
      refine g_aload_n X dX5_part_96 0 rfl ?_
      obtain ⟨hk10, hw⟩ := hw
      refine g_get X (iV (gI M4 r5 6)) dX5_part_97 fl_X5_200 (fun _ => rfl) ⟨hk10, hw⟩ (fun hw => ?_)
      exact g_iret X hr hlk hSz hOld (Nat.le_refl _) dX5_part_100 hw
    have hw := hw.2 q4
    by_cases q5 : p2 = (5 : Int32)
    · have hw := hw.1 q5
      refine g_swIn (off := 85) X 101 dX5_part_16 (by rw [q5]; decide) (by rw [q5]; decide) (by rw [q5]; decide) (by decide) ?_
      refine g_aload_n X dX5_part_101 0 rfl ?_
      obtain ⟨hk11, hw⟩ := hw
      refine g_get X (iV (gI M4 r5 7)) dX5_part_102 fl_X5_201 (fun _ => rfl) ⟨hk11, hw⟩ (fun hw => ?_)
      exact g_iret X hr hlk hSz hOld (Nat.le_refl _) dX5_part_105 hw
    have hw := hw.2 q5
    by_cases q6 : p2 = (6 : Int32)
    · have hw := hw.1 q6
      refine g_swIn (off := 90) X 106 dX5_part_16 (by rw [q6]; decide) (by rw [q6]; decide) (by rw [q6]; decide) (by decide) ?_
      refine g_aload_n X dX5_part_106 0 rfl ?_
      obtain ⟨hk12, hw⟩ := hw
      refine g_get X (iV (gI M4 r5 8)) dX5_part_107 fl_X5_202 (fun _ => rfl) ⟨hk12, hw⟩ (fun hw => ?_)
      exact g_iret X hr hlk hSz hOld (Nat.le_refl _) dX5_part_110 hw
    have hw := hw.2 q6
    by_cases q7 : p2 = (7 : Int32)
    · have hw := hw.1 q7
      refine g_swIn (off := 95) X 111 dX5_part_16 (by rw [q7]; decide) (by rw [q7]; decide) (by rw [q7]; decide) (by decide) ?_
      refine g_aload_n X dX5_part_111 0 rfl ?_
      obtain ⟨hk13, hw⟩ := hw
      refine g_get X (iV (gI M4 r5 10)) dX5_part_112 fl_X5_205 (fun _ => rfl) ⟨hk13, hw⟩ (fun hw => ?_)
      exact g_iret X hr hlk hSz hOld (Nat.le_refl _) dX5_part_115 hw
    have hw := hw.2 q7
    by_cases q8 : p2 = (8 : Int32)
    · have hw := hw.1 q8
      refine g_swIn (off := 100) X 116 dX5_part_16 (by rw [q8]; decide) (by rw [q8]; decide) (by rw [q8]; decide) (by decide) ?_
      refine g_aload_n X dX5_part_116 0 rfl ?_
      obtain ⟨hk14, hw⟩ := hw
      refine g_get X (iV (gI M4 r5 5)) dX5_part_117 fl_X5_208 (fun _ => rfl) ⟨hk14, hw⟩ (fun hw => ?_)
      exact g_iret X hr hlk hSz hOld (Nat.le_refl _) dX5_part_120 hw
    have hw := hw.2 q8
    have swn0 := sw_ne (k := 0) (by decide) q0
    have swn1 := sw_ne (k := 1) (by decide) q1
    have swn2 := sw_ne (k := 2) (by decide) q2
    have swn3 := sw_ne (k := 3) (by decide) q3
    have swn4 := sw_ne (k := 4) (by decide) q4
    have swn5 := sw_ne (k := 5) (by decide) q5
    have swn6 := sw_ne (k := 6) (by decide) q6
    have swn7 := sw_ne (k := 7) (by decide) q7
    have swn8 := sw_ne (k := 8) (by decide) q8
    refine g_swOut X 121 dX5_part_16 (by omega) (by decide) ?_
    refine g_bipush X (-2 : Int32) dX5_part_121 (by decide) ?_
    exact g_iret X hr hlk hSz hOld (Nat.le_refl _) dX5_part_123 hw
  · refine g_iconst X (-1 : Int32) dX5_part_13 (by decide) ?_
    exact g_iret X hr hlk hSz hOld (Nat.le_refl _) dX5_part_14 hw
theorem dX5_fits_0 : decode cX5_fits 0 = .ok (.aload_n 0, 1) := by decide +kernel
theorem dX5_fits_1 : decode cX5_fits 1 = .ok (.getfield 10, 3) := by decide +kernel
theorem dX5_fits_4 : decode cX5_fits 4 = .ok (.iload_n 1, 1) := by decide +kernel
theorem dX5_fits_5 : decode cX5_fits 5 = .ok (.invokevirtual 182, 3) := by decide +kernel
theorem dX5_fits_8 : decode cX5_fits 8 = .ok (.astore_n 3, 1) := by decide +kernel
theorem dX5_fits_9 : decode cX5_fits 9 = .ok (.aload_n 0, 1) := by decide +kernel
theorem dX5_fits_10 : decode cX5_fits 10 = .ok (.getfield 10, 3) := by decide +kernel
theorem dX5_fits_13 : decode cX5_fits 13 = .ok (.iload_n 2, 1) := by decide +kernel
theorem dX5_fits_14 : decode cX5_fits 14 = .ok (.invokevirtual 71, 3) := by decide +kernel
theorem dX5_fits_17 : decode cX5_fits 17 = .ok (.astore 4, 2) := by decide +kernel
theorem dX5_fits_19 : decode cX5_fits 19 = .ok (.aload_n 3, 1) := by decide +kernel
theorem dX5_fits_20 : decode cX5_fits 20 = .ok (.ifnull 8, 3) := by decide +kernel
theorem dX5_fits_23 : decode cX5_fits 23 = .ok (.aload 4, 2) := by decide +kernel
theorem dX5_fits_25 : decode cX5_fits 25 = .ok (.ifnonnull 5, 3) := by decide +kernel
theorem dX5_fits_28 : decode cX5_fits 28 = .ok (.iconst (-1), 1) := by decide +kernel
theorem dX5_fits_29 : decode cX5_fits 29 = .ok (.ireturn, 1) := by decide +kernel
theorem dX5_fits_30 : decode cX5_fits 30 = .ok (.aload 4, 2) := by decide +kernel
theorem dX5_fits_32 : decode cX5_fits 32 = .ok (.aload_n 3, 1) := by decide +kernel
theorem dX5_fits_33 : decode cX5_fits 33 = .ok (.invokevirtual 211, 3) := by decide +kernel
theorem dX5_fits_36 : decode cX5_fits 36 = .ok (.ifCond .eq 7, 3) := by decide +kernel
theorem dX5_fits_39 : decode cX5_fits 39 = .ok (.iconst 1, 1) := by decide +kernel
theorem dX5_fits_40 : decode cX5_fits 40 = .ok (.goto 4, 3) := by decide +kernel
theorem dX5_fits_43 : decode cX5_fits 43 = .ok (.iconst 0, 1) := by decide +kernel
theorem dX5_fits_44 : decode cX5_fits 44 = .ok (.ireturn, 1) := by decide +kernel
abbrev rmX5_fits : Room := { frames := 1, cells := 0, slots := 0, locals := 22 }
def w_X5_fits (n : Nat) (M : Mem) (t : Nat) (p1 : Int32) (p2 : Int32) (K : Int32 → Mem → Prop) : Prop := ((t ≤ n ∧ kd t = (5, 0)) ∧ (∀ r2, r2 = gR M t 0 → ((r2 ≤ n ∧ kd r2 = (0, 0)) ∧ w_X0_partAt n M r2 p1 (fun r5 M4 => (∀ r6, r6 = gR M4 t 0 → ((r6 ≤ n ∧ kd r6 = (0, 0)) ∧ w_X0_headAt n M4 r6 p2 (fun r9 M8 => ((r5 = 0 → K (-1 : Int32) M8) ∧ (¬ r5 = 0 → ((¬ r9 = 0 → ((r9 ≤ n ∧ kd r9 = (1, 0)) ∧ w_X1_takes n M8 r9 r5 (fun x12 M11 => ((x12 = 0 → K (0 : Int32) M11) ∧ (¬ x12 = 0 → K (1 : Int32) M11))))) ∧ (r9 = 0 → K (-1 : Int32) M8)))))))))))
set_option maxHeartbeats 4000000 in
set_option maxRecDepth 20000 in
theorem c_X5_fits (l : Launch) (E : Gl) (n : Nat) (M : Mem) (t : Nat) (p1 : Int32) (p2 : Int32) (K : Int32 → Mem → Prop) (hw : w_X5_fits n M t p1 p2 K) : CT E l yX5_fits cX5_fits 5 (some .int) rmX5_fits n M [rV t, iV p1, iV p2] (PI E n K) := by
  refine g_met l (by decide) (Nat.le_of_ble_eq_true rfl) ?_
  intro p e s m args below meth c X hr hlk hnm hSz hOld
  change CX E p s m c _ _ RX5 at X
  unfold w_X5_fits at hw
  refine g_aload_n X dX5_fits_0 0 rfl ?_
  obtain ⟨hk1, hw⟩ := hw
  refine g_get X (rV (gR M t 0)) dX5_fits_1 fl_X5_10 (fun _ => rfl) ⟨hk1, hw⟩ (fun hw => ?_)
  refine g_topR (fun r2 hr2 => ?_)
  have hw := hw r2 hr2
  refine g_iload_n X dX5_fits_4 1 rfl ?_
  obtain ⟨hk3, hw⟩ := hw
  refine g_callr (pc' := 8) (rest := []) rfl (fun H locs ls d qR qL => g_runV X cw_X5_182 iv_X0_partAt ⟨Nat.le_of_ble_eq_true rfl, Nat.le_of_ble_eq_true rfl⟩ dX5_fits_5 (c_X0_partAt l E n M r2 p1 _ hw) hk3 rfl rfl (Nat.le_of_ble_eq_true rfl) ⟨Nat.le_of_ble_eq_true rfl, Nat.le_of_ble_eq_true rfl⟩ qR qL) (fun r5 M4 hw => ?_)
  refine g_astore_n (lv' := [(3, rV r5), (0, rV t), (1, iV p1), (2, iV p2)]) X dX5_fits_8 (by decide) rfl ?_
  refine g_aload_n X dX5_fits_9 1 rfl ?_
  refine g_get X (rV (gR M4 t 0)) dX5_fits_10 fl_X5_10 (fun _ => rfl) ⟨hk1, hw⟩ (fun hw => ?_)
  refine g_topR (fun r6 hr6 => ?_)
  have hw := hw r6 hr6
  refine g_iload_n X dX5_fits_13 3 rfl ?_
  obtain ⟨hk7, hw⟩ := hw
  refine g_callr (pc' := 17) (rest := []) rfl (fun H locs ls d qR qL => g_runV X cw_X5_71 iv_X0_headAt ⟨Nat.le_of_ble_eq_true rfl, Nat.le_of_ble_eq_true rfl⟩ dX5_fits_14 (c_X0_headAt l E n M4 r6 p2 _ hw) hk7 rfl rfl (Nat.le_of_ble_eq_true rfl) ⟨Nat.le_of_ble_eq_true rfl, Nat.le_of_ble_eq_true rfl⟩ qR qL) (fun r9 M8 hw => ?_)
  refine g_astore (lv' := [(4, rV r9), (3, rV r5), (0, rV t), (1, iV p1), (2, iV p2)]) X dX5_fits_17 (by decide) rfl ?_
  refine g_aload_n X dX5_fits_19 1 rfl ?_
  refine g_ifnull X 28 dX5_fits_20 (by decide) hw (fun hw => ?_) (fun hw => ?_)
  · refine g_iconst X (-1 : Int32) dX5_fits_28 (by decide) ?_
    exact g_iret X hr hlk hSz hOld (Nat.le_refl _) dX5_fits_29 hw
  · refine g_aload X dX5_fits_23 0 rfl ?_
    refine g_ifnonnull X 30 dX5_fits_25 (by decide) hw (fun hw => ?_) (fun hw => ?_)
    · refine g_aload X dX5_fits_30 0 rfl ?_
      refine g_aload_n X dX5_fits_32 1 rfl ?_
      obtain ⟨hk10, hw⟩ := hw
      refine g_calli (pc' := 36) (rest := []) rfl (fun H locs ls d qR qL => g_runV X cw_X5_211 iv_X1_takes ⟨Nat.le_of_ble_eq_true rfl, Nat.le_of_ble_eq_true rfl⟩ dX5_fits_33 (c_X1_takes l E n M8 r9 r5 _ hw) hk10 rfl rfl (Nat.le_of_ble_eq_true rfl) ⟨Nat.le_of_ble_eq_true rfl, Nat.le_of_ble_eq_true rfl⟩ qR qL) (fun x12 M11 hw => ?_)
      refine g_if_eq X 43 dX5_fits_36 (by decide) hw (fun hw => ?_) (fun hw => ?_)
      · refine g_iconst X (0 : Int32) dX5_fits_43 (by decide) ?_
        exact g_iret X hr hlk hSz hOld (Nat.le_refl _) dX5_fits_44 hw
      · refine g_iconst X (1 : Int32) dX5_fits_39 (by decide) ?_
        refine g_goto X 44 dX5_fits_40 (by decide) ?_
        exact g_iret X hr hlk hSz hOld (Nat.le_refl _) dX5_fits_44 hw
    · refine g_iconst X (-1 : Int32) dX5_fits_28 (by decide) ?_
      exact g_iret X hr hlk hSz hOld (Nat.le_refl _) dX5_fits_29 hw
theorem dX5_value_0 : decode cX5_value 0 = .ok (.aload_n 0, 1) := by decide +kernel
theorem dX5_value_1 : decode cX5_value 1 = .ok (.getfield 10, 3) := by decide +kernel
theorem dX5_value_4 : decode cX5_value 4 = .ok (.iload_n 1, 1) := by decide +kernel
theorem dX5_value_5 : decode cX5_value 5 = .ok (.invokevirtual 182, 3) := by decide +kernel
theorem dX5_value_8 : decode cX5_value 8 = .ok (.astore_n 2, 1) := by decide +kernel
theorem dX5_value_9 : decode cX5_value 9 = .ok (.aload_n 2, 1) := by decide +kernel
theorem dX5_value_10 : decode cX5_value 10 = .ok (.ifnull 10, 3) := by decide +kernel
theorem dX5_value_13 : decode cX5_value 13 = .ok (.aload_n 2, 1) := by decide +kernel
theorem dX5_value_14 : decode cX5_value 14 = .ok (.getfield 200, 3) := by decide +kernel
theorem dX5_value_17 : decode cX5_value 17 = .ok (.ifCond .ne 9, 3) := by decide +kernel
theorem dX5_value_20 : decode cX5_value 20 = .ok (.invokestatic 161, 3) := by decide +kernel
theorem dX5_value_23 : decode cX5_value 23 = .ok (.goto 7, 3) := by decide +kernel
theorem dX5_value_26 : decode cX5_value 26 = .ok (.aload_n 2, 1) := by decide +kernel
theorem dX5_value_27 : decode cX5_value 27 = .ok (.getfield 215, 3) := by decide +kernel
theorem dX5_value_30 : decode cX5_value 30 = .ok (.dreturn, 1) := by decide +kernel
abbrev rmX5_value : Room := { frames := 1, cells := 0, slots := 0, locals := 22 }
def w_X5_value (n : Nat) (M : Mem) (t : Nat) (p1 : Int32) (K : UInt64 → Mem → Prop) : Prop := ((t ≤ n ∧ kd t = (5, 0)) ∧ (∀ r2, r2 = gR M t 0 → ((r2 ≤ n ∧ kd r2 = (0, 0)) ∧ w_X0_partAt n M r2 p1 (fun r5 M4 => ((r5 = 0 → w_X5_notANumber n M4  (fun z7 M6 => K z7 M6)) ∧ (¬ r5 = 0 → ((r5 ≤ n ∧ kd r5 = (2, 0)) ∧ ((¬ (gI M4 r5 6) = 0 → K (gD M4 r5 9) M4) ∧ ((gI M4 r5 6) = 0 → w_X5_notANumber n M4  (fun z10 M9 => K z10 M9))))))))))
set_option maxHeartbeats 4000000 in
set_option maxRecDepth 20000 in
theorem c_X5_value (l : Launch) (E : Gl) (n : Nat) (M : Mem) (t : Nat) (p1 : Int32) (K : UInt64 → Mem → Prop) (hw : w_X5_value n M t p1 K) : CT E l yX5_value cX5_value 3 (some .double) rmX5_value n M [rV t, iV p1] (PD E n K) := by
  refine g_met l (by decide) (Nat.le_of_ble_eq_true rfl) ?_
  intro p e s m args below meth c X hr hlk hnm hSz hOld
  change CX E p s m c _ _ RX5 at X
  unfold w_X5_value at hw
  refine g_aload_n X dX5_value_0 0 rfl ?_
  obtain ⟨hk1, hw⟩ := hw
  refine g_get X (rV (gR M t 0)) dX5_value_1 fl_X5_10 (fun _ => rfl) ⟨hk1, hw⟩ (fun hw => ?_)
  refine g_topR (fun r2 hr2 => ?_)
  have hw := hw r2 hr2
  refine g_iload_n X dX5_value_4 1 rfl ?_
  obtain ⟨hk3, hw⟩ := hw
  refine g_callr (pc' := 8) (rest := []) rfl (fun H locs ls d qR qL => g_runV X cw_X5_182 iv_X0_partAt ⟨Nat.le_of_ble_eq_true rfl, Nat.le_of_ble_eq_true rfl⟩ dX5_value_5 (c_X0_partAt l E n M r2 p1 _ hw) hk3 rfl rfl (Nat.le_of_ble_eq_true rfl) ⟨Nat.le_of_ble_eq_true rfl, Nat.le_of_ble_eq_true rfl⟩ qR qL) (fun r5 M4 hw => ?_)
  refine g_astore_n (lv' := [(2, rV r5), (0, rV t), (1, iV p1)]) X dX5_value_8 (by decide) rfl ?_
  refine g_aload_n X dX5_value_9 0 rfl ?_
  refine g_ifnull X 20 dX5_value_10 (by decide) hw (fun hw => ?_) (fun hw => ?_)
  · refine g_calld (pc' := 23) (rest := []) rfl (fun H locs ls d qR qL => g_runS X cw_X5_161 wt_X5_notANumber ⟨Nat.le_of_ble_eq_true rfl, Nat.le_of_ble_eq_true rfl⟩ dX5_value_20 (c_X5_notANumber l E n M4  _ hw) rfl rfl (Nat.le_of_ble_eq_true rfl) ⟨Nat.le_of_ble_eq_true rfl, Nat.le_of_ble_eq_true rfl⟩ qR qL) (fun z7 M6 hw => ?_)
    refine g_goto X 30 dX5_value_23 (by decide) ?_
    exact g_dret X hr hlk hSz hOld (Nat.le_refl _) dX5_value_30 hw
  · refine g_aload_n X dX5_value_13 0 rfl ?_
    obtain ⟨hk8, hw⟩ := hw
    refine g_get X (iV (gI M4 r5 6)) dX5_value_14 fl_X5_200 (fun _ => rfl) ⟨hk8, hw⟩ (fun hw => ?_)
    refine g_if_ne X 26 dX5_value_17 (by decide) hw (fun hw => ?_) (fun hw => ?_)
    · refine g_aload_n X dX5_value_26 0 rfl ?_
      refine g_get X (dV (gD M4 r5 9)) dX5_value_27 fl_X5_215 (fun _ => rfl) ⟨hk8, hw⟩ (fun hw => ?_)
      exact g_dret X hr hlk hSz hOld (Nat.le_refl _) dX5_value_30 hw
    · refine g_calld (pc' := 23) (rest := []) rfl (fun H locs ls d qR qL => g_runS X cw_X5_161 wt_X5_notANumber ⟨Nat.le_of_ble_eq_true rfl, Nat.le_of_ble_eq_true rfl⟩ dX5_value_20 (c_X5_notANumber l E n M4  _ hw) rfl rfl (Nat.le_of_ble_eq_true rfl) ⟨Nat.le_of_ble_eq_true rfl, Nat.le_of_ble_eq_true rfl⟩ qR qL) (fun z10 M9 hw => ?_)
      refine g_goto X 30 dX5_value_23 (by decide) ?_
      exact g_dret X hr hlk hSz hOld (Nat.le_refl _) dX5_value_30 hw
theorem dX5_pressureBits_0 : decode cX5_pressureBits 0 = .ok (.aload_n 0, 1) := by decide +kernel
theorem dX5_pressureBits_1 : decode cX5_pressureBits 1 = .ok (.getfield 10, 3) := by decide +kernel
theorem dX5_pressureBits_4 : decode cX5_pressureBits 4 = .ok (.iload_n 1, 1) := by decide +kernel
theorem dX5_pressureBits_5 : decode cX5_pressureBits 5 = .ok (.invokevirtual 48, 3) := by decide +kernel
theorem dX5_pressureBits_8 : decode cX5_pressureBits 8 = .ok (.astore_n 2, 1) := by decide +kernel
theorem dX5_pressureBits_9 : decode cX5_pressureBits 9 = .ok (.aload_n 2, 1) := by decide +kernel
theorem dX5_pressureBits_10 : decode cX5_pressureBits 10 = .ok (.ifnonnull 9, 3) := by decide +kernel
theorem dX5_pressureBits_13 : decode cX5_pressureBits 13 = .ok (.ldc2_w 222, 3) := by decide +kernel
theorem dX5_pressureBits_16 : decode cX5_pressureBits 16 = .ok (.goto 7, 3) := by decide +kernel
theorem dX5_pressureBits_19 : decode cX5_pressureBits 19 = .ok (.aload_n 2, 1) := by decide +kernel
theorem dX5_pressureBits_20 : decode cX5_pressureBits 20 = .ok (.getfield 61, 3) := by decide +kernel
theorem dX5_pressureBits_23 : decode cX5_pressureBits 23 = .ok (.lreturn, 1) := by decide +kernel
abbrev rmX5_pressureBits : Room := { frames := 1, cells := 0, slots := 0, locals := 21 }
def w_X5_pressureBits (n : Nat) (M : Mem) (t : Nat) (p1 : Int32) (K : Int64 → Mem → Prop) : Prop := ((t ≤ n ∧ kd t = (5, 0)) ∧ (∀ r2, r2 = gR M t 0 → ((r2 ≤ n ∧ kd r2 = (0, 0)) ∧ w_X0_pressureAt n M r2 p1 (fun r5 M4 => ((¬ r5 = 0 → ((r5 ≤ n ∧ kd r5 = (3, 0)) ∧ K (gL M4 r5 2) M4)) ∧ (r5 = 0 → K (-2 : Int64) M4))))))
set_option maxHeartbeats 4000000 in
set_option maxRecDepth 20000 in
theorem c_X5_pressureBits (l : Launch) (E : Gl) (n : Nat) (M : Mem) (t : Nat) (p1 : Int32) (K : Int64 → Mem → Prop) (hw : w_X5_pressureBits n M t p1 K) : CT E l yX5_pressureBits cX5_pressureBits 3 (some .long) rmX5_pressureBits n M [rV t, iV p1] (PL E n K) := by
  refine g_met l (by decide) (Nat.le_of_ble_eq_true rfl) ?_
  intro p e s m args below meth c X hr hlk hnm hSz hOld
  change CX E p s m c _ _ RX5 at X
  unfold w_X5_pressureBits at hw
  refine g_aload_n X dX5_pressureBits_0 0 rfl ?_
  obtain ⟨hk1, hw⟩ := hw
  refine g_get X (rV (gR M t 0)) dX5_pressureBits_1 fl_X5_10 (fun _ => rfl) ⟨hk1, hw⟩ (fun hw => ?_)
  refine g_topR (fun r2 hr2 => ?_)
  have hw := hw r2 hr2
  refine g_iload_n X dX5_pressureBits_4 1 rfl ?_
  obtain ⟨hk3, hw⟩ := hw
  refine g_callr (pc' := 8) (rest := []) rfl (fun H locs ls d qR qL => g_runV X cw_X5_48 iv_X0_pressureAt ⟨Nat.le_of_ble_eq_true rfl, Nat.le_of_ble_eq_true rfl⟩ dX5_pressureBits_5 (c_X0_pressureAt l E n M r2 p1 _ hw) hk3 rfl rfl (Nat.le_of_ble_eq_true rfl) ⟨Nat.le_of_ble_eq_true rfl, Nat.le_of_ble_eq_true rfl⟩ qR qL) (fun r5 M4 hw => ?_)
  refine g_astore_n (lv' := [(2, rV r5), (0, rV t), (1, iV p1)]) X dX5_pressureBits_8 (by decide) rfl ?_
  refine g_aload_n X dX5_pressureBits_9 0 rfl ?_
  refine g_ifnonnull X 19 dX5_pressureBits_10 (by decide) hw (fun hw => ?_) (fun hw => ?_)
  · refine g_aload_n X dX5_pressureBits_19 0 rfl ?_
    obtain ⟨hk6, hw⟩ := hw
    refine g_get X (lV (gL M4 r5 2)) dX5_pressureBits_20 fl_X5_61 (fun _ => rfl) ⟨hk6, hw⟩ (fun hw => ?_)
    exact g_lret X hr hlk hSz hOld (Nat.le_refl _) dX5_pressureBits_23 hw
  · refine g_ldcL X (-2 : Int64) dX5_pressureBits_13 wk_X5_222 ?_
    refine g_goto X 23 dX5_pressureBits_16 (by decide) ?_
    exact g_lret X hr hlk hSz hOld (Nat.le_refl _) dX5_pressureBits_23 hw
theorem dX5_trace_0 : decode cX5_trace 0 = .ok (.aload_n 0, 1) := by decide +kernel
theorem dX5_trace_1 : decode cX5_trace 1 = .ok (.getfield 10, 3) := by decide +kernel
theorem dX5_trace_4 : decode cX5_trace 4 = .ok (.iload_n 1, 1) := by decide +kernel
theorem dX5_trace_5 : decode cX5_trace 5 = .ok (.invokevirtual 71, 3) := by decide +kernel
theorem dX5_trace_8 : decode cX5_trace 8 = .ok (.astore_n 3, 1) := by decide +kernel
theorem dX5_trace_9 : decode cX5_trace 9 = .ok (.aload_n 3, 1) := by decide +kernel
theorem dX5_trace_10 : decode cX5_trace 10 = .ok (.ifnonnull 7, 3) := by decide +kernel
theorem dX5_trace_13 : decode cX5_trace 13 = .ok (.invokestatic 161, 3) := by decide +kernel
theorem dX5_trace_16 : decode cX5_trace 16 = .ok (.dreturn, 1) := by decide +kernel
theorem dX5_trace_17 : decode cX5_trace 17 = .ok (.aload_n 0, 1) := by decide +kernel
theorem dX5_trace_18 : decode cX5_trace 18 = .ok (.getfield 10, 3) := by decide +kernel
theorem dX5_trace_21 : decode cX5_trace 21 = .ok (.aload_n 3, 1) := by decide +kernel
theorem dX5_trace_22 : decode cX5_trace 22 = .ok (.getfield 84, 3) := by decide +kernel
theorem dX5_trace_25 : decode cX5_trace 25 = .ok (.invokevirtual 182, 3) := by decide +kernel
theorem dX5_trace_28 : decode cX5_trace 28 = .ok (.astore 4, 2) := by decide +kernel
theorem dX5_trace_30 : decode cX5_trace 30 = .ok (.aload 4, 2) := by decide +kernel
theorem dX5_trace_32 : decode cX5_trace 32 = .ok (.ifnull 15, 3) := by decide +kernel
theorem dX5_trace_35 : decode cX5_trace 35 = .ok (.iload_n 2, 1) := by decide +kernel
theorem dX5_trace_36 : decode cX5_trace 36 = .ok (.ifCond .lt 11, 3) := by decide +kernel
theorem dX5_trace_39 : decode cX5_trace 39 = .ok (.iload_n 2, 1) := by decide +kernel
theorem dX5_trace_40 : decode cX5_trace 40 = .ok (.aload_n 3, 1) := by decide +kernel
theorem dX5_trace_41 : decode cX5_trace 41 = .ok (.getfield 224, 3) := by decide +kernel
theorem dX5_trace_44 : decode cX5_trace 44 = .ok (.if_icmp .le 7, 3) := by decide +kernel
theorem dX5_trace_47 : decode cX5_trace 47 = .ok (.invokestatic 161, 3) := by decide +kernel
theorem dX5_trace_50 : decode cX5_trace 50 = .ok (.dreturn, 1) := by decide +kernel
theorem dX5_trace_51 : decode cX5_trace 51 = .ok (.aload_n 3, 1) := by decide +kernel
theorem dX5_trace_52 : decode cX5_trace 52 = .ok (.getfield 172, 3) := by decide +kernel
theorem dX5_trace_55 : decode cX5_trace 55 = .ok (.aload 4, 2) := by decide +kernel
theorem dX5_trace_57 : decode cX5_trace 57 = .ok (.getfield 191, 3) := by decide +kernel
theorem dX5_trace_60 : decode cX5_trace 60 = .ok (.aload 4, 2) := by decide +kernel
theorem dX5_trace_62 : decode cX5_trace 62 = .ok (.getfield 194, 3) := by decide +kernel
theorem dX5_trace_65 : decode cX5_trace 65 = .ok (.iload_n 2, 1) := by decide +kernel
theorem dX5_trace_66 : decode cX5_trace 66 = .ok (.invokestatic 227, 3) := by decide +kernel
theorem dX5_trace_69 : decode cX5_trace 69 = .ok (.dreturn, 1) := by decide +kernel
abbrev rmX5_trace : Room := { frames := 1, cells := 0, slots := 0, locals := 29 }
def w_X5_trace (n : Nat) (M : Mem) (t : Nat) (p1 : Int32) (p2 : Int32) (K : UInt64 → Mem → Prop) : Prop := ((t ≤ n ∧ kd t = (5, 0)) ∧ (∀ r2, r2 = gR M t 0 → ((r2 ≤ n ∧ kd r2 = (0, 0)) ∧ w_X0_headAt n M r2 p1 (fun r5 M4 => ((¬ r5 = 0 → (∀ r6, r6 = gR M4 t 0 → ((r5 ≤ n ∧ kd r5 = (1, 0)) ∧ ((r6 ≤ n ∧ kd r6 = (0, 0)) ∧ w_X0_partAt n M4 r6 (gI M4 r5 6) (fun r10 M9 => ((r10 = 0 → w_X5_notANumber n M9  (fun z12 M11 => K z12 M11)) ∧ (¬ r10 = 0 → ((p2 < 0 → w_X5_notANumber n M9  (fun z14 M13 => K z14 M13)) ∧ (¬ p2 < 0 → ((p2 ≤ (gI M9 r5 9) → ((r10 ≤ n ∧ kd r10 = (2, 0)) ∧ w_X5_decayed n M9 (gD M9 r5 7) (gI M9 r10 2) (gI M9 r10 3) p2 (fun z17 M16 => K z17 M16))) ∧ (¬ p2 ≤ (gI M9 r5 9) → w_X5_notANumber n M9  (fun z19 M18 => K z19 M18)))))))))))) ∧ (r5 = 0 → w_X5_notANumber n M4  (fun z21 M20 => K z21 M20)))))))
set_option maxHeartbeats 4000000 in
set_option maxRecDepth 20000 in
theorem c_X5_trace (l : Launch) (E : Gl) (n : Nat) (M : Mem) (t : Nat) (p1 : Int32) (p2 : Int32) (K : UInt64 → Mem → Prop) (hw : w_X5_trace n M t p1 p2 K) : CT E l yX5_trace cX5_trace 5 (some .double) rmX5_trace n M [rV t, iV p1, iV p2] (PD E n K) := by
  refine g_met l (by decide) (Nat.le_of_ble_eq_true rfl) ?_
  intro p e s m args below meth c X hr hlk hnm hSz hOld
  change CX E p s m c _ _ RX5 at X
  unfold w_X5_trace at hw
  refine g_aload_n X dX5_trace_0 0 rfl ?_
  obtain ⟨hk1, hw⟩ := hw
  refine g_get X (rV (gR M t 0)) dX5_trace_1 fl_X5_10 (fun _ => rfl) ⟨hk1, hw⟩ (fun hw => ?_)
  refine g_topR (fun r2 hr2 => ?_)
  have hw := hw r2 hr2
  refine g_iload_n X dX5_trace_4 1 rfl ?_
  obtain ⟨hk3, hw⟩ := hw
  refine g_callr (pc' := 8) (rest := []) rfl (fun H locs ls d qR qL => g_runV X cw_X5_71 iv_X0_headAt ⟨Nat.le_of_ble_eq_true rfl, Nat.le_of_ble_eq_true rfl⟩ dX5_trace_5 (c_X0_headAt l E n M r2 p1 _ hw) hk3 rfl rfl (Nat.le_of_ble_eq_true rfl) ⟨Nat.le_of_ble_eq_true rfl, Nat.le_of_ble_eq_true rfl⟩ qR qL) (fun r5 M4 hw => ?_)
  refine g_astore_n (lv' := [(3, rV r5), (0, rV t), (1, iV p1), (2, iV p2)]) X dX5_trace_8 (by decide) rfl ?_
  refine g_aload_n X dX5_trace_9 0 rfl ?_
  refine g_ifnonnull X 17 dX5_trace_10 (by decide) hw (fun hw => ?_) (fun hw => ?_)
  · refine g_aload_n X dX5_trace_17 1 rfl ?_
    refine g_get X (rV (gR M4 t 0)) dX5_trace_18 fl_X5_10 (fun _ => rfl) ⟨hk1, hw⟩ (fun hw => ?_)
    refine g_topR (fun r6 hr6 => ?_)
    have hw := hw r6 hr6
    refine g_aload_n X dX5_trace_21 0 rfl ?_
    obtain ⟨hk7, hw⟩ := hw
    refine g_get X (iV (gI M4 r5 6)) dX5_trace_22 fl_X5_84 (fun _ => rfl) ⟨hk7, hw⟩ (fun hw => ?_)
    obtain ⟨hk8, hw⟩ := hw
    refine g_callr (pc' := 28) (rest := []) rfl (fun H locs ls d qR qL => g_runV X cw_X5_182 iv_X0_partAt ⟨Nat.le_of_ble_eq_true rfl, Nat.le_of_ble_eq_true rfl⟩ dX5_trace_25 (c_X0_partAt l E n M4 r6 (gI M4 r5 6) _ hw) hk8 rfl rfl (Nat.le_of_ble_eq_true rfl) ⟨Nat.le_of_ble_eq_true rfl, Nat.le_of_ble_eq_true rfl⟩ qR qL) (fun r10 M9 hw => ?_)
    refine g_astore (lv' := [(4, rV r10), (3, rV r5), (0, rV t), (1, iV p1), (2, iV p2)]) X dX5_trace_28 (by decide) rfl ?_
    refine g_aload X dX5_trace_30 0 rfl ?_
    refine g_ifnull X 47 dX5_trace_32 (by decide) hw (fun hw => ?_) (fun hw => ?_)
    · refine g_calld (pc' := 50) (rest := []) rfl (fun H locs ls d qR qL => g_runS X cw_X5_161 wt_X5_notANumber ⟨Nat.le_of_ble_eq_true rfl, Nat.le_of_ble_eq_true rfl⟩ dX5_trace_47 (c_X5_notANumber l E n M9  _ hw) rfl rfl (Nat.le_of_ble_eq_true rfl) ⟨Nat.le_of_ble_eq_true rfl, Nat.le_of_ble_eq_true rfl⟩ qR qL) (fun z12 M11 hw => ?_)
      exact g_dret X hr hlk hSz hOld (Nat.le_refl _) dX5_trace_50 hw
    · refine g_iload_n X dX5_trace_35 4 rfl ?_
      refine g_if_lt X 47 dX5_trace_36 (by decide) hw (fun hw => ?_) (fun hw => ?_)
      · refine g_calld (pc' := 50) (rest := []) rfl (fun H locs ls d qR qL => g_runS X cw_X5_161 wt_X5_notANumber ⟨Nat.le_of_ble_eq_true rfl, Nat.le_of_ble_eq_true rfl⟩ dX5_trace_47 (c_X5_notANumber l E n M9  _ hw) rfl rfl (Nat.le_of_ble_eq_true rfl) ⟨Nat.le_of_ble_eq_true rfl, Nat.le_of_ble_eq_true rfl⟩ qR qL) (fun z14 M13 hw => ?_)
        exact g_dret X hr hlk hSz hOld (Nat.le_refl _) dX5_trace_50 hw
      · refine g_iload_n X dX5_trace_39 4 rfl ?_
        refine g_aload_n X dX5_trace_40 1 rfl ?_
        refine g_get X (iV (gI M9 r5 9)) dX5_trace_41 fl_X5_224 (fun _ => rfl) ⟨hk7, hw⟩ (fun hw => ?_)
        refine g_icmp_le X 51 dX5_trace_44 (by decide) hw (fun hw => ?_) (fun hw => ?_)
        · refine g_aload_n X dX5_trace_51 1 rfl ?_
          refine g_get X (dV (gD M9 r5 7)) dX5_trace_52 fl_X5_172 (fun _ => rfl) ⟨hk7, hw⟩ (fun hw => ?_)
          refine g_aload X dX5_trace_55 0 rfl ?_
          obtain ⟨hk15, hw⟩ := hw
          refine g_get X (iV (gI M9 r10 2)) dX5_trace_57 fl_X5_191 (fun _ => rfl) ⟨hk15, hw⟩ (fun hw => ?_)
          refine g_aload X dX5_trace_60 0 rfl ?_
          refine g_get X (iV (gI M9 r10 3)) dX5_trace_62 fl_X5_194 (fun _ => rfl) ⟨hk15, hw⟩ (fun hw => ?_)
          refine g_iload_n X dX5_trace_65 4 rfl ?_
          refine g_calld (pc' := 69) (rest := []) rfl (fun H locs ls d qR qL => g_runS X cw_X5_227 wt_X5_decayed ⟨Nat.le_of_ble_eq_true rfl, Nat.le_of_ble_eq_true rfl⟩ dX5_trace_66 (c_X5_decayed l E n M9 (gD M9 r5 7) (gI M9 r10 2) (gI M9 r10 3) p2 _ hw) rfl rfl (Nat.le_of_ble_eq_true rfl) ⟨Nat.le_of_ble_eq_true rfl, Nat.le_of_ble_eq_true rfl⟩ qR qL) (fun z17 M16 hw => ?_)
          exact g_dret X hr hlk hSz hOld (Nat.le_refl _) dX5_trace_69 hw
        · refine g_calld (pc' := 50) (rest := []) rfl (fun H locs ls d qR qL => g_runS X cw_X5_161 wt_X5_notANumber ⟨Nat.le_of_ble_eq_true rfl, Nat.le_of_ble_eq_true rfl⟩ dX5_trace_47 (c_X5_notANumber l E n M9  _ hw) rfl rfl (Nat.le_of_ble_eq_true rfl) ⟨Nat.le_of_ble_eq_true rfl, Nat.le_of_ble_eq_true rfl⟩ qR qL) (fun z19 M18 hw => ?_)
          exact g_dret X hr hlk hSz hOld (Nat.le_refl _) dX5_trace_50 hw
  · refine g_calld (pc' := 16) (rest := []) rfl (fun H locs ls d qR qL => g_runS X cw_X5_161 wt_X5_notANumber ⟨Nat.le_of_ble_eq_true rfl, Nat.le_of_ble_eq_true rfl⟩ dX5_trace_13 (c_X5_notANumber l E n M4  _ hw) rfl rfl (Nat.le_of_ble_eq_true rfl) ⟨Nat.le_of_ble_eq_true rfl, Nat.le_of_ble_eq_true rfl⟩ qR qL) (fun z21 M20 hw => ?_)
    exact g_dret X hr hlk hSz hOld (Nat.le_refl _) dX5_trace_16 hw
theorem dX5_count_0 : decode cX5_count 0 = .ok (.iload_n 1, 1) := by decide +kernel
theorem dX5_count_1 : decode cX5_count 1 = .ok (.tableswitch 225 0 16 #[83, 91, 99, 107, 116, 125, 134, 143, 151, 159, 167, 176, 185, 194, 203, 212, 217], 83) := by decide +kernel
theorem dX5_count_84 : decode cX5_count 84 = .ok (.aload_n 0, 1) := by decide +kernel
theorem dX5_count_85 : decode cX5_count 85 = .ok (.getfield 10, 3) := by decide +kernel
theorem dX5_count_88 : decode cX5_count 88 = .ok (.getfield 128, 3) := by decide +kernel
theorem dX5_count_91 : decode cX5_count 91 = .ok (.ireturn, 1) := by decide +kernel
theorem dX5_count_92 : decode cX5_count 92 = .ok (.aload_n 0, 1) := by decide +kernel
theorem dX5_count_93 : decode cX5_count 93 = .ok (.getfield 10, 3) := by decide +kernel
theorem dX5_count_96 : decode cX5_count 96 = .ok (.getfield 231, 3) := by decide +kernel
theorem dX5_count_99 : decode cX5_count 99 = .ok (.ireturn, 1) := by decide +kernel
theorem dX5_count_100 : decode cX5_count 100 = .ok (.aload_n 0, 1) := by decide +kernel
theorem dX5_count_101 : decode cX5_count 101 = .ok (.getfield 10, 3) := by decide +kernel
theorem dX5_count_104 : decode cX5_count 104 = .ok (.getfield 41, 3) := by decide +kernel
theorem dX5_count_107 : decode cX5_count 107 = .ok (.ireturn, 1) := by decide +kernel
theorem dX5_count_108 : decode cX5_count 108 = .ok (.aload_n 0, 1) := by decide +kernel
theorem dX5_count_109 : decode cX5_count 109 = .ok (.getfield 10, 3) := by decide +kernel
theorem dX5_count_112 : decode cX5_count 112 = .ok (.iconst 0, 1) := by decide +kernel
theorem dX5_count_113 : decode cX5_count 113 = .ok (.invokevirtual 234, 3) := by decide +kernel
theorem dX5_count_116 : decode cX5_count 116 = .ok (.ireturn, 1) := by decide +kernel
theorem dX5_count_117 : decode cX5_count 117 = .ok (.aload_n 0, 1) := by decide +kernel
theorem dX5_count_118 : decode cX5_count 118 = .ok (.getfield 10, 3) := by decide +kernel
theorem dX5_count_121 : decode cX5_count 121 = .ok (.iconst 1, 1) := by decide +kernel
theorem dX5_count_122 : decode cX5_count 122 = .ok (.invokevirtual 234, 3) := by decide +kernel
theorem dX5_count_125 : decode cX5_count 125 = .ok (.ireturn, 1) := by decide +kernel
theorem dX5_count_126 : decode cX5_count 126 = .ok (.aload_n 0, 1) := by decide +kernel
theorem dX5_count_127 : decode cX5_count 127 = .ok (.getfield 10, 3) := by decide +kernel
theorem dX5_count_130 : decode cX5_count 130 = .ok (.iconst 2, 1) := by decide +kernel
theorem dX5_count_131 : decode cX5_count 131 = .ok (.invokevirtual 234, 3) := by decide +kernel
theorem dX5_count_134 : decode cX5_count 134 = .ok (.ireturn, 1) := by decide +kernel
theorem dX5_count_135 : decode cX5_count 135 = .ok (.aload_n 0, 1) := by decide +kernel
theorem dX5_count_136 : decode cX5_count 136 = .ok (.getfield 10, 3) := by decide +kernel
theorem dX5_count_139 : decode cX5_count 139 = .ok (.iconst 3, 1) := by decide +kernel
theorem dX5_count_140 : decode cX5_count 140 = .ok (.invokevirtual 234, 3) := by decide +kernel
theorem dX5_count_143 : decode cX5_count 143 = .ok (.ireturn, 1) := by decide +kernel
theorem dX5_count_144 : decode cX5_count 144 = .ok (.aload_n 0, 1) := by decide +kernel
theorem dX5_count_145 : decode cX5_count 145 = .ok (.getfield 10, 3) := by decide +kernel
theorem dX5_count_148 : decode cX5_count 148 = .ok (.invokevirtual 237, 3) := by decide +kernel
theorem dX5_count_151 : decode cX5_count 151 = .ok (.ireturn, 1) := by decide +kernel
theorem dX5_count_152 : decode cX5_count 152 = .ok (.aload_n 0, 1) := by decide +kernel
theorem dX5_count_153 : decode cX5_count 153 = .ok (.getfield 10, 3) := by decide +kernel
theorem dX5_count_156 : decode cX5_count 156 = .ok (.invokevirtual 240, 3) := by decide +kernel
theorem dX5_count_159 : decode cX5_count 159 = .ok (.ireturn, 1) := by decide +kernel
theorem dX5_count_160 : decode cX5_count 160 = .ok (.aload_n 0, 1) := by decide +kernel
theorem dX5_count_161 : decode cX5_count 161 = .ok (.getfield 10, 3) := by decide +kernel
theorem dX5_count_164 : decode cX5_count 164 = .ok (.getfield 68, 3) := by decide +kernel
theorem dX5_count_167 : decode cX5_count 167 = .ok (.ireturn, 1) := by decide +kernel
theorem dX5_count_168 : decode cX5_count 168 = .ok (.aload_n 0, 1) := by decide +kernel
theorem dX5_count_169 : decode cX5_count 169 = .ok (.getfield 10, 3) := by decide +kernel
theorem dX5_count_172 : decode cX5_count 172 = .ok (.iconst 1, 1) := by decide +kernel
theorem dX5_count_173 : decode cX5_count 173 = .ok (.invokevirtual 243, 3) := by decide +kernel
theorem dX5_count_176 : decode cX5_count 176 = .ok (.ireturn, 1) := by decide +kernel
theorem dX5_count_177 : decode cX5_count 177 = .ok (.aload_n 0, 1) := by decide +kernel
theorem dX5_count_178 : decode cX5_count 178 = .ok (.getfield 10, 3) := by decide +kernel
theorem dX5_count_181 : decode cX5_count 181 = .ok (.iconst 2, 1) := by decide +kernel
theorem dX5_count_182 : decode cX5_count 182 = .ok (.invokevirtual 243, 3) := by decide +kernel
theorem dX5_count_185 : decode cX5_count 185 = .ok (.ireturn, 1) := by decide +kernel
theorem dX5_count_186 : decode cX5_count 186 = .ok (.aload_n 0, 1) := by decide +kernel
theorem dX5_count_187 : decode cX5_count 187 = .ok (.getfield 10, 3) := by decide +kernel
theorem dX5_count_190 : decode cX5_count 190 = .ok (.iconst 3, 1) := by decide +kernel
theorem dX5_count_191 : decode cX5_count 191 = .ok (.invokevirtual 243, 3) := by decide +kernel
theorem dX5_count_194 : decode cX5_count 194 = .ok (.ireturn, 1) := by decide +kernel
theorem dX5_count_195 : decode cX5_count 195 = .ok (.aload_n 0, 1) := by decide +kernel
theorem dX5_count_196 : decode cX5_count 196 = .ok (.getfield 10, 3) := by decide +kernel
theorem dX5_count_199 : decode cX5_count 199 = .ok (.iconst 4, 1) := by decide +kernel
theorem dX5_count_200 : decode cX5_count 200 = .ok (.invokevirtual 243, 3) := by decide +kernel
theorem dX5_count_203 : decode cX5_count 203 = .ok (.ireturn, 1) := by decide +kernel
theorem dX5_count_204 : decode cX5_count 204 = .ok (.aload_n 0, 1) := by decide +kernel
theorem dX5_count_205 : decode cX5_count 205 = .ok (.getfield 10, 3) := by decide +kernel
theorem dX5_count_208 : decode cX5_count 208 = .ok (.iconst 5, 1) := by decide +kernel
theorem dX5_count_209 : decode cX5_count 209 = .ok (.invokevirtual 243, 3) := by decide +kernel
theorem dX5_count_212 : decode cX5_count 212 = .ok (.ireturn, 1) := by decide +kernel
theorem dX5_count_213 : decode cX5_count 213 = .ok (.aload_n 0, 1) := by decide +kernel
theorem dX5_count_214 : decode cX5_count 214 = .ok (.getfield 30, 3) := by decide +kernel
theorem dX5_count_217 : decode cX5_count 217 = .ok (.ireturn, 1) := by decide +kernel
theorem dX5_count_218 : decode cX5_count 218 = .ok (.aload_n 0, 1) := by decide +kernel
theorem dX5_count_219 : decode cX5_count 219 = .ok (.getfield 26, 3) := by decide +kernel
theorem dX5_count_222 : decode cX5_count 222 = .ok (.getfield 106, 3) := by decide +kernel
theorem dX5_count_225 : decode cX5_count 225 = .ok (.ireturn, 1) := by decide +kernel
theorem dX5_count_226 : decode cX5_count 226 = .ok (.bipush (-2), 2) := by decide +kernel
theorem dX5_count_228 : decode cX5_count 228 = .ok (.ireturn, 1) := by decide +kernel
abbrev rmX5_count : Room := { frames := 1, cells := 0, slots := 0, locals := 26 }
def w_X5_count (n : Nat) (M : Mem) (t : Nat) (p1 : Int32) (K : Int32 → Mem → Prop) : Prop := ((p1 = (0 : Int32) → ((t ≤ n ∧ kd t = (5, 0)) ∧ (∀ r2, r2 = gR M t 0 → ((r2 ≤ n ∧ kd r2 = (0, 0)) ∧ K (gI M r2 6) M)))) ∧ (¬ p1 = (0 : Int32) → ((p1 = (1 : Int32) → ((t ≤ n ∧ kd t = (5, 0)) ∧ (∀ r5, r5 = gR M t 0 → ((r5 ≤ n ∧ kd r5 = (0, 0)) ∧ K (gI M r5 8) M)))) ∧ (¬ p1 = (1 : Int32) → ((p1 = (2 : Int32) → ((t ≤ n ∧ kd t = (5, 0)) ∧ (∀ r8, r8 = gR M t 0 → ((r8 ≤ n ∧ kd r8 = (0, 0)) ∧ K (gI M r8 7) M)))) ∧ (¬ p1 = (2 : Int32) → ((p1 = (3 : Int32) → ((t ≤ n ∧ kd t = (5, 0)) ∧ (∀ r11, r11 = gR M t 0 → ((r11 ≤ n ∧ kd r11 = (0, 0)) ∧ w_X0_partsIn n M r11 (0 : Int32) (fun x14 M13 => K x14 M13))))) ∧ (¬ p1 = (3 : Int32) → ((p1 = (4 : Int32) → ((t ≤ n ∧ kd t = (5, 0)) ∧ (∀ r16, r16 = gR M t 0 → ((r16 ≤ n ∧ kd r16 = (0, 0)) ∧ w_X0_partsIn n M r16 (1 : Int32) (fun x19 M18 => K x19 M18))))) ∧ (¬ p1 = (4 : Int32) → ((p1 = (5 : Int32) → ((t ≤ n ∧ kd t = (5, 0)) ∧ (∀ r21, r21 = gR M t 0 → ((r21 ≤ n ∧ kd r21 = (0, 0)) ∧ w_X0_partsIn n M r21 (2 : Int32) (fun x24 M23 => K x24 M23))))) ∧ (¬ p1 = (5 : Int32) → ((p1 = (6 : Int32) → ((t ≤ n ∧ kd t = (5, 0)) ∧ (∀ r26, r26 = gR M t 0 → ((r26 ≤ n ∧ kd r26 = (0, 0)) ∧ w_X0_partsIn n M r26 (3 : Int32) (fun x29 M28 => K x29 M28))))) ∧ (¬ p1 = (6 : Int32) → ((p1 = (7 : Int32) → ((t ≤ n ∧ kd t = (5, 0)) ∧ (∀ r31, r31 = gR M t 0 → ((r31 ≤ n ∧ kd r31 = (0, 0)) ∧ w_X0_testsEnded n M r31  (fun x34 M33 => K x34 M33))))) ∧ (¬ p1 = (7 : Int32) → ((p1 = (8 : Int32) → ((t ≤ n ∧ kd t = (5, 0)) ∧ (∀ r36, r36 = gR M t 0 → ((r36 ≤ n ∧ kd r36 = (0, 0)) ∧ w_X0_testsRepeated n M r36  (fun x39 M38 => K x39 M38))))) ∧ (¬ p1 = (8 : Int32) → ((p1 = (9 : Int32) → ((t ≤ n ∧ kd t = (5, 0)) ∧ (∀ r41, r41 = gR M t 0 → ((r41 ≤ n ∧ kd r41 = (0, 0)) ∧ K (gI M r41 5) M)))) ∧ (¬ p1 = (9 : Int32) → ((p1 = (10 : Int32) → ((t ≤ n ∧ kd t = (5, 0)) ∧ (∀ r44, r44 = gR M t 0 → ((r44 ≤ n ∧ kd r44 = (0, 0)) ∧ w_X0_partsRejectedFor n M r44 (1 : Int32) (fun x47 M46 => K x47 M46))))) ∧ (¬ p1 = (10 : Int32) → ((p1 = (11 : Int32) → ((t ≤ n ∧ kd t = (5, 0)) ∧ (∀ r49, r49 = gR M t 0 → ((r49 ≤ n ∧ kd r49 = (0, 0)) ∧ w_X0_partsRejectedFor n M r49 (2 : Int32) (fun x52 M51 => K x52 M51))))) ∧ (¬ p1 = (11 : Int32) → ((p1 = (12 : Int32) → ((t ≤ n ∧ kd t = (5, 0)) ∧ (∀ r54, r54 = gR M t 0 → ((r54 ≤ n ∧ kd r54 = (0, 0)) ∧ w_X0_partsRejectedFor n M r54 (3 : Int32) (fun x57 M56 => K x57 M56))))) ∧ (¬ p1 = (12 : Int32) → ((p1 = (13 : Int32) → ((t ≤ n ∧ kd t = (5, 0)) ∧ (∀ r59, r59 = gR M t 0 → ((r59 ≤ n ∧ kd r59 = (0, 0)) ∧ w_X0_partsRejectedFor n M r59 (4 : Int32) (fun x62 M61 => K x62 M61))))) ∧ (¬ p1 = (13 : Int32) → ((p1 = (14 : Int32) → ((t ≤ n ∧ kd t = (5, 0)) ∧ (∀ r64, r64 = gR M t 0 → ((r64 ≤ n ∧ kd r64 = (0, 0)) ∧ w_X0_partsRejectedFor n M r64 (5 : Int32) (fun x67 M66 => K x67 M66))))) ∧ (¬ p1 = (14 : Int32) → ((p1 = (15 : Int32) → ((t ≤ n ∧ kd t = (5, 0)) ∧ K (gI M t 4) M)) ∧ (¬ p1 = (15 : Int32) → ((p1 = (16 : Int32) → ((t ≤ n ∧ kd t = (5, 0)) ∧ (∀ r70, r70 = gR M t 3 → ((r70 ≤ n ∧ kd r70 = (4, 0)) ∧ K (gI M r70 1) M)))) ∧ (¬ p1 = (16 : Int32) → K (-2 : Int32) M))))))))))))))))))))))))))))))))))
set_option maxHeartbeats 4000000 in
set_option maxRecDepth 20000 in
theorem c_X5_count (l : Launch) (E : Gl) (n : Nat) (M : Mem) (t : Nat) (p1 : Int32) (K : Int32 → Mem → Prop) (hw : w_X5_count n M t p1 K) : CT E l yX5_count cX5_count 2 (some .int) rmX5_count n M [rV t, iV p1] (PI E n K) := by
  refine g_met l (by decide) (Nat.le_of_ble_eq_true rfl) ?_
  intro p e s m args below meth c X hr hlk hnm hSz hOld
  change CX E p s m c _ _ RX5 at X
  unfold w_X5_count at hw
  refine g_iload_n X dX5_count_0 1 rfl ?_
  by_cases q0 : p1 = (0 : Int32)
  · have hw := hw.1 q0
    refine g_swIn (off := 83) X 84 dX5_count_1 (by rw [q0]; decide) (by rw [q0]; decide) (by rw [q0]; decide) (by decide) ?_
    refine g_aload_n X dX5_count_84 0 rfl ?_
    obtain ⟨hk1, hw⟩ := hw
    refine g_get X (rV (gR M t 0)) dX5_count_85 fl_X5_10 (fun _ => rfl) ⟨hk1, hw⟩ (fun hw => ?_)
    refine g_topR (fun r2 hr2 => ?_)
    have hw := hw r2 hr2
    obtain ⟨hk3, hw⟩ := hw
    refine g_get X (iV (gI M r2 6)) dX5_count_88 fl_X5_128 (fun _ => rfl) ⟨hk3, hw⟩ (fun hw => ?_)
    exact g_iret X hr hlk hSz hOld (Nat.le_refl _) dX5_count_91 hw
  have hw := hw.2 q0
  by_cases q1 : p1 = (1 : Int32)
  · have hw := hw.1 q1
    refine g_swIn (off := 91) X 92 dX5_count_1 (by rw [q1]; decide) (by rw [q1]; decide) (by rw [q1]; decide) (by decide) ?_
    refine g_aload_n X dX5_count_92 0 rfl ?_
    obtain ⟨hk4, hw⟩ := hw
    refine g_get X (rV (gR M t 0)) dX5_count_93 fl_X5_10 (fun _ => rfl) ⟨hk4, hw⟩ (fun hw => ?_)
    refine g_topR (fun r5 hr5 => ?_)
    have hw := hw r5 hr5
    obtain ⟨hk6, hw⟩ := hw
    refine g_get X (iV (gI M r5 8)) dX5_count_96 fl_X5_231 (fun _ => rfl) ⟨hk6, hw⟩ (fun hw => ?_)
    exact g_iret X hr hlk hSz hOld (Nat.le_refl _) dX5_count_99 hw
  have hw := hw.2 q1
  by_cases q2 : p1 = (2 : Int32)
  · have hw := hw.1 q2
    refine g_swIn (off := 99) X 100 dX5_count_1 (by rw [q2]; decide) (by rw [q2]; decide) (by rw [q2]; decide) (by decide) ?_
    refine g_aload_n X dX5_count_100 0 rfl ?_
    obtain ⟨hk7, hw⟩ := hw
    refine g_get X (rV (gR M t 0)) dX5_count_101 fl_X5_10 (fun _ => rfl) ⟨hk7, hw⟩ (fun hw => ?_)
    refine g_topR (fun r8 hr8 => ?_)
    have hw := hw r8 hr8
    obtain ⟨hk9, hw⟩ := hw
    refine g_get X (iV (gI M r8 7)) dX5_count_104 fl_X5_41 (fun _ => rfl) ⟨hk9, hw⟩ (fun hw => ?_)
    exact g_iret X hr hlk hSz hOld (Nat.le_refl _) dX5_count_107 hw
  have hw := hw.2 q2
  by_cases q3 : p1 = (3 : Int32)
  · have hw := hw.1 q3
    refine g_swIn (off := 107) X 108 dX5_count_1 (by rw [q3]; decide) (by rw [q3]; decide) (by rw [q3]; decide) (by decide) ?_
    refine g_aload_n X dX5_count_108 0 rfl ?_
    obtain ⟨hk10, hw⟩ := hw
    refine g_get X (rV (gR M t 0)) dX5_count_109 fl_X5_10 (fun _ => rfl) ⟨hk10, hw⟩ (fun hw => ?_)
    refine g_topR (fun r11 hr11 => ?_)
    have hw := hw r11 hr11
    refine g_iconst X (0 : Int32) dX5_count_112 (by decide) ?_
    obtain ⟨hk12, hw⟩ := hw
    refine g_calli (pc' := 116) (rest := []) rfl (fun H locs ls d qR qL => g_runV X cw_X5_234 iv_X0_partsIn ⟨Nat.le_of_ble_eq_true rfl, Nat.le_of_ble_eq_true rfl⟩ dX5_count_113 (c_X0_partsIn l E n M r11 (0 : Int32) _ hw) hk12 rfl rfl (Nat.le_of_ble_eq_true rfl) ⟨Nat.le_of_ble_eq_true rfl, Nat.le_of_ble_eq_true rfl⟩ qR qL) (fun x14 M13 hw => ?_)
    exact g_iret X hr hlk hSz hOld (Nat.le_refl _) dX5_count_116 hw
  have hw := hw.2 q3
  by_cases q4 : p1 = (4 : Int32)
  · have hw := hw.1 q4
    refine g_swIn (off := 116) X 117 dX5_count_1 (by rw [q4]; decide) (by rw [q4]; decide) (by rw [q4]; decide) (by decide) ?_
    refine g_aload_n X dX5_count_117 0 rfl ?_
    obtain ⟨hk15, hw⟩ := hw
    refine g_get X (rV (gR M t 0)) dX5_count_118 fl_X5_10 (fun _ => rfl) ⟨hk15, hw⟩ (fun hw => ?_)
    refine g_topR (fun r16 hr16 => ?_)
    have hw := hw r16 hr16
    refine g_iconst X (1 : Int32) dX5_count_121 (by decide) ?_
    obtain ⟨hk17, hw⟩ := hw
    refine g_calli (pc' := 125) (rest := []) rfl (fun H locs ls d qR qL => g_runV X cw_X5_234 iv_X0_partsIn ⟨Nat.le_of_ble_eq_true rfl, Nat.le_of_ble_eq_true rfl⟩ dX5_count_122 (c_X0_partsIn l E n M r16 (1 : Int32) _ hw) hk17 rfl rfl (Nat.le_of_ble_eq_true rfl) ⟨Nat.le_of_ble_eq_true rfl, Nat.le_of_ble_eq_true rfl⟩ qR qL) (fun x19 M18 hw => ?_)
    exact g_iret X hr hlk hSz hOld (Nat.le_refl _) dX5_count_125 hw
  have hw := hw.2 q4
  by_cases q5 : p1 = (5 : Int32)
  · have hw := hw.1 q5
    refine g_swIn (off := 125) X 126 dX5_count_1 (by rw [q5]; decide) (by rw [q5]; decide) (by rw [q5]; decide) (by decide) ?_
    refine g_aload_n X dX5_count_126 0 rfl ?_
    obtain ⟨hk20, hw⟩ := hw
    refine g_get X (rV (gR M t 0)) dX5_count_127 fl_X5_10 (fun _ => rfl) ⟨hk20, hw⟩ (fun hw => ?_)
    refine g_topR (fun r21 hr21 => ?_)
    have hw := hw r21 hr21
    refine g_iconst X (2 : Int32) dX5_count_130 (by decide) ?_
    obtain ⟨hk22, hw⟩ := hw
    refine g_calli (pc' := 134) (rest := []) rfl (fun H locs ls d qR qL => g_runV X cw_X5_234 iv_X0_partsIn ⟨Nat.le_of_ble_eq_true rfl, Nat.le_of_ble_eq_true rfl⟩ dX5_count_131 (c_X0_partsIn l E n M r21 (2 : Int32) _ hw) hk22 rfl rfl (Nat.le_of_ble_eq_true rfl) ⟨Nat.le_of_ble_eq_true rfl, Nat.le_of_ble_eq_true rfl⟩ qR qL) (fun x24 M23 hw => ?_)
    exact g_iret X hr hlk hSz hOld (Nat.le_refl _) dX5_count_134 hw
  have hw := hw.2 q5
  by_cases q6 : p1 = (6 : Int32)
  · have hw := hw.1 q6
    refine g_swIn (off := 134) X 135 dX5_count_1 (by rw [q6]; decide) (by rw [q6]; decide) (by rw [q6]; decide) (by decide) ?_
    refine g_aload_n X dX5_count_135 0 rfl ?_
    obtain ⟨hk25, hw⟩ := hw
    refine g_get X (rV (gR M t 0)) dX5_count_136 fl_X5_10 (fun _ => rfl) ⟨hk25, hw⟩ (fun hw => ?_)
    refine g_topR (fun r26 hr26 => ?_)
    have hw := hw r26 hr26
    refine g_iconst X (3 : Int32) dX5_count_139 (by decide) ?_
    obtain ⟨hk27, hw⟩ := hw
    refine g_calli (pc' := 143) (rest := []) rfl (fun H locs ls d qR qL => g_runV X cw_X5_234 iv_X0_partsIn ⟨Nat.le_of_ble_eq_true rfl, Nat.le_of_ble_eq_true rfl⟩ dX5_count_140 (c_X0_partsIn l E n M r26 (3 : Int32) _ hw) hk27 rfl rfl (Nat.le_of_ble_eq_true rfl) ⟨Nat.le_of_ble_eq_true rfl, Nat.le_of_ble_eq_true rfl⟩ qR qL) (fun x29 M28 hw => ?_)
    exact g_iret X hr hlk hSz hOld (Nat.le_refl _) dX5_count_143 hw
  have hw := hw.2 q6
  by_cases q7 : p1 = (7 : Int32)
  · have hw := hw.1 q7
    refine g_swIn (off := 143) X 144 dX5_count_1 (by rw [q7]; decide) (by rw [q7]; decide) (by rw [q7]; decide) (by decide) ?_
    refine g_aload_n X dX5_count_144 0 rfl ?_
    obtain ⟨hk30, hw⟩ := hw
    refine g_get X (rV (gR M t 0)) dX5_count_145 fl_X5_10 (fun _ => rfl) ⟨hk30, hw⟩ (fun hw => ?_)
    refine g_topR (fun r31 hr31 => ?_)
    have hw := hw r31 hr31
    obtain ⟨hk32, hw⟩ := hw
    refine g_calli (pc' := 151) (rest := []) rfl (fun H locs ls d qR qL => g_runV X cw_X5_237 iv_X0_testsEnded ⟨Nat.le_of_ble_eq_true rfl, Nat.le_of_ble_eq_true rfl⟩ dX5_count_148 (c_X0_testsEnded l E n M r31  _ hw) hk32 rfl rfl (Nat.le_of_ble_eq_true rfl) ⟨Nat.le_of_ble_eq_true rfl, Nat.le_of_ble_eq_true rfl⟩ qR qL) (fun x34 M33 hw => ?_)
    exact g_iret X hr hlk hSz hOld (Nat.le_refl _) dX5_count_151 hw
  have hw := hw.2 q7
  by_cases q8 : p1 = (8 : Int32)
  · have hw := hw.1 q8
    refine g_swIn (off := 151) X 152 dX5_count_1 (by rw [q8]; decide) (by rw [q8]; decide) (by rw [q8]; decide) (by decide) ?_
    refine g_aload_n X dX5_count_152 0 rfl ?_
    obtain ⟨hk35, hw⟩ := hw
    refine g_get X (rV (gR M t 0)) dX5_count_153 fl_X5_10 (fun _ => rfl) ⟨hk35, hw⟩ (fun hw => ?_)
    refine g_topR (fun r36 hr36 => ?_)
    have hw := hw r36 hr36
    obtain ⟨hk37, hw⟩ := hw
    refine g_calli (pc' := 159) (rest := []) rfl (fun H locs ls d qR qL => g_runV X cw_X5_240 iv_X0_testsRepeated ⟨Nat.le_of_ble_eq_true rfl, Nat.le_of_ble_eq_true rfl⟩ dX5_count_156 (c_X0_testsRepeated l E n M r36  _ hw) hk37 rfl rfl (Nat.le_of_ble_eq_true rfl) ⟨Nat.le_of_ble_eq_true rfl, Nat.le_of_ble_eq_true rfl⟩ qR qL) (fun x39 M38 hw => ?_)
    exact g_iret X hr hlk hSz hOld (Nat.le_refl _) dX5_count_159 hw
  have hw := hw.2 q8
  by_cases q9 : p1 = (9 : Int32)
  · have hw := hw.1 q9
    refine g_swIn (off := 159) X 160 dX5_count_1 (by rw [q9]; decide) (by rw [q9]; decide) (by rw [q9]; decide) (by decide) ?_
    refine g_aload_n X dX5_count_160 0 rfl ?_
    obtain ⟨hk40, hw⟩ := hw
    refine g_get X (rV (gR M t 0)) dX5_count_161 fl_X5_10 (fun _ => rfl) ⟨hk40, hw⟩ (fun hw => ?_)
    refine g_topR (fun r41 hr41 => ?_)
    have hw := hw r41 hr41
    obtain ⟨hk42, hw⟩ := hw
    refine g_get X (iV (gI M r41 5)) dX5_count_164 fl_X5_68 (fun _ => rfl) ⟨hk42, hw⟩ (fun hw => ?_)
    exact g_iret X hr hlk hSz hOld (Nat.le_refl _) dX5_count_167 hw
  have hw := hw.2 q9
  by_cases q10 : p1 = (10 : Int32)
  · have hw := hw.1 q10
    refine g_swIn (off := 167) X 168 dX5_count_1 (by rw [q10]; decide) (by rw [q10]; decide) (by rw [q10]; decide) (by decide) ?_
    refine g_aload_n X dX5_count_168 0 rfl ?_
    obtain ⟨hk43, hw⟩ := hw
    refine g_get X (rV (gR M t 0)) dX5_count_169 fl_X5_10 (fun _ => rfl) ⟨hk43, hw⟩ (fun hw => ?_)
    refine g_topR (fun r44 hr44 => ?_)
    have hw := hw r44 hr44
    refine g_iconst X (1 : Int32) dX5_count_172 (by decide) ?_
    obtain ⟨hk45, hw⟩ := hw
    refine g_calli (pc' := 176) (rest := []) rfl (fun H locs ls d qR qL => g_runV X cw_X5_243 iv_X0_partsRejectedFor ⟨Nat.le_of_ble_eq_true rfl, Nat.le_of_ble_eq_true rfl⟩ dX5_count_173 (c_X0_partsRejectedFor l E n M r44 (1 : Int32) _ hw) hk45 rfl rfl (Nat.le_of_ble_eq_true rfl) ⟨Nat.le_of_ble_eq_true rfl, Nat.le_of_ble_eq_true rfl⟩ qR qL) (fun x47 M46 hw => ?_)
    exact g_iret X hr hlk hSz hOld (Nat.le_refl _) dX5_count_176 hw
  have hw := hw.2 q10
  by_cases q11 : p1 = (11 : Int32)
  · have hw := hw.1 q11
    refine g_swIn (off := 176) X 177 dX5_count_1 (by rw [q11]; decide) (by rw [q11]; decide) (by rw [q11]; decide) (by decide) ?_
    refine g_aload_n X dX5_count_177 0 rfl ?_
    obtain ⟨hk48, hw⟩ := hw
    refine g_get X (rV (gR M t 0)) dX5_count_178 fl_X5_10 (fun _ => rfl) ⟨hk48, hw⟩ (fun hw => ?_)
    refine g_topR (fun r49 hr49 => ?_)
    have hw := hw r49 hr49
    refine g_iconst X (2 : Int32) dX5_count_181 (by decide) ?_
    obtain ⟨hk50, hw⟩ := hw
    refine g_calli (pc' := 185) (rest := []) rfl (fun H locs ls d qR qL => g_runV X cw_X5_243 iv_X0_partsRejectedFor ⟨Nat.le_of_ble_eq_true rfl, Nat.le_of_ble_eq_true rfl⟩ dX5_count_182 (c_X0_partsRejectedFor l E n M r49 (2 : Int32) _ hw) hk50 rfl rfl (Nat.le_of_ble_eq_true rfl) ⟨Nat.le_of_ble_eq_true rfl, Nat.le_of_ble_eq_true rfl⟩ qR qL) (fun x52 M51 hw => ?_)
    exact g_iret X hr hlk hSz hOld (Nat.le_refl _) dX5_count_185 hw
  have hw := hw.2 q11
  by_cases q12 : p1 = (12 : Int32)
  · have hw := hw.1 q12
    refine g_swIn (off := 185) X 186 dX5_count_1 (by rw [q12]; decide) (by rw [q12]; decide) (by rw [q12]; decide) (by decide) ?_
    refine g_aload_n X dX5_count_186 0 rfl ?_
    obtain ⟨hk53, hw⟩ := hw
    refine g_get X (rV (gR M t 0)) dX5_count_187 fl_X5_10 (fun _ => rfl) ⟨hk53, hw⟩ (fun hw => ?_)
    refine g_topR (fun r54 hr54 => ?_)
    have hw := hw r54 hr54
    refine g_iconst X (3 : Int32) dX5_count_190 (by decide) ?_
    obtain ⟨hk55, hw⟩ := hw
    refine g_calli (pc' := 194) (rest := []) rfl (fun H locs ls d qR qL => g_runV X cw_X5_243 iv_X0_partsRejectedFor ⟨Nat.le_of_ble_eq_true rfl, Nat.le_of_ble_eq_true rfl⟩ dX5_count_191 (c_X0_partsRejectedFor l E n M r54 (3 : Int32) _ hw) hk55 rfl rfl (Nat.le_of_ble_eq_true rfl) ⟨Nat.le_of_ble_eq_true rfl, Nat.le_of_ble_eq_true rfl⟩ qR qL) (fun x57 M56 hw => ?_)
    exact g_iret X hr hlk hSz hOld (Nat.le_refl _) dX5_count_194 hw
  have hw := hw.2 q12
  by_cases q13 : p1 = (13 : Int32)
  · have hw := hw.1 q13
    refine g_swIn (off := 194) X 195 dX5_count_1 (by rw [q13]; decide) (by rw [q13]; decide) (by rw [q13]; decide) (by decide) ?_
    refine g_aload_n X dX5_count_195 0 rfl ?_
    obtain ⟨hk58, hw⟩ := hw
    refine g_get X (rV (gR M t 0)) dX5_count_196 fl_X5_10 (fun _ => rfl) ⟨hk58, hw⟩ (fun hw => ?_)
    refine g_topR (fun r59 hr59 => ?_)
    have hw := hw r59 hr59
    refine g_iconst X (4 : Int32) dX5_count_199 (by decide) ?_
    obtain ⟨hk60, hw⟩ := hw
    refine g_calli (pc' := 203) (rest := []) rfl (fun H locs ls d qR qL => g_runV X cw_X5_243 iv_X0_partsRejectedFor ⟨Nat.le_of_ble_eq_true rfl, Nat.le_of_ble_eq_true rfl⟩ dX5_count_200 (c_X0_partsRejectedFor l E n M r59 (4 : Int32) _ hw) hk60 rfl rfl (Nat.le_of_ble_eq_true rfl) ⟨Nat.le_of_ble_eq_true rfl, Nat.le_of_ble_eq_true rfl⟩ qR qL) (fun x62 M61 hw => ?_)
    exact g_iret X hr hlk hSz hOld (Nat.le_refl _) dX5_count_203 hw
  have hw := hw.2 q13
  by_cases q14 : p1 = (14 : Int32)
  · have hw := hw.1 q14
    refine g_swIn (off := 203) X 204 dX5_count_1 (by rw [q14]; decide) (by rw [q14]; decide) (by rw [q14]; decide) (by decide) ?_
    refine g_aload_n X dX5_count_204 0 rfl ?_
    obtain ⟨hk63, hw⟩ := hw
    refine g_get X (rV (gR M t 0)) dX5_count_205 fl_X5_10 (fun _ => rfl) ⟨hk63, hw⟩ (fun hw => ?_)
    refine g_topR (fun r64 hr64 => ?_)
    have hw := hw r64 hr64
    refine g_iconst X (5 : Int32) dX5_count_208 (by decide) ?_
    obtain ⟨hk65, hw⟩ := hw
    refine g_calli (pc' := 212) (rest := []) rfl (fun H locs ls d qR qL => g_runV X cw_X5_243 iv_X0_partsRejectedFor ⟨Nat.le_of_ble_eq_true rfl, Nat.le_of_ble_eq_true rfl⟩ dX5_count_209 (c_X0_partsRejectedFor l E n M r64 (5 : Int32) _ hw) hk65 rfl rfl (Nat.le_of_ble_eq_true rfl) ⟨Nat.le_of_ble_eq_true rfl, Nat.le_of_ble_eq_true rfl⟩ qR qL) (fun x67 M66 hw => ?_)
    exact g_iret X hr hlk hSz hOld (Nat.le_refl _) dX5_count_212 hw
  have hw := hw.2 q14
  by_cases q15 : p1 = (15 : Int32)
  · have hw := hw.1 q15
    refine g_swIn (off := 212) X 213 dX5_count_1 (by rw [q15]; decide) (by rw [q15]; decide) (by rw [q15]; decide) (by decide) ?_
    refine g_aload_n X dX5_count_213 0 rfl ?_
    obtain ⟨hk68, hw⟩ := hw
    refine g_get X (iV (gI M t 4)) dX5_count_214 fl_X5_30 (fun _ => rfl) ⟨hk68, hw⟩ (fun hw => ?_)
    exact g_iret X hr hlk hSz hOld (Nat.le_refl _) dX5_count_217 hw
  have hw := hw.2 q15
  by_cases q16 : p1 = (16 : Int32)
  · have hw := hw.1 q16
    refine g_swIn (off := 217) X 218 dX5_count_1 (by rw [q16]; decide) (by rw [q16]; decide) (by rw [q16]; decide) (by decide) ?_
    refine g_aload_n X dX5_count_218 0 rfl ?_
    obtain ⟨hk69, hw⟩ := hw
    refine g_get X (rV (gR M t 3)) dX5_count_219 fl_X5_26 (fun _ => rfl) ⟨hk69, hw⟩ (fun hw => ?_)
    refine g_topR (fun r70 hr70 => ?_)
    have hw := hw r70 hr70
    obtain ⟨hk71, hw⟩ := hw
    refine g_get X (iV (gI M r70 1)) dX5_count_222 fl_X5_106 (fun _ => rfl) ⟨hk71, hw⟩ (fun hw => ?_)
    exact g_iret X hr hlk hSz hOld (Nat.le_refl _) dX5_count_225 hw
  have hw := hw.2 q16
  have swn0 := sw_ne (k := 0) (by decide) q0
  have swn1 := sw_ne (k := 1) (by decide) q1
  have swn2 := sw_ne (k := 2) (by decide) q2
  have swn3 := sw_ne (k := 3) (by decide) q3
  have swn4 := sw_ne (k := 4) (by decide) q4
  have swn5 := sw_ne (k := 5) (by decide) q5
  have swn6 := sw_ne (k := 6) (by decide) q6
  have swn7 := sw_ne (k := 7) (by decide) q7
  have swn8 := sw_ne (k := 8) (by decide) q8
  have swn9 := sw_ne (k := 9) (by decide) q9
  have swn10 := sw_ne (k := 10) (by decide) q10
  have swn11 := sw_ne (k := 11) (by decide) q11
  have swn12 := sw_ne (k := 12) (by decide) q12
  have swn13 := sw_ne (k := 13) (by decide) q13
  have swn14 := sw_ne (k := 14) (by decide) q14
  have swn15 := sw_ne (k := 15) (by decide) q15
  have swn16 := sw_ne (k := 16) (by decide) q16
  refine g_swOut X 226 dX5_count_1 (by omega) (by decide) ?_
  refine g_bipush X (-2 : Int32) dX5_count_226 (by decide) ?_
  exact g_iret X hr hlk hSz hOld (Nat.le_refl _) dX5_count_228 hw
