/-! written by wip/whole/gen2.py out of the bytecode -/
theorem wc_X5_build : Cond.code yX5_build cX5_build 3 (some .int) ∈ lwG := lwG_of (tb2 _ (List.mem_of_getElem? (i := 47) (by decide +kernel))) (by decide +kernel)
theorem wm_L_13 : Cond.methodLink RL 13 yX5_build ∈ lwG := lwG_of (tb2 _ (List.mem_of_getElem? (i := 44) (by decide +kernel))) (by decide +kernel)
theorem cw_L_13 : CW RL 13 yX5_build cX5_build 3 (some .int) 1 := ⟨by decide +kernel, by decide +kernel, wc_X5_build, wi_X5, wm_L_13⟩
theorem wn_X5_build : Cond.instanceMethod yX5_build ∈ lwG := lwG_of (tb2 _ (List.mem_of_getElem? (i := 45) (by decide +kernel))) (by decide +kernel)
theorem ws_X5_build : Cond.selects RX5 yX5_build yX5_build ∈ lwG := lwG_of (tb2 _ (List.mem_of_getElem? (i := 46) (by decide +kernel))) (by decide +kernel)
theorem iv_X5_build : Cond.instanceMethod yX5_build ∈ lwG ∧ Cond.selects (fC 5) yX5_build yX5_build ∈ lwG ∧ 5 < 7 := ⟨wn_X5_build, ws_X5_build, by decide⟩
theorem wc_X6_build : Cond.code yX6_build cX6_build 3 (some .int) ∈ lwG := lwG_of (tb3 _ (List.mem_of_getElem? (i := 227) (by decide +kernel))) (by decide +kernel)
theorem wm_L_17 : Cond.methodLink RL 17 yX6_build ∈ lwG := lwG_of (tb3 _ (List.mem_of_getElem? (i := 224) (by decide +kernel))) (by decide +kernel)
theorem cw_L_17 : CW RL 17 yX6_build cX6_build 3 (some .int) 1 := ⟨by decide +kernel, by decide +kernel, wc_X6_build, wi_X6, wm_L_17⟩
theorem wn_X6_build : Cond.instanceMethod yX6_build ∈ lwG := lwG_of (tb3 _ (List.mem_of_getElem? (i := 225) (by decide +kernel))) (by decide +kernel)
theorem ws_X6_build : Cond.selects RX6 yX6_build yX6_build ∈ lwG := lwG_of (tb3 _ (List.mem_of_getElem? (i := 226) (by decide +kernel))) (by decide +kernel)
theorem iv_X6_build : Cond.instanceMethod yX6_build ∈ lwG ∧ Cond.selects (fC 6) yX6_build yX6_build ∈ lwG ∧ 6 < 7 := ⟨wn_X6_build, ws_X6_build, by decide⟩
theorem wk_L_18 : Cond.constantLong RL 18 (4294967295) ∈ lwG := lwG_of (tb5 _ (List.mem_of_getElem? (i := 6) (by decide +kernel))) (by decide +kernel)
theorem wc_X5_setPressure : Cond.code yX5_setPressure cX5_setPressure 5 (some .int) ∈ lwG := lwG_of (tb2 _ (List.mem_of_getElem? (i := 81) (by decide +kernel))) (by decide +kernel)
theorem wm_L_20 : Cond.methodLink RL 20 yX5_setPressure ∈ lwG := lwG_of (tb2 _ (List.mem_of_getElem? (i := 78) (by decide +kernel))) (by decide +kernel)
theorem cw_L_20 : CW RL 20 yX5_setPressure cX5_setPressure 5 (some .int) 2 := ⟨by decide +kernel, by decide +kernel, wc_X5_setPressure, wi_X5, wm_L_20⟩
theorem wn_X5_setPressure : Cond.instanceMethod yX5_setPressure ∈ lwG := lwG_of (tb2 _ (List.mem_of_getElem? (i := 79) (by decide +kernel))) (by decide +kernel)
theorem ws_X5_setPressure : Cond.selects RX5 yX5_setPressure yX5_setPressure ∈ lwG := lwG_of (tb2 _ (List.mem_of_getElem? (i := 80) (by decide +kernel))) (by decide +kernel)
theorem iv_X5_setPressure : Cond.instanceMethod yX5_setPressure ∈ lwG ∧ Cond.selects (fC 5) yX5_setPressure yX5_setPressure ∈ lwG ∧ 5 < 7 := ⟨wn_X5_setPressure, ws_X5_setPressure, by decide⟩
theorem wc_X6_setPressure : Cond.code yX6_setPressure cX6_setPressure 7 (some .int) ∈ lwG := lwG_of (tb3 _ (List.mem_of_getElem? (i := 238) (by decide +kernel))) (by decide +kernel)
theorem wm_L_24 : Cond.methodLink RL 24 yX6_setPressure ∈ lwG := lwG_of (tb3 _ (List.mem_of_getElem? (i := 235) (by decide +kernel))) (by decide +kernel)
theorem cw_L_24 : CW RL 24 yX6_setPressure cX6_setPressure 7 (some .int) 2 := ⟨by decide +kernel, by decide +kernel, wc_X6_setPressure, wi_X6, wm_L_24⟩
theorem wn_X6_setPressure : Cond.instanceMethod yX6_setPressure ∈ lwG := lwG_of (tb3 _ (List.mem_of_getElem? (i := 236) (by decide +kernel))) (by decide +kernel)
theorem ws_X6_setPressure : Cond.selects RX6 yX6_setPressure yX6_setPressure ∈ lwG := lwG_of (tb3 _ (List.mem_of_getElem? (i := 237) (by decide +kernel))) (by decide +kernel)
theorem iv_X6_setPressure : Cond.instanceMethod yX6_setPressure ∈ lwG ∧ Cond.selects (fC 6) yX6_setPressure yX6_setPressure ∈ lwG ∧ 6 < 7 := ⟨wn_X6_setPressure, ws_X6_setPressure, by decide⟩
theorem wc_X5_setInterval : Cond.code yX5_setInterval cX5_setInterval 3 (some .int) ∈ lwG := lwG_of (tb2 _ (List.mem_of_getElem? (i := 93) (by decide +kernel))) (by decide +kernel)
theorem wm_L_25 : Cond.methodLink RL 25 yX5_setInterval ∈ lwG := lwG_of (tb2 _ (List.mem_of_getElem? (i := 90) (by decide +kernel))) (by decide +kernel)
theorem cw_L_25 : CW RL 25 yX5_setInterval cX5_setInterval 3 (some .int) 1 := ⟨by decide +kernel, by decide +kernel, wc_X5_setInterval, wi_X5, wm_L_25⟩
theorem wn_X5_setInterval : Cond.instanceMethod yX5_setInterval ∈ lwG := lwG_of (tb2 _ (List.mem_of_getElem? (i := 91) (by decide +kernel))) (by decide +kernel)
theorem ws_X5_setInterval : Cond.selects RX5 yX5_setInterval yX5_setInterval ∈ lwG := lwG_of (tb2 _ (List.mem_of_getElem? (i := 92) (by decide +kernel))) (by decide +kernel)
theorem iv_X5_setInterval : Cond.instanceMethod yX5_setInterval ∈ lwG ∧ Cond.selects (fC 5) yX5_setInterval yX5_setInterval ∈ lwG ∧ 5 < 7 := ⟨wn_X5_setInterval, ws_X5_setInterval, by decide⟩
theorem wc_X6_setInterval : Cond.code yX6_setInterval cX6_setInterval 3 (some .int) ∈ lwG := lwG_of (tb4 _ (List.mem_of_getElem? (i := 8) (by decide +kernel))) (by decide +kernel)
theorem wm_L_28 : Cond.methodLink RL 28 yX6_setInterval ∈ lwG := lwG_of (tb4 _ (List.mem_of_getElem? (i := 5) (by decide +kernel))) (by decide +kernel)
theorem cw_L_28 : CW RL 28 yX6_setInterval cX6_setInterval 3 (some .int) 1 := ⟨by decide +kernel, by decide +kernel, wc_X6_setInterval, wi_X6, wm_L_28⟩
theorem wn_X6_setInterval : Cond.instanceMethod yX6_setInterval ∈ lwG := lwG_of (tb4 _ (List.mem_of_getElem? (i := 6) (by decide +kernel))) (by decide +kernel)
theorem ws_X6_setInterval : Cond.selects RX6 yX6_setInterval yX6_setInterval ∈ lwG := lwG_of (tb4 _ (List.mem_of_getElem? (i := 7) (by decide +kernel))) (by decide +kernel)
theorem iv_X6_setInterval : Cond.instanceMethod yX6_setInterval ∈ lwG ∧ Cond.selects (fC 6) yX6_setInterval yX6_setInterval ∈ lwG ∧ 6 < 7 := ⟨wn_X6_setInterval, ws_X6_setInterval, by decide⟩
theorem wc_X5_equip : Cond.code yX5_equip cX5_equip 6 (some .int) ∈ lwG := lwG_of (tb2 _ (List.mem_of_getElem? (i := 97) (by decide +kernel))) (by decide +kernel)
theorem wm_L_29 : Cond.methodLink RL 29 yX5_equip ∈ lwG := lwG_of (tb2 _ (List.mem_of_getElem? (i := 94) (by decide +kernel))) (by decide +kernel)
theorem cw_L_29 : CW RL 29 yX5_equip cX5_equip 6 (some .int) 3 := ⟨by decide +kernel, by decide +kernel, wc_X5_equip, wi_X5, wm_L_29⟩
theorem wn_X5_equip : Cond.instanceMethod yX5_equip ∈ lwG := lwG_of (tb2 _ (List.mem_of_getElem? (i := 95) (by decide +kernel))) (by decide +kernel)
theorem ws_X5_equip : Cond.selects RX5 yX5_equip yX5_equip ∈ lwG := lwG_of (tb2 _ (List.mem_of_getElem? (i := 96) (by decide +kernel))) (by decide +kernel)
theorem iv_X5_equip : Cond.instanceMethod yX5_equip ∈ lwG ∧ Cond.selects (fC 5) yX5_equip yX5_equip ∈ lwG ∧ 5 < 7 := ⟨wn_X5_equip, ws_X5_equip, by decide⟩
theorem wc_X6_equip : Cond.code yX6_equip cX6_equip 5 (some .int) ∈ lwG := lwG_of (tb4 _ (List.mem_of_getElem? (i := 12) (by decide +kernel))) (by decide +kernel)
theorem wm_L_33 : Cond.methodLink RL 33 yX6_equip ∈ lwG := lwG_of (tb4 _ (List.mem_of_getElem? (i := 9) (by decide +kernel))) (by decide +kernel)
theorem cw_L_33 : CW RL 33 yX6_equip cX6_equip 5 (some .int) 3 := ⟨by decide +kernel, by decide +kernel, wc_X6_equip, wi_X6, wm_L_33⟩
theorem wn_X6_equip : Cond.instanceMethod yX6_equip ∈ lwG := lwG_of (tb4 _ (List.mem_of_getElem? (i := 10) (by decide +kernel))) (by decide +kernel)
theorem ws_X6_equip : Cond.selects RX6 yX6_equip yX6_equip ∈ lwG := lwG_of (tb4 _ (List.mem_of_getElem? (i := 11) (by decide +kernel))) (by decide +kernel)
theorem iv_X6_equip : Cond.instanceMethod yX6_equip ∈ lwG ∧ Cond.selects (fC 6) yX6_equip yX6_equip ∈ lwG ∧ 6 < 7 := ⟨wn_X6_equip, ws_X6_equip, by decide⟩
theorem wc_X5_calibrate : Cond.code yX5_calibrate cX5_calibrate 5 (some .int) ∈ lwG := lwG_of (tb2 _ (List.mem_of_getElem? (i := 105) (by decide +kernel))) (by decide +kernel)
theorem wm_L_34 : Cond.methodLink RL 34 yX5_calibrate ∈ lwG := lwG_of (tb2 _ (List.mem_of_getElem? (i := 102) (by decide +kernel))) (by decide +kernel)
theorem cw_L_34 : CW RL 34 yX5_calibrate cX5_calibrate 5 (some .int) 2 := ⟨by decide +kernel, by decide +kernel, wc_X5_calibrate, wi_X5, wm_L_34⟩
theorem wn_X5_calibrate : Cond.instanceMethod yX5_calibrate ∈ lwG := lwG_of (tb2 _ (List.mem_of_getElem? (i := 103) (by decide +kernel))) (by decide +kernel)
theorem ws_X5_calibrate : Cond.selects RX5 yX5_calibrate yX5_calibrate ∈ lwG := lwG_of (tb2 _ (List.mem_of_getElem? (i := 104) (by decide +kernel))) (by decide +kernel)
theorem iv_X5_calibrate : Cond.instanceMethod yX5_calibrate ∈ lwG ∧ Cond.selects (fC 5) yX5_calibrate yX5_calibrate ∈ lwG ∧ 5 < 7 := ⟨wn_X5_calibrate, ws_X5_calibrate, by decide⟩
theorem wc_X6_calibrate : Cond.code yX6_calibrate cX6_calibrate 9 (some .int) ∈ lwG := lwG_of (tb4 _ (List.mem_of_getElem? (i := 24) (by decide +kernel))) (by decide +kernel)
theorem wm_L_38 : Cond.methodLink RL 38 yX6_calibrate ∈ lwG := lwG_of (tb4 _ (List.mem_of_getElem? (i := 21) (by decide +kernel))) (by decide +kernel)
theorem cw_L_38 : CW RL 38 yX6_calibrate cX6_calibrate 9 (some .int) 2 := ⟨by decide +kernel, by decide +kernel, wc_X6_calibrate, wi_X6, wm_L_38⟩
theorem wn_X6_calibrate : Cond.instanceMethod yX6_calibrate ∈ lwG := lwG_of (tb4 _ (List.mem_of_getElem? (i := 22) (by decide +kernel))) (by decide +kernel)
theorem ws_X6_calibrate : Cond.selects RX6 yX6_calibrate yX6_calibrate ∈ lwG := lwG_of (tb4 _ (List.mem_of_getElem? (i := 23) (by decide +kernel))) (by decide +kernel)
theorem iv_X6_calibrate : Cond.instanceMethod yX6_calibrate ∈ lwG ∧ Cond.selects (fC 6) yX6_calibrate yX6_calibrate ∈ lwG ∧ 6 < 7 := ⟨wn_X6_calibrate, ws_X6_calibrate, by decide⟩
theorem wc_X5_add : Cond.code yX5_add cX5_add 4 (some .int) ∈ lwG := lwG_of (tb2 _ (List.mem_of_getElem? (i := 120) (by decide +kernel))) (by decide +kernel)
theorem wm_L_39 : Cond.methodLink RL 39 yX5_add ∈ lwG := lwG_of (tb2 _ (List.mem_of_getElem? (i := 117) (by decide +kernel))) (by decide +kernel)
theorem cw_L_39 : CW RL 39 yX5_add cX5_add 4 (some .int) 3 := ⟨by decide +kernel, by decide +kernel, wc_X5_add, wi_X5, wm_L_39⟩
theorem wn_X5_add : Cond.instanceMethod yX5_add ∈ lwG := lwG_of (tb2 _ (List.mem_of_getElem? (i := 118) (by decide +kernel))) (by decide +kernel)
theorem ws_X5_add : Cond.selects RX5 yX5_add yX5_add ∈ lwG := lwG_of (tb2 _ (List.mem_of_getElem? (i := 119) (by decide +kernel))) (by decide +kernel)
theorem iv_X5_add : Cond.instanceMethod yX5_add ∈ lwG ∧ Cond.selects (fC 5) yX5_add yX5_add ∈ lwG ∧ 5 < 7 := ⟨wn_X5_add, ws_X5_add, by decide⟩
theorem wc_X6_add : Cond.code yX6_add cX6_add 4 (some .int) ∈ lwG := lwG_of (tb4 _ (List.mem_of_getElem? (i := 43) (by decide +kernel))) (by decide +kernel)
theorem wm_L_43 : Cond.methodLink RL 43 yX6_add ∈ lwG := lwG_of (tb4 _ (List.mem_of_getElem? (i := 40) (by decide +kernel))) (by decide +kernel)
theorem cw_L_43 : CW RL 43 yX6_add cX6_add 4 (some .int) 3 := ⟨by decide +kernel, by decide +kernel, wc_X6_add, wi_X6, wm_L_43⟩
theorem wn_X6_add : Cond.instanceMethod yX6_add ∈ lwG := lwG_of (tb4 _ (List.mem_of_getElem? (i := 41) (by decide +kernel))) (by decide +kernel)
theorem ws_X6_add : Cond.selects RX6 yX6_add yX6_add ∈ lwG := lwG_of (tb4 _ (List.mem_of_getElem? (i := 42) (by decide +kernel))) (by decide +kernel)
theorem iv_X6_add : Cond.instanceMethod yX6_add ∈ lwG ∧ Cond.selects (fC 6) yX6_add yX6_add ∈ lwG ∧ 6 < 7 := ⟨wn_X6_add, ws_X6_add, by decide⟩
theorem wc_X5_run : Cond.code yX5_run cX5_run 2 (some .int) ∈ lwG := lwG_of (tb2 _ (List.mem_of_getElem? (i := 133) (by decide +kernel))) (by decide +kernel)
theorem wm_L_44 : Cond.methodLink RL 44 yX5_run ∈ lwG := lwG_of (tb2 _ (List.mem_of_getElem? (i := 130) (by decide +kernel))) (by decide +kernel)
theorem cw_L_44 : CW RL 44 yX5_run cX5_run 2 (some .int) 1 := ⟨by decide +kernel, by decide +kernel, wc_X5_run, wi_X5, wm_L_44⟩
theorem wn_X5_run : Cond.instanceMethod yX5_run ∈ lwG := lwG_of (tb2 _ (List.mem_of_getElem? (i := 131) (by decide +kernel))) (by decide +kernel)
theorem ws_X5_run : Cond.selects RX5 yX5_run yX5_run ∈ lwG := lwG_of (tb2 _ (List.mem_of_getElem? (i := 132) (by decide +kernel))) (by decide +kernel)
theorem iv_X5_run : Cond.instanceMethod yX5_run ∈ lwG ∧ Cond.selects (fC 5) yX5_run yX5_run ∈ lwG ∧ 5 < 7 := ⟨wn_X5_run, ws_X5_run, by decide⟩
theorem wc_X6_run : Cond.code yX6_run cX6_run 2 (some .int) ∈ lwG := lwG_of (tb4 _ (List.mem_of_getElem? (i := 59) (by decide +kernel))) (by decide +kernel)
theorem wm_L_47 : Cond.methodLink RL 47 yX6_run ∈ lwG := lwG_of (tb4 _ (List.mem_of_getElem? (i := 56) (by decide +kernel))) (by decide +kernel)
theorem cw_L_47 : CW RL 47 yX6_run cX6_run 2 (some .int) 1 := ⟨by decide +kernel, by decide +kernel, wc_X6_run, wi_X6, wm_L_47⟩
theorem wn_X6_run : Cond.instanceMethod yX6_run ∈ lwG := lwG_of (tb4 _ (List.mem_of_getElem? (i := 57) (by decide +kernel))) (by decide +kernel)
theorem ws_X6_run : Cond.selects RX6 yX6_run yX6_run ∈ lwG := lwG_of (tb4 _ (List.mem_of_getElem? (i := 58) (by decide +kernel))) (by decide +kernel)
theorem iv_X6_run : Cond.instanceMethod yX6_run ∈ lwG ∧ Cond.selects (fC 6) yX6_run yX6_run ∈ lwG ∧ 6 < 7 := ⟨wn_X6_run, ws_X6_run, by decide⟩
theorem wc_X5_type : Cond.code yX5_type cX5_type 2 (some .int) ∈ lwG := lwG_of (tb2 _ (List.mem_of_getElem? (i := 196) (by decide +kernel))) (by decide +kernel)
theorem wm_L_48 : Cond.methodLink RL 48 yX5_type ∈ lwG := lwG_of (tb2 _ (List.mem_of_getElem? (i := 193) (by decide +kernel))) (by decide +kernel)
theorem cw_L_48 : CW RL 48 yX5_type cX5_type 2 (some .int) 1 := ⟨by decide +kernel, by decide +kernel, wc_X5_type, wi_X5, wm_L_48⟩
theorem wn_X5_type : Cond.instanceMethod yX5_type ∈ lwG := lwG_of (tb2 _ (List.mem_of_getElem? (i := 194) (by decide +kernel))) (by decide +kernel)
theorem ws_X5_type : Cond.selects RX5 yX5_type yX5_type ∈ lwG := lwG_of (tb2 _ (List.mem_of_getElem? (i := 195) (by decide +kernel))) (by decide +kernel)
theorem iv_X5_type : Cond.instanceMethod yX5_type ∈ lwG ∧ Cond.selects (fC 5) yX5_type yX5_type ∈ lwG ∧ 5 < 7 := ⟨wn_X5_type, ws_X5_type, by decide⟩
theorem wc_X6_type : Cond.code yX6_type cX6_type 2 (some .int) ∈ lwG := lwG_of (tb4 _ (List.mem_of_getElem? (i := 116) (by decide +kernel))) (by decide +kernel)
theorem wm_L_52 : Cond.methodLink RL 52 yX6_type ∈ lwG := lwG_of (tb4 _ (List.mem_of_getElem? (i := 113) (by decide +kernel))) (by decide +kernel)
theorem cw_L_52 : CW RL 52 yX6_type cX6_type 2 (some .int) 1 := ⟨by decide +kernel, by decide +kernel, wc_X6_type, wi_X6, wm_L_52⟩
theorem wn_X6_type : Cond.instanceMethod yX6_type ∈ lwG := lwG_of (tb4 _ (List.mem_of_getElem? (i := 114) (by decide +kernel))) (by decide +kernel)
theorem ws_X6_type : Cond.selects RX6 yX6_type yX6_type ∈ lwG := lwG_of (tb4 _ (List.mem_of_getElem? (i := 115) (by decide +kernel))) (by decide +kernel)
theorem iv_X6_type : Cond.instanceMethod yX6_type ∈ lwG ∧ Cond.selects (fC 6) yX6_type yX6_type ∈ lwG ∧ 6 < 7 := ⟨wn_X6_type, ws_X6_type, by decide⟩
theorem wc_X5_clearText : Cond.code yX5_clearText cX5_clearText 2 (some .int) ∈ lwG := lwG_of (tb2 _ (List.mem_of_getElem? (i := 204) (by decide +kernel))) (by decide +kernel)
theorem wm_L_53 : Cond.methodLink RL 53 yX5_clearText ∈ lwG := lwG_of (tb2 _ (List.mem_of_getElem? (i := 201) (by decide +kernel))) (by decide +kernel)
theorem cw_L_53 : CW RL 53 yX5_clearText cX5_clearText 2 (some .int) 0 := ⟨by decide +kernel, by decide +kernel, wc_X5_clearText, wi_X5, wm_L_53⟩
theorem wn_X5_clearText : Cond.instanceMethod yX5_clearText ∈ lwG := lwG_of (tb2 _ (List.mem_of_getElem? (i := 202) (by decide +kernel))) (by decide +kernel)
theorem ws_X5_clearText : Cond.selects RX5 yX5_clearText yX5_clearText ∈ lwG := lwG_of (tb2 _ (List.mem_of_getElem? (i := 203) (by decide +kernel))) (by decide +kernel)
theorem iv_X5_clearText : Cond.instanceMethod yX5_clearText ∈ lwG ∧ Cond.selects (fC 5) yX5_clearText yX5_clearText ∈ lwG ∧ 5 < 7 := ⟨wn_X5_clearText, ws_X5_clearText, by decide⟩
theorem wc_X6_clearText : Cond.code yX6_clearText cX6_clearText 2 (some .int) ∈ lwG := lwG_of (tb4 _ (List.mem_of_getElem? (i := 120) (by decide +kernel))) (by decide +kernel)
theorem wm_L_57 : Cond.methodLink RL 57 yX6_clearText ∈ lwG := lwG_of (tb4 _ (List.mem_of_getElem? (i := 117) (by decide +kernel))) (by decide +kernel)
theorem cw_L_57 : CW RL 57 yX6_clearText cX6_clearText 2 (some .int) 0 := ⟨by decide +kernel, by decide +kernel, wc_X6_clearText, wi_X6, wm_L_57⟩
theorem wn_X6_clearText : Cond.instanceMethod yX6_clearText ∈ lwG := lwG_of (tb4 _ (List.mem_of_getElem? (i := 118) (by decide +kernel))) (by decide +kernel)
theorem ws_X6_clearText : Cond.selects RX6 yX6_clearText yX6_clearText ∈ lwG := lwG_of (tb4 _ (List.mem_of_getElem? (i := 119) (by decide +kernel))) (by decide +kernel)
theorem iv_X6_clearText : Cond.instanceMethod yX6_clearText ∈ lwG ∧ Cond.selects (fC 6) yX6_clearText yX6_clearText ∈ lwG ∧ 6 < 7 := ⟨wn_X6_clearText, ws_X6_clearText, by decide⟩
theorem wc_X5_readParts : Cond.code yX5_readParts cX5_readParts 3 (some .int) ∈ lwG := lwG_of (tb2 _ (List.mem_of_getElem? (i := 208) (by decide +kernel))) (by decide +kernel)
theorem wm_L_58 : Cond.methodLink RL 58 yX5_readParts ∈ lwG := lwG_of (tb2 _ (List.mem_of_getElem? (i := 205) (by decide +kernel))) (by decide +kernel)
theorem cw_L_58 : CW RL 58 yX5_readParts cX5_readParts 3 (some .int) 0 := ⟨by decide +kernel, by decide +kernel, wc_X5_readParts, wi_X5, wm_L_58⟩
theorem wn_X5_readParts : Cond.instanceMethod yX5_readParts ∈ lwG := lwG_of (tb2 _ (List.mem_of_getElem? (i := 206) (by decide +kernel))) (by decide +kernel)
theorem ws_X5_readParts : Cond.selects RX5 yX5_readParts yX5_readParts ∈ lwG := lwG_of (tb2 _ (List.mem_of_getElem? (i := 207) (by decide +kernel))) (by decide +kernel)
theorem iv_X5_readParts : Cond.instanceMethod yX5_readParts ∈ lwG ∧ Cond.selects (fC 5) yX5_readParts yX5_readParts ∈ lwG ∧ 5 < 7 := ⟨wn_X5_readParts, ws_X5_readParts, by decide⟩
theorem wc_X6_readParts : Cond.code yX6_readParts cX6_readParts 3 (some .int) ∈ lwG := lwG_of (tb4 _ (List.mem_of_getElem? (i := 124) (by decide +kernel))) (by decide +kernel)
theorem wm_L_61 : Cond.methodLink RL 61 yX6_readParts ∈ lwG := lwG_of (tb4 _ (List.mem_of_getElem? (i := 121) (by decide +kernel))) (by decide +kernel)
theorem cw_L_61 : CW RL 61 yX6_readParts cX6_readParts 3 (some .int) 0 := ⟨by decide +kernel, by decide +kernel, wc_X6_readParts, wi_X6, wm_L_61⟩
theorem wn_X6_readParts : Cond.instanceMethod yX6_readParts ∈ lwG := lwG_of (tb4 _ (List.mem_of_getElem? (i := 122) (by decide +kernel))) (by decide +kernel)
theorem ws_X6_readParts : Cond.selects RX6 yX6_readParts yX6_readParts ∈ lwG := lwG_of (tb4 _ (List.mem_of_getElem? (i := 123) (by decide +kernel))) (by decide +kernel)
theorem iv_X6_readParts : Cond.instanceMethod yX6_readParts ∈ lwG ∧ Cond.selects (fC 6) yX6_readParts yX6_readParts ∈ lwG ∧ 6 < 7 := ⟨wn_X6_readParts, ws_X6_readParts, by decide⟩
theorem wc_X5_perform : Cond.code yX5_perform cX5_perform 1 (some .int) ∈ lwG := lwG_of (tb3 _ (List.mem_of_getElem? (i := 9) (by decide +kernel))) (by decide +kernel)
theorem wm_L_62 : Cond.methodLink RL 62 yX5_perform ∈ lwG := lwG_of (tb3 _ (List.mem_of_getElem? (i := 6) (by decide +kernel))) (by decide +kernel)
theorem cw_L_62 : CW RL 62 yX5_perform cX5_perform 1 (some .int) 0 := ⟨by decide +kernel, by decide +kernel, wc_X5_perform, wi_X5, wm_L_62⟩
theorem wn_X5_perform : Cond.instanceMethod yX5_perform ∈ lwG := lwG_of (tb3 _ (List.mem_of_getElem? (i := 7) (by decide +kernel))) (by decide +kernel)
theorem ws_X5_perform : Cond.selects RX5 yX5_perform yX5_perform ∈ lwG := lwG_of (tb3 _ (List.mem_of_getElem? (i := 8) (by decide +kernel))) (by decide +kernel)
theorem iv_X5_perform : Cond.instanceMethod yX5_perform ∈ lwG ∧ Cond.selects (fC 5) yX5_perform yX5_perform ∈ lwG ∧ 5 < 7 := ⟨wn_X5_perform, ws_X5_perform, by decide⟩
theorem wc_X6_perform : Cond.code yX6_perform cX6_perform 1 (some .int) ∈ lwG := lwG_of (tb4 _ (List.mem_of_getElem? (i := 140) (by decide +kernel))) (by decide +kernel)
theorem wm_L_65 : Cond.methodLink RL 65 yX6_perform ∈ lwG := lwG_of (tb4 _ (List.mem_of_getElem? (i := 137) (by decide +kernel))) (by decide +kernel)
theorem cw_L_65 : CW RL 65 yX6_perform cX6_perform 1 (some .int) 0 := ⟨by decide +kernel, by decide +kernel, wc_X6_perform, wi_X6, wm_L_65⟩
theorem wn_X6_perform : Cond.instanceMethod yX6_perform ∈ lwG := lwG_of (tb4 _ (List.mem_of_getElem? (i := 138) (by decide +kernel))) (by decide +kernel)
theorem ws_X6_perform : Cond.selects RX6 yX6_perform yX6_perform ∈ lwG := lwG_of (tb4 _ (List.mem_of_getElem? (i := 139) (by decide +kernel))) (by decide +kernel)
theorem iv_X6_perform : Cond.instanceMethod yX6_perform ∈ lwG ∧ Cond.selects (fC 6) yX6_perform yX6_perform ∈ lwG ∧ 6 < 7 := ⟨wn_X6_perform, ws_X6_perform, by decide⟩
theorem wc_X5_undo : Cond.code yX5_undo cX5_undo 2 (some .int) ∈ lwG := lwG_of (tb3 _ (List.mem_of_getElem? (i := 87) (by decide +kernel))) (by decide +kernel)
theorem wm_L_66 : Cond.methodLink RL 66 yX5_undo ∈ lwG := lwG_of (tb3 _ (List.mem_of_getElem? (i := 84) (by decide +kernel))) (by decide +kernel)
theorem cw_L_66 : CW RL 66 yX5_undo cX5_undo 2 (some .int) 0 := ⟨by decide +kernel, by decide +kernel, wc_X5_undo, wi_X5, wm_L_66⟩
theorem wn_X5_undo : Cond.instanceMethod yX5_undo ∈ lwG := lwG_of (tb3 _ (List.mem_of_getElem? (i := 85) (by decide +kernel))) (by decide +kernel)
theorem ws_X5_undo : Cond.selects RX5 yX5_undo yX5_undo ∈ lwG := lwG_of (tb3 _ (List.mem_of_getElem? (i := 86) (by decide +kernel))) (by decide +kernel)
theorem iv_X5_undo : Cond.instanceMethod yX5_undo ∈ lwG ∧ Cond.selects (fC 5) yX5_undo yX5_undo ∈ lwG ∧ 5 < 7 := ⟨wn_X5_undo, ws_X5_undo, by decide⟩
theorem wc_X6_undo : Cond.code yX6_undo cX6_undo 2 (some .int) ∈ lwG := lwG_of (tb4 _ (List.mem_of_getElem? (i := 160) (by decide +kernel))) (by decide +kernel)
theorem wm_L_69 : Cond.methodLink RL 69 yX6_undo ∈ lwG := lwG_of (tb4 _ (List.mem_of_getElem? (i := 157) (by decide +kernel))) (by decide +kernel)
theorem cw_L_69 : CW RL 69 yX6_undo cX6_undo 2 (some .int) 0 := ⟨by decide +kernel, by decide +kernel, wc_X6_undo, wi_X6, wm_L_69⟩
theorem wn_X6_undo : Cond.instanceMethod yX6_undo ∈ lwG := lwG_of (tb4 _ (List.mem_of_getElem? (i := 158) (by decide +kernel))) (by decide +kernel)
theorem ws_X6_undo : Cond.selects RX6 yX6_undo yX6_undo ∈ lwG := lwG_of (tb4 _ (List.mem_of_getElem? (i := 159) (by decide +kernel))) (by decide +kernel)
theorem iv_X6_undo : Cond.instanceMethod yX6_undo ∈ lwG ∧ Cond.selects (fC 6) yX6_undo yX6_undo ∈ lwG ∧ 6 < 7 := ⟨wn_X6_undo, ws_X6_undo, by decide⟩
theorem wc_X5_keep : Cond.code yX5_keep cX5_keep 1 (some .int) ∈ lwG := lwG_of (tb3 _ (List.mem_of_getElem? (i := 91) (by decide +kernel))) (by decide +kernel)
theorem wm_L_70 : Cond.methodLink RL 70 yX5_keep ∈ lwG := lwG_of (tb3 _ (List.mem_of_getElem? (i := 88) (by decide +kernel))) (by decide +kernel)
theorem cw_L_70 : CW RL 70 yX5_keep cX5_keep 1 (some .int) 0 := ⟨by decide +kernel, by decide +kernel, wc_X5_keep, wi_X5, wm_L_70⟩
theorem wn_X5_keep : Cond.instanceMethod yX5_keep ∈ lwG := lwG_of (tb3 _ (List.mem_of_getElem? (i := 89) (by decide +kernel))) (by decide +kernel)
theorem ws_X5_keep : Cond.selects RX5 yX5_keep yX5_keep ∈ lwG := lwG_of (tb3 _ (List.mem_of_getElem? (i := 90) (by decide +kernel))) (by decide +kernel)
theorem iv_X5_keep : Cond.instanceMethod yX5_keep ∈ lwG ∧ Cond.selects (fC 5) yX5_keep yX5_keep ∈ lwG ∧ 5 < 7 := ⟨wn_X5_keep, ws_X5_keep, by decide⟩
theorem wc_X6_keep : Cond.code yX6_keep cX6_keep 2 (some .int) ∈ lwG := lwG_of (tb4 _ (List.mem_of_getElem? (i := 164) (by decide +kernel))) (by decide +kernel)
theorem wm_L_73 : Cond.methodLink RL 73 yX6_keep ∈ lwG := lwG_of (tb4 _ (List.mem_of_getElem? (i := 161) (by decide +kernel))) (by decide +kernel)
theorem cw_L_73 : CW RL 73 yX6_keep cX6_keep 2 (some .int) 0 := ⟨by decide +kernel, by decide +kernel, wc_X6_keep, wi_X6, wm_L_73⟩
theorem wn_X6_keep : Cond.instanceMethod yX6_keep ∈ lwG := lwG_of (tb4 _ (List.mem_of_getElem? (i := 162) (by decide +kernel))) (by decide +kernel)
theorem ws_X6_keep : Cond.selects RX6 yX6_keep yX6_keep ∈ lwG := lwG_of (tb4 _ (List.mem_of_getElem? (i := 163) (by decide +kernel))) (by decide +kernel)
theorem iv_X6_keep : Cond.instanceMethod yX6_keep ∈ lwG ∧ Cond.selects (fC 6) yX6_keep yX6_keep ∈ lwG ∧ 6 < 7 := ⟨wn_X6_keep, ws_X6_keep, by decide⟩
theorem wc_X5_restore : Cond.code yX5_restore cX5_restore 1 (some .int) ∈ lwG := lwG_of (tb3 _ (List.mem_of_getElem? (i := 95) (by decide +kernel))) (by decide +kernel)
theorem wm_L_74 : Cond.methodLink RL 74 yX5_restore ∈ lwG := lwG_of (tb3 _ (List.mem_of_getElem? (i := 92) (by decide +kernel))) (by decide +kernel)
theorem cw_L_74 : CW RL 74 yX5_restore cX5_restore 1 (some .int) 0 := ⟨by decide +kernel, by decide +kernel, wc_X5_restore, wi_X5, wm_L_74⟩
theorem wn_X5_restore : Cond.instanceMethod yX5_restore ∈ lwG := lwG_of (tb3 _ (List.mem_of_getElem? (i := 93) (by decide +kernel))) (by decide +kernel)
theorem ws_X5_restore : Cond.selects RX5 yX5_restore yX5_restore ∈ lwG := lwG_of (tb3 _ (List.mem_of_getElem? (i := 94) (by decide +kernel))) (by decide +kernel)
theorem iv_X5_restore : Cond.instanceMethod yX5_restore ∈ lwG ∧ Cond.selects (fC 5) yX5_restore yX5_restore ∈ lwG ∧ 5 < 7 := ⟨wn_X5_restore, ws_X5_restore, by decide⟩
theorem wc_X6_restore : Cond.code yX6_restore cX6_restore 2 (some .int) ∈ lwG := lwG_of (tb4 _ (List.mem_of_getElem? (i := 168) (by decide +kernel))) (by decide +kernel)
theorem wm_L_77 : Cond.methodLink RL 77 yX6_restore ∈ lwG := lwG_of (tb4 _ (List.mem_of_getElem? (i := 165) (by decide +kernel))) (by decide +kernel)
theorem cw_L_77 : CW RL 77 yX6_restore cX6_restore 2 (some .int) 0 := ⟨by decide +kernel, by decide +kernel, wc_X6_restore, wi_X6, wm_L_77⟩
theorem wn_X6_restore : Cond.instanceMethod yX6_restore ∈ lwG := lwG_of (tb4 _ (List.mem_of_getElem? (i := 166) (by decide +kernel))) (by decide +kernel)
theorem ws_X6_restore : Cond.selects RX6 yX6_restore yX6_restore ∈ lwG := lwG_of (tb4 _ (List.mem_of_getElem? (i := 167) (by decide +kernel))) (by decide +kernel)
theorem iv_X6_restore : Cond.instanceMethod yX6_restore ∈ lwG ∧ Cond.selects (fC 6) yX6_restore yX6_restore ∈ lwG ∧ 6 < 7 := ⟨wn_X6_restore, ws_X6_restore, by decide⟩
theorem wc_X5_head : Cond.code yX5_head cX5_head 4 (some .int) ∈ lwG := lwG_of (tb3 _ (List.mem_of_getElem? (i := 99) (by decide +kernel))) (by decide +kernel)
theorem wm_L_78 : Cond.methodLink RL 78 yX5_head ∈ lwG := lwG_of (tb3 _ (List.mem_of_getElem? (i := 96) (by decide +kernel))) (by decide +kernel)
theorem cw_L_78 : CW RL 78 yX5_head cX5_head 4 (some .int) 2 := ⟨by decide +kernel, by decide +kernel, wc_X5_head, wi_X5, wm_L_78⟩
theorem wn_X5_head : Cond.instanceMethod yX5_head ∈ lwG := lwG_of (tb3 _ (List.mem_of_getElem? (i := 97) (by decide +kernel))) (by decide +kernel)
theorem ws_X5_head : Cond.selects RX5 yX5_head yX5_head ∈ lwG := lwG_of (tb3 _ (List.mem_of_getElem? (i := 98) (by decide +kernel))) (by decide +kernel)
theorem iv_X5_head : Cond.instanceMethod yX5_head ∈ lwG ∧ Cond.selects (fC 5) yX5_head yX5_head ∈ lwG ∧ 5 < 7 := ⟨wn_X5_head, ws_X5_head, by decide⟩
theorem wc_X6_head : Cond.code yX6_head cX6_head 3 (some .int) ∈ lwG := lwG_of (tb4 _ (List.mem_of_getElem? (i := 172) (by decide +kernel))) (by decide +kernel)
theorem wm_L_81 : Cond.methodLink RL 81 yX6_head ∈ lwG := lwG_of (tb4 _ (List.mem_of_getElem? (i := 169) (by decide +kernel))) (by decide +kernel)
theorem cw_L_81 : CW RL 81 yX6_head cX6_head 3 (some .int) 2 := ⟨by decide +kernel, by decide +kernel, wc_X6_head, wi_X6, wm_L_81⟩
theorem wn_X6_head : Cond.instanceMethod yX6_head ∈ lwG := lwG_of (tb4 _ (List.mem_of_getElem? (i := 170) (by decide +kernel))) (by decide +kernel)
theorem ws_X6_head : Cond.selects RX6 yX6_head yX6_head ∈ lwG := lwG_of (tb4 _ (List.mem_of_getElem? (i := 171) (by decide +kernel))) (by decide +kernel)
theorem iv_X6_head : Cond.instanceMethod yX6_head ∈ lwG ∧ Cond.selects (fC 6) yX6_head yX6_head ∈ lwG ∧ 6 < 7 := ⟨wn_X6_head, ws_X6_head, by decide⟩
theorem wc_X5_gauge : Cond.code yX5_gauge cX5_gauge 4 (some .double) ∈ lwG := lwG_of (tb3 _ (List.mem_of_getElem? (i := 107) (by decide +kernel))) (by decide +kernel)
theorem wm_L_82 : Cond.methodLink RL 82 yX5_gauge ∈ lwG := lwG_of (tb3 _ (List.mem_of_getElem? (i := 104) (by decide +kernel))) (by decide +kernel)
theorem cw_L_82 : CW RL 82 yX5_gauge cX5_gauge 4 (some .double) 2 := ⟨by decide +kernel, by decide +kernel, wc_X5_gauge, wi_X5, wm_L_82⟩
theorem wn_X5_gauge : Cond.instanceMethod yX5_gauge ∈ lwG := lwG_of (tb3 _ (List.mem_of_getElem? (i := 105) (by decide +kernel))) (by decide +kernel)
theorem ws_X5_gauge : Cond.selects RX5 yX5_gauge yX5_gauge ∈ lwG := lwG_of (tb3 _ (List.mem_of_getElem? (i := 106) (by decide +kernel))) (by decide +kernel)
theorem iv_X5_gauge : Cond.instanceMethod yX5_gauge ∈ lwG ∧ Cond.selects (fC 5) yX5_gauge yX5_gauge ∈ lwG ∧ 5 < 7 := ⟨wn_X5_gauge, ws_X5_gauge, by decide⟩
theorem wc_X6_gauge : Cond.code yX6_gauge cX6_gauge 3 (some .double) ∈ lwG := lwG_of (tb4 _ (List.mem_of_getElem? (i := 176) (by decide +kernel))) (by decide +kernel)
theorem wm_L_86 : Cond.methodLink RL 86 yX6_gauge ∈ lwG := lwG_of (tb4 _ (List.mem_of_getElem? (i := 173) (by decide +kernel))) (by decide +kernel)
theorem cw_L_86 : CW RL 86 yX6_gauge cX6_gauge 3 (some .double) 2 := ⟨by decide +kernel, by decide +kernel, wc_X6_gauge, wi_X6, wm_L_86⟩
theorem wn_X6_gauge : Cond.instanceMethod yX6_gauge ∈ lwG := lwG_of (tb4 _ (List.mem_of_getElem? (i := 174) (by decide +kernel))) (by decide +kernel)
theorem ws_X6_gauge : Cond.selects RX6 yX6_gauge yX6_gauge ∈ lwG := lwG_of (tb4 _ (List.mem_of_getElem? (i := 175) (by decide +kernel))) (by decide +kernel)
theorem iv_X6_gauge : Cond.instanceMethod yX6_gauge ∈ lwG ∧ Cond.selects (fC 6) yX6_gauge yX6_gauge ∈ lwG ∧ 6 < 7 := ⟨wn_X6_gauge, ws_X6_gauge, by decide⟩
theorem wc_X5_display : Cond.code yX5_display cX5_display 3 (some .int) ∈ lwG := lwG_of (tb3 _ (List.mem_of_getElem? (i := 115) (by decide +kernel))) (by decide +kernel)
theorem wm_L_87 : Cond.methodLink RL 87 yX5_display ∈ lwG := lwG_of (tb3 _ (List.mem_of_getElem? (i := 112) (by decide +kernel))) (by decide +kernel)
theorem cw_L_87 : CW RL 87 yX5_display cX5_display 3 (some .int) 1 := ⟨by decide +kernel, by decide +kernel, wc_X5_display, wi_X5, wm_L_87⟩
theorem wn_X5_display : Cond.instanceMethod yX5_display ∈ lwG := lwG_of (tb3 _ (List.mem_of_getElem? (i := 113) (by decide +kernel))) (by decide +kernel)
theorem ws_X5_display : Cond.selects RX5 yX5_display yX5_display ∈ lwG := lwG_of (tb3 _ (List.mem_of_getElem? (i := 114) (by decide +kernel))) (by decide +kernel)
theorem iv_X5_display : Cond.instanceMethod yX5_display ∈ lwG ∧ Cond.selects (fC 5) yX5_display yX5_display ∈ lwG ∧ 5 < 7 := ⟨wn_X5_display, ws_X5_display, by decide⟩
theorem wc_X6_display : Cond.code yX6_display cX6_display 2 (some .int) ∈ lwG := lwG_of (tb4 _ (List.mem_of_getElem? (i := 184) (by decide +kernel))) (by decide +kernel)
theorem wm_L_90 : Cond.methodLink RL 90 yX6_display ∈ lwG := lwG_of (tb4 _ (List.mem_of_getElem? (i := 181) (by decide +kernel))) (by decide +kernel)
theorem cw_L_90 : CW RL 90 yX6_display cX6_display 2 (some .int) 1 := ⟨by decide +kernel, by decide +kernel, wc_X6_display, wi_X6, wm_L_90⟩
theorem wn_X6_display : Cond.instanceMethod yX6_display ∈ lwG := lwG_of (tb4 _ (List.mem_of_getElem? (i := 182) (by decide +kernel))) (by decide +kernel)
theorem ws_X6_display : Cond.selects RX6 yX6_display yX6_display ∈ lwG := lwG_of (tb4 _ (List.mem_of_getElem? (i := 183) (by decide +kernel))) (by decide +kernel)
theorem iv_X6_display : Cond.instanceMethod yX6_display ∈ lwG ∧ Cond.selects (fC 6) yX6_display yX6_display ∈ lwG ∧ 6 < 7 := ⟨wn_X6_display, ws_X6_display, by decide⟩
theorem wc_X5_part : Cond.code yX5_part cX5_part 4 (some .int) ∈ lwG := lwG_of (tb3 _ (List.mem_of_getElem? (i := 124) (by decide +kernel))) (by decide +kernel)
theorem wm_L_91 : Cond.methodLink RL 91 yX5_part ∈ lwG := lwG_of (tb3 _ (List.mem_of_getElem? (i := 121) (by decide +kernel))) (by decide +kernel)
theorem cw_L_91 : CW RL 91 yX5_part cX5_part 4 (some .int) 2 := ⟨by decide +kernel, by decide +kernel, wc_X5_part, wi_X5, wm_L_91⟩
theorem wn_X5_part : Cond.instanceMethod yX5_part ∈ lwG := lwG_of (tb3 _ (List.mem_of_getElem? (i := 122) (by decide +kernel))) (by decide +kernel)
theorem ws_X5_part : Cond.selects RX5 yX5_part yX5_part ∈ lwG := lwG_of (tb3 _ (List.mem_of_getElem? (i := 123) (by decide +kernel))) (by decide +kernel)
theorem iv_X5_part : Cond.instanceMethod yX5_part ∈ lwG ∧ Cond.selects (fC 5) yX5_part yX5_part ∈ lwG ∧ 5 < 7 := ⟨wn_X5_part, ws_X5_part, by decide⟩
theorem wc_X6_part : Cond.code yX6_part cX6_part 3 (some .int) ∈ lwG := lwG_of (tb4 _ (List.mem_of_getElem? (i := 198) (by decide +kernel))) (by decide +kernel)
theorem wm_L_94 : Cond.methodLink RL 94 yX6_part ∈ lwG := lwG_of (tb4 _ (List.mem_of_getElem? (i := 195) (by decide +kernel))) (by decide +kernel)
theorem cw_L_94 : CW RL 94 yX6_part cX6_part 3 (some .int) 2 := ⟨by decide +kernel, by decide +kernel, wc_X6_part, wi_X6, wm_L_94⟩
theorem wn_X6_part : Cond.instanceMethod yX6_part ∈ lwG := lwG_of (tb4 _ (List.mem_of_getElem? (i := 196) (by decide +kernel))) (by decide +kernel)
theorem ws_X6_part : Cond.selects RX6 yX6_part yX6_part ∈ lwG := lwG_of (tb4 _ (List.mem_of_getElem? (i := 197) (by decide +kernel))) (by decide +kernel)
theorem iv_X6_part : Cond.instanceMethod yX6_part ∈ lwG ∧ Cond.selects (fC 6) yX6_part yX6_part ∈ lwG ∧ 6 < 7 := ⟨wn_X6_part, ws_X6_part, by decide⟩
theorem wc_X5_fits : Cond.code yX5_fits cX5_fits 5 (some .int) ∈ lwG := lwG_of (tb3 _ (List.mem_of_getElem? (i := 129) (by decide +kernel))) (by decide +kernel)
theorem wm_L_95 : Cond.methodLink RL 95 yX5_fits ∈ lwG := lwG_of (tb3 _ (List.mem_of_getElem? (i := 126) (by decide +kernel))) (by decide +kernel)
theorem cw_L_95 : CW RL 95 yX5_fits cX5_fits 5 (some .int) 2 := ⟨by decide +kernel, by decide +kernel, wc_X5_fits, wi_X5, wm_L_95⟩
theorem wn_X5_fits : Cond.instanceMethod yX5_fits ∈ lwG := lwG_of (tb3 _ (List.mem_of_getElem? (i := 127) (by decide +kernel))) (by decide +kernel)
theorem ws_X5_fits : Cond.selects RX5 yX5_fits yX5_fits ∈ lwG := lwG_of (tb3 _ (List.mem_of_getElem? (i := 128) (by decide +kernel))) (by decide +kernel)
theorem iv_X5_fits : Cond.instanceMethod yX5_fits ∈ lwG ∧ Cond.selects (fC 5) yX5_fits yX5_fits ∈ lwG ∧ 5 < 7 := ⟨wn_X5_fits, ws_X5_fits, by decide⟩
theorem wc_X6_fits : Cond.code yX6_fits cX6_fits 3 (some .int) ∈ lwG := lwG_of (tb4 _ (List.mem_of_getElem? (i := 210) (by decide +kernel))) (by decide +kernel)
theorem wm_L_98 : Cond.methodLink RL 98 yX6_fits ∈ lwG := lwG_of (tb4 _ (List.mem_of_getElem? (i := 207) (by decide +kernel))) (by decide +kernel)
theorem cw_L_98 : CW RL 98 yX6_fits cX6_fits 3 (some .int) 2 := ⟨by decide +kernel, by decide +kernel, wc_X6_fits, wi_X6, wm_L_98⟩
theorem wn_X6_fits : Cond.instanceMethod yX6_fits ∈ lwG := lwG_of (tb4 _ (List.mem_of_getElem? (i := 208) (by decide +kernel))) (by decide +kernel)
theorem ws_X6_fits : Cond.selects RX6 yX6_fits yX6_fits ∈ lwG := lwG_of (tb4 _ (List.mem_of_getElem? (i := 209) (by decide +kernel))) (by decide +kernel)
theorem iv_X6_fits : Cond.instanceMethod yX6_fits ∈ lwG ∧ Cond.selects (fC 6) yX6_fits yX6_fits ∈ lwG ∧ 6 < 7 := ⟨wn_X6_fits, ws_X6_fits, by decide⟩
theorem wc_X5_value : Cond.code yX5_value cX5_value 3 (some .double) ∈ lwG := lwG_of (tb3 _ (List.mem_of_getElem? (i := 134) (by decide +kernel))) (by decide +kernel)
theorem wm_L_99 : Cond.methodLink RL 99 yX5_value ∈ lwG := lwG_of (tb3 _ (List.mem_of_getElem? (i := 131) (by decide +kernel))) (by decide +kernel)
theorem cw_L_99 : CW RL 99 yX5_value cX5_value 3 (some .double) 1 := ⟨by decide +kernel, by decide +kernel, wc_X5_value, wi_X5, wm_L_99⟩
theorem wn_X5_value : Cond.instanceMethod yX5_value ∈ lwG := lwG_of (tb3 _ (List.mem_of_getElem? (i := 132) (by decide +kernel))) (by decide +kernel)
theorem ws_X5_value : Cond.selects RX5 yX5_value yX5_value ∈ lwG := lwG_of (tb3 _ (List.mem_of_getElem? (i := 133) (by decide +kernel))) (by decide +kernel)
theorem iv_X5_value : Cond.instanceMethod yX5_value ∈ lwG ∧ Cond.selects (fC 5) yX5_value yX5_value ∈ lwG ∧ 5 < 7 := ⟨wn_X5_value, ws_X5_value, by decide⟩
theorem wc_X6_value : Cond.code yX6_value cX6_value 2 (some .double) ∈ lwG := lwG_of (tb4 _ (List.mem_of_getElem? (i := 214) (by decide +kernel))) (by decide +kernel)
theorem wm_L_103 : Cond.methodLink RL 103 yX6_value ∈ lwG := lwG_of (tb4 _ (List.mem_of_getElem? (i := 211) (by decide +kernel))) (by decide +kernel)
theorem cw_L_103 : CW RL 103 yX6_value cX6_value 2 (some .double) 1 := ⟨by decide +kernel, by decide +kernel, wc_X6_value, wi_X6, wm_L_103⟩
theorem wn_X6_value : Cond.instanceMethod yX6_value ∈ lwG := lwG_of (tb4 _ (List.mem_of_getElem? (i := 212) (by decide +kernel))) (by decide +kernel)
theorem ws_X6_value : Cond.selects RX6 yX6_value yX6_value ∈ lwG := lwG_of (tb4 _ (List.mem_of_getElem? (i := 213) (by decide +kernel))) (by decide +kernel)
theorem iv_X6_value : Cond.instanceMethod yX6_value ∈ lwG ∧ Cond.selects (fC 6) yX6_value yX6_value ∈ lwG ∧ 6 < 7 := ⟨wn_X6_value, ws_X6_value, by decide⟩
theorem wc_X5_foretold : Cond.code yX5_foretold cX5_foretold 5 (some .double) ∈ lwG := lwG_of (tb3 _ (List.mem_of_getElem? (i := 138) (by decide +kernel))) (by decide +kernel)
theorem wm_L_104 : Cond.methodLink RL 104 yX5_foretold ∈ lwG := lwG_of (tb3 _ (List.mem_of_getElem? (i := 135) (by decide +kernel))) (by decide +kernel)
theorem cw_L_104 : CW RL 104 yX5_foretold cX5_foretold 5 (some .double) 2 := ⟨by decide +kernel, by decide +kernel, wc_X5_foretold, wi_X5, wm_L_104⟩
theorem wn_X5_foretold : Cond.instanceMethod yX5_foretold ∈ lwG := lwG_of (tb3 _ (List.mem_of_getElem? (i := 136) (by decide +kernel))) (by decide +kernel)
theorem ws_X5_foretold : Cond.selects RX5 yX5_foretold yX5_foretold ∈ lwG := lwG_of (tb3 _ (List.mem_of_getElem? (i := 137) (by decide +kernel))) (by decide +kernel)
theorem iv_X5_foretold : Cond.instanceMethod yX5_foretold ∈ lwG ∧ Cond.selects (fC 5) yX5_foretold yX5_foretold ∈ lwG ∧ 5 < 7 := ⟨wn_X5_foretold, ws_X5_foretold, by decide⟩
theorem wc_X6_foretold : Cond.code yX6_foretold cX6_foretold 10 (some .double) ∈ lwG := lwG_of (tb4 _ (List.mem_of_getElem? (i := 218) (by decide +kernel))) (by decide +kernel)
theorem wm_L_107 : Cond.methodLink RL 107 yX6_foretold ∈ lwG := lwG_of (tb4 _ (List.mem_of_getElem? (i := 215) (by decide +kernel))) (by decide +kernel)
theorem cw_L_107 : CW RL 107 yX6_foretold cX6_foretold 10 (some .double) 2 := ⟨by decide +kernel, by decide +kernel, wc_X6_foretold, wi_X6, wm_L_107⟩
theorem wn_X6_foretold : Cond.instanceMethod yX6_foretold ∈ lwG := lwG_of (tb4 _ (List.mem_of_getElem? (i := 216) (by decide +kernel))) (by decide +kernel)
theorem ws_X6_foretold : Cond.selects RX6 yX6_foretold yX6_foretold ∈ lwG := lwG_of (tb4 _ (List.mem_of_getElem? (i := 217) (by decide +kernel))) (by decide +kernel)
theorem iv_X6_foretold : Cond.instanceMethod yX6_foretold ∈ lwG ∧ Cond.selects (fC 6) yX6_foretold yX6_foretold ∈ lwG ∧ 6 < 7 := ⟨wn_X6_foretold, ws_X6_foretold, by decide⟩
theorem wc_X5_pressureBits : Cond.code yX5_pressureBits cX5_pressureBits 3 (some .long) ∈ lwG := lwG_of (tb3 _ (List.mem_of_getElem? (i := 146) (by decide +kernel))) (by decide +kernel)
theorem wm_L_108 : Cond.methodLink RL 108 yX5_pressureBits ∈ lwG := lwG_of (tb3 _ (List.mem_of_getElem? (i := 143) (by decide +kernel))) (by decide +kernel)
theorem cw_L_108 : CW RL 108 yX5_pressureBits cX5_pressureBits 3 (some .long) 1 := ⟨by decide +kernel, by decide +kernel, wc_X5_pressureBits, wi_X5, wm_L_108⟩
theorem wn_X5_pressureBits : Cond.instanceMethod yX5_pressureBits ∈ lwG := lwG_of (tb3 _ (List.mem_of_getElem? (i := 144) (by decide +kernel))) (by decide +kernel)
theorem ws_X5_pressureBits : Cond.selects RX5 yX5_pressureBits yX5_pressureBits ∈ lwG := lwG_of (tb3 _ (List.mem_of_getElem? (i := 145) (by decide +kernel))) (by decide +kernel)
theorem iv_X5_pressureBits : Cond.instanceMethod yX5_pressureBits ∈ lwG ∧ Cond.selects (fC 5) yX5_pressureBits yX5_pressureBits ∈ lwG ∧ 5 < 7 := ⟨wn_X5_pressureBits, ws_X5_pressureBits, by decide⟩
theorem wc_X6_pressureBits : Cond.code yX6_pressureBits cX6_pressureBits 2 (some .long) ∈ lwG := lwG_of (tb4 _ (List.mem_of_getElem? (i := 222) (by decide +kernel))) (by decide +kernel)
theorem wm_L_112 : Cond.methodLink RL 112 yX6_pressureBits ∈ lwG := lwG_of (tb4 _ (List.mem_of_getElem? (i := 219) (by decide +kernel))) (by decide +kernel)
theorem cw_L_112 : CW RL 112 yX6_pressureBits cX6_pressureBits 2 (some .long) 1 := ⟨by decide +kernel, by decide +kernel, wc_X6_pressureBits, wi_X6, wm_L_112⟩
theorem wn_X6_pressureBits : Cond.instanceMethod yX6_pressureBits ∈ lwG := lwG_of (tb4 _ (List.mem_of_getElem? (i := 220) (by decide +kernel))) (by decide +kernel)
theorem ws_X6_pressureBits : Cond.selects RX6 yX6_pressureBits yX6_pressureBits ∈ lwG := lwG_of (tb4 _ (List.mem_of_getElem? (i := 221) (by decide +kernel))) (by decide +kernel)
theorem iv_X6_pressureBits : Cond.instanceMethod yX6_pressureBits ∈ lwG ∧ Cond.selects (fC 6) yX6_pressureBits yX6_pressureBits ∈ lwG ∧ 6 < 7 := ⟨wn_X6_pressureBits, ws_X6_pressureBits, by decide⟩
theorem wc_X5_trace : Cond.code yX5_trace cX5_trace 5 (some .double) ∈ lwG := lwG_of (tb3 _ (List.mem_of_getElem? (i := 151) (by decide +kernel))) (by decide +kernel)
theorem wm_L_113 : Cond.methodLink RL 113 yX5_trace ∈ lwG := lwG_of (tb3 _ (List.mem_of_getElem? (i := 148) (by decide +kernel))) (by decide +kernel)
theorem cw_L_113 : CW RL 113 yX5_trace cX5_trace 5 (some .double) 2 := ⟨by decide +kernel, by decide +kernel, wc_X5_trace, wi_X5, wm_L_113⟩
theorem wn_X5_trace : Cond.instanceMethod yX5_trace ∈ lwG := lwG_of (tb3 _ (List.mem_of_getElem? (i := 149) (by decide +kernel))) (by decide +kernel)
theorem ws_X5_trace : Cond.selects RX5 yX5_trace yX5_trace ∈ lwG := lwG_of (tb3 _ (List.mem_of_getElem? (i := 150) (by decide +kernel))) (by decide +kernel)
theorem iv_X5_trace : Cond.instanceMethod yX5_trace ∈ lwG ∧ Cond.selects (fC 5) yX5_trace yX5_trace ∈ lwG ∧ 5 < 7 := ⟨wn_X5_trace, ws_X5_trace, by decide⟩
theorem wc_X6_trace : Cond.code yX6_trace cX6_trace 3 (some .double) ∈ lwG := lwG_of (tb4 _ (List.mem_of_getElem? (i := 237) (by decide +kernel))) (by decide +kernel)
theorem wm_L_116 : Cond.methodLink RL 116 yX6_trace ∈ lwG := lwG_of (tb4 _ (List.mem_of_getElem? (i := 234) (by decide +kernel))) (by decide +kernel)
theorem cw_L_116 : CW RL 116 yX6_trace cX6_trace 3 (some .double) 2 := ⟨by decide +kernel, by decide +kernel, wc_X6_trace, wi_X6, wm_L_116⟩
theorem wn_X6_trace : Cond.instanceMethod yX6_trace ∈ lwG := lwG_of (tb4 _ (List.mem_of_getElem? (i := 235) (by decide +kernel))) (by decide +kernel)
theorem ws_X6_trace : Cond.selects RX6 yX6_trace yX6_trace ∈ lwG := lwG_of (tb4 _ (List.mem_of_getElem? (i := 236) (by decide +kernel))) (by decide +kernel)
theorem iv_X6_trace : Cond.instanceMethod yX6_trace ∈ lwG ∧ Cond.selects (fC 6) yX6_trace yX6_trace ∈ lwG ∧ 6 < 7 := ⟨wn_X6_trace, ws_X6_trace, by decide⟩
theorem wc_X5_count : Cond.code yX5_count cX5_count 2 (some .int) ∈ lwG := lwG_of (tb3 _ (List.mem_of_getElem? (i := 156) (by decide +kernel))) (by decide +kernel)
theorem wm_L_117 : Cond.methodLink RL 117 yX5_count ∈ lwG := lwG_of (tb3 _ (List.mem_of_getElem? (i := 153) (by decide +kernel))) (by decide +kernel)
theorem cw_L_117 : CW RL 117 yX5_count cX5_count 2 (some .int) 1 := ⟨by decide +kernel, by decide +kernel, wc_X5_count, wi_X5, wm_L_117⟩
theorem wn_X5_count : Cond.instanceMethod yX5_count ∈ lwG := lwG_of (tb3 _ (List.mem_of_getElem? (i := 154) (by decide +kernel))) (by decide +kernel)
theorem ws_X5_count : Cond.selects RX5 yX5_count yX5_count ∈ lwG := lwG_of (tb3 _ (List.mem_of_getElem? (i := 155) (by decide +kernel))) (by decide +kernel)
theorem iv_X5_count : Cond.instanceMethod yX5_count ∈ lwG ∧ Cond.selects (fC 5) yX5_count yX5_count ∈ lwG ∧ 5 < 7 := ⟨wn_X5_count, ws_X5_count, by decide⟩
theorem wc_X6_count : Cond.code yX6_count cX6_count 2 (some .int) ∈ lwG := lwG_of (tb5 _ (List.mem_of_getElem? (i := 1) (by decide +kernel))) (by decide +kernel)
theorem wm_L_120 : Cond.methodLink RL 120 yX6_count ∈ lwG := lwG_of (tb4 _ (List.mem_of_getElem? (i := 238) (by decide +kernel))) (by decide +kernel)
theorem cw_L_120 : CW RL 120 yX6_count cX6_count 2 (some .int) 1 := ⟨by decide +kernel, by decide +kernel, wc_X6_count, wi_X6, wm_L_120⟩
theorem wn_X6_count : Cond.instanceMethod yX6_count ∈ lwG := lwG_of (tb4 _ (List.mem_of_getElem? (i := 239) (by decide +kernel))) (by decide +kernel)
theorem ws_X6_count : Cond.selects RX6 yX6_count yX6_count ∈ lwG := lwG_of (tb5 _ (List.mem_of_getElem? (i := 0) (by decide +kernel))) (by decide +kernel)
theorem iv_X6_count : Cond.instanceMethod yX6_count ∈ lwG ∧ Cond.selects (fC 6) yX6_count yX6_count ∈ lwG ∧ 6 < 7 := ⟨wn_X6_count, ws_X6_count, by decide⟩
theorem wl_L_7 : Cond.classLink RL 7 RX5 ∈ lwG := lwG_of (tb1 _ (List.mem_of_getElem? (i := 14) (by decide +kernel))) (by decide +kernel)
theorem wx_X5 : Cond.instantiable RX5 6 ∈ lwG := lwG_of (tb1 _ (List.mem_of_getElem? (i := 15) (by decide +kernel))) (by decide +kernel)
theorem wc_X5_init : Cond.code yX5_init cX5_init 2 none ∈ lwG := lwG_of (tb1 _ (List.mem_of_getElem? (i := 18) (by decide +kernel))) (by decide +kernel)
theorem wm_L_9 : Cond.methodLink RL 9 yX5_init ∈ lwG := lwG_of (tb1 _ (List.mem_of_getElem? (i := 16) (by decide +kernel))) (by decide +kernel)
theorem cw_L_9 : CW RL 9 yX5_init cX5_init 2 none 0 := ⟨by decide +kernel, by decide +kernel, wc_X5_init, wi_X5, wm_L_9⟩
theorem wn_X5_init : Cond.instanceMethod yX5_init ∈ lwG := lwG_of (tb1 _ (List.mem_of_getElem? (i := 17) (by decide +kernel))) (by decide +kernel)
theorem wl_L_10 : Cond.classLink RL 10 RX6 ∈ lwG := lwG_of (tb3 _ (List.mem_of_getElem? (i := 169) (by decide +kernel))) (by decide +kernel)
theorem wx_X6 : Cond.instantiable RX6 13 ∈ lwG := lwG_of (tb3 _ (List.mem_of_getElem? (i := 170) (by decide +kernel))) (by decide +kernel)
theorem wc_X6_init : Cond.code yX6_init cX6_init 1 none ∈ lwG := lwG_of (tb3 _ (List.mem_of_getElem? (i := 173) (by decide +kernel))) (by decide +kernel)
theorem wm_L_12 : Cond.methodLink RL 12 yX6_init ∈ lwG := lwG_of (tb3 _ (List.mem_of_getElem? (i := 171) (by decide +kernel))) (by decide +kernel)
theorem cw_L_12 : CW RL 12 yX6_init cX6_init 1 none 0 := ⟨by decide +kernel, by decide +kernel, wc_X6_init, wi_X6, wm_L_12⟩
theorem wn_X6_init : Cond.instanceMethod yX6_init ∈ lwG := lwG_of (tb3 _ (List.mem_of_getElem? (i := 172) (by decide +kernel))) (by decide +kernel)
theorem dL_law_0 : decode cL_law 0 = .ok (.new 7, 3) := by decide +kernel
theorem dL_law_3 : decode cL_law 3 = .ok (.dup, 1) := by decide +kernel
theorem dL_law_4 : decode cL_law 4 = .ok (.invokespecial 9, 3) := by decide +kernel
theorem dL_law_7 : decode cL_law 7 = .ok (.astore_n 1, 1) := by decide +kernel
theorem dL_law_8 : decode cL_law 8 = .ok (.new 10, 3) := by decide +kernel
theorem dL_law_11 : decode cL_law 11 = .ok (.dup, 1) := by decide +kernel
theorem dL_law_12 : decode cL_law 12 = .ok (.invokespecial 12, 3) := by decide +kernel
theorem dL_law_15 : decode cL_law 15 = .ok (.astore_n 2, 1) := by decide +kernel
theorem dL_law_16 : decode cL_law 16 = .ok (.iconst 0, 1) := by decide +kernel
theorem dL_law_17 : decode cL_law 17 = .ok (.istore_n 3, 1) := by decide +kernel
theorem dL_law_18 : decode cL_law 18 = .ok (.iload_n 3, 1) := by decide +kernel
theorem dL_law_19 : decode cL_law 19 = .ok (.aload_n 0, 1) := by decide +kernel
theorem dL_law_20 : decode cL_law 20 = .ok (.arraylength, 1) := by decide +kernel
theorem dL_law_21 : decode cL_law 21 = .ok (.iconst 4, 1) := by decide +kernel
theorem dL_law_22 : decode cL_law 22 = .ok (.isub, 1) := by decide +kernel
theorem dL_law_23 : decode cL_law 23 = .ok (.if_icmp .gt 900, 3) := by decide +kernel
theorem dL_law_26 : decode cL_law 26 = .ok (.aload_n 0, 1) := by decide +kernel
theorem dL_law_27 : decode cL_law 27 = .ok (.iload_n 3, 1) := by decide +kernel
theorem dL_law_28 : decode cL_law 28 = .ok (.iaload, 1) := by decide +kernel
theorem dL_law_29 : decode cL_law 29 = .ok (.bipush 31, 2) := by decide +kernel
theorem dL_law_31 : decode cL_law 31 = .ok (.iand, 1) := by decide +kernel
theorem dL_law_32 : decode cL_law 32 = .ok (.tableswitch 885 0 23 #[112, 135, 198, 221, 264, 297, 356, 379, 404, 417, 430, 443, 456, 469, 482, 515, 576, 599, 632, 665, 716, 777, 801, 862], 112) := by decide +kernel
theorem dL_law_144 : decode cL_law 144 = .ok (.aload_n 1, 1) := by decide +kernel
theorem dL_law_145 : decode cL_law 145 = .ok (.aload_n 0, 1) := by decide +kernel
theorem dL_law_146 : decode cL_law 146 = .ok (.iload_n 3, 1) := by decide +kernel
theorem dL_law_147 : decode cL_law 147 = .ok (.iconst 1, 1) := by decide +kernel
theorem dL_law_148 : decode cL_law 148 = .ok (.iadd, 1) := by decide +kernel
theorem dL_law_149 : decode cL_law 149 = .ok (.iaload, 1) := by decide +kernel
theorem dL_law_150 : decode cL_law 150 = .ok (.invokevirtual 13, 3) := by decide +kernel
theorem dL_law_153 : decode cL_law 153 = .ok (.aload_n 2, 1) := by decide +kernel
theorem dL_law_154 : decode cL_law 154 = .ok (.aload_n 0, 1) := by decide +kernel
theorem dL_law_155 : decode cL_law 155 = .ok (.iload_n 3, 1) := by decide +kernel
theorem dL_law_156 : decode cL_law 156 = .ok (.iconst 1, 1) := by decide +kernel
theorem dL_law_157 : decode cL_law 157 = .ok (.iadd, 1) := by decide +kernel
theorem dL_law_158 : decode cL_law 158 = .ok (.iaload, 1) := by decide +kernel
theorem dL_law_159 : decode cL_law 159 = .ok (.invokevirtual 17, 3) := by decide +kernel
theorem dL_law_162 : decode cL_law 162 = .ok (.if_icmp .eq 755, 3) := by decide +kernel
theorem dL_law_165 : decode cL_law 165 = .ok (.iconst 0, 1) := by decide +kernel
theorem dL_law_166 : decode cL_law 166 = .ok (.ireturn, 1) := by decide +kernel
theorem dL_law_167 : decode cL_law 167 = .ok (.aload_n 1, 1) := by decide +kernel
theorem dL_law_168 : decode cL_law 168 = .ok (.aload_n 0, 1) := by decide +kernel
theorem dL_law_169 : decode cL_law 169 = .ok (.iload_n 3, 1) := by decide +kernel
theorem dL_law_170 : decode cL_law 170 = .ok (.iconst 1, 1) := by decide +kernel
theorem dL_law_171 : decode cL_law 171 = .ok (.iadd, 1) := by decide +kernel
theorem dL_law_172 : decode cL_law 172 = .ok (.iaload, 1) := by decide +kernel
theorem dL_law_173 : decode cL_law 173 = .ok (.aload_n 0, 1) := by decide +kernel
theorem dL_law_174 : decode cL_law 174 = .ok (.iload_n 3, 1) := by decide +kernel
theorem dL_law_175 : decode cL_law 175 = .ok (.iconst 2, 1) := by decide +kernel
theorem dL_law_176 : decode cL_law 176 = .ok (.iadd, 1) := by decide +kernel
theorem dL_law_177 : decode cL_law 177 = .ok (.iaload, 1) := by decide +kernel
theorem dL_law_178 : decode cL_law 178 = .ok (.i2l, 1) := by decide +kernel
theorem dL_law_179 : decode cL_law 179 = .ok (.bipush 32, 2) := by decide +kernel
theorem dL_law_181 : decode cL_law 181 = .ok (.lshl, 1) := by decide +kernel
theorem dL_law_182 : decode cL_law 182 = .ok (.aload_n 0, 1) := by decide +kernel
theorem dL_law_183 : decode cL_law 183 = .ok (.iload_n 3, 1) := by decide +kernel
theorem dL_law_184 : decode cL_law 184 = .ok (.iconst 3, 1) := by decide +kernel
theorem dL_law_185 : decode cL_law 185 = .ok (.iadd, 1) := by decide +kernel
theorem dL_law_186 : decode cL_law 186 = .ok (.iaload, 1) := by decide +kernel
theorem dL_law_187 : decode cL_law 187 = .ok (.i2l, 1) := by decide +kernel
theorem dL_law_188 : decode cL_law 188 = .ok (.ldc2_w 18, 3) := by decide +kernel
theorem dL_law_191 : decode cL_law 191 = .ok (.land, 1) := by decide +kernel
theorem dL_law_192 : decode cL_law 192 = .ok (.lor, 1) := by decide +kernel
theorem dL_law_193 : decode cL_law 193 = .ok (.invokevirtual 20, 3) := by decide +kernel
theorem dL_law_196 : decode cL_law 196 = .ok (.aload_n 2, 1) := by decide +kernel
theorem dL_law_197 : decode cL_law 197 = .ok (.aload_n 0, 1) := by decide +kernel
theorem dL_law_198 : decode cL_law 198 = .ok (.iload_n 3, 1) := by decide +kernel
theorem dL_law_199 : decode cL_law 199 = .ok (.iconst 1, 1) := by decide +kernel
theorem dL_law_200 : decode cL_law 200 = .ok (.iadd, 1) := by decide +kernel
theorem dL_law_201 : decode cL_law 201 = .ok (.iaload, 1) := by decide +kernel
theorem dL_law_202 : decode cL_law 202 = .ok (.aload_n 0, 1) := by decide +kernel
theorem dL_law_203 : decode cL_law 203 = .ok (.iload_n 3, 1) := by decide +kernel
theorem dL_law_204 : decode cL_law 204 = .ok (.iconst 2, 1) := by decide +kernel
theorem dL_law_205 : decode cL_law 205 = .ok (.iadd, 1) := by decide +kernel
theorem dL_law_206 : decode cL_law 206 = .ok (.iaload, 1) := by decide +kernel
theorem dL_law_207 : decode cL_law 207 = .ok (.i2l, 1) := by decide +kernel
theorem dL_law_208 : decode cL_law 208 = .ok (.bipush 32, 2) := by decide +kernel
theorem dL_law_210 : decode cL_law 210 = .ok (.lshl, 1) := by decide +kernel
theorem dL_law_211 : decode cL_law 211 = .ok (.aload_n 0, 1) := by decide +kernel
theorem dL_law_212 : decode cL_law 212 = .ok (.iload_n 3, 1) := by decide +kernel
theorem dL_law_213 : decode cL_law 213 = .ok (.iconst 3, 1) := by decide +kernel
theorem dL_law_214 : decode cL_law 214 = .ok (.iadd, 1) := by decide +kernel
theorem dL_law_215 : decode cL_law 215 = .ok (.iaload, 1) := by decide +kernel
theorem dL_law_216 : decode cL_law 216 = .ok (.i2l, 1) := by decide +kernel
theorem dL_law_217 : decode cL_law 217 = .ok (.ldc2_w 18, 3) := by decide +kernel
theorem dL_law_220 : decode cL_law 220 = .ok (.land, 1) := by decide +kernel
theorem dL_law_221 : decode cL_law 221 = .ok (.lor, 1) := by decide +kernel
theorem dL_law_222 : decode cL_law 222 = .ok (.invokevirtual 24, 3) := by decide +kernel
theorem dL_law_225 : decode cL_law 225 = .ok (.if_icmp .eq 692, 3) := by decide +kernel
theorem dL_law_228 : decode cL_law 228 = .ok (.iconst 0, 1) := by decide +kernel
theorem dL_law_229 : decode cL_law 229 = .ok (.ireturn, 1) := by decide +kernel
theorem dL_law_230 : decode cL_law 230 = .ok (.aload_n 1, 1) := by decide +kernel
theorem dL_law_231 : decode cL_law 231 = .ok (.aload_n 0, 1) := by decide +kernel
theorem dL_law_232 : decode cL_law 232 = .ok (.iload_n 3, 1) := by decide +kernel
theorem dL_law_233 : decode cL_law 233 = .ok (.iconst 1, 1) := by decide +kernel
theorem dL_law_234 : decode cL_law 234 = .ok (.iadd, 1) := by decide +kernel
theorem dL_law_235 : decode cL_law 235 = .ok (.iaload, 1) := by decide +kernel
theorem dL_law_236 : decode cL_law 236 = .ok (.invokevirtual 25, 3) := by decide +kernel
theorem dL_law_239 : decode cL_law 239 = .ok (.aload_n 2, 1) := by decide +kernel
theorem dL_law_240 : decode cL_law 240 = .ok (.aload_n 0, 1) := by decide +kernel
theorem dL_law_241 : decode cL_law 241 = .ok (.iload_n 3, 1) := by decide +kernel
theorem dL_law_242 : decode cL_law 242 = .ok (.iconst 1, 1) := by decide +kernel
theorem dL_law_243 : decode cL_law 243 = .ok (.iadd, 1) := by decide +kernel
theorem dL_law_244 : decode cL_law 244 = .ok (.iaload, 1) := by decide +kernel
theorem dL_law_245 : decode cL_law 245 = .ok (.invokevirtual 28, 3) := by decide +kernel
theorem dL_law_248 : decode cL_law 248 = .ok (.if_icmp .eq 669, 3) := by decide +kernel
theorem dL_law_251 : decode cL_law 251 = .ok (.iconst 0, 1) := by decide +kernel
theorem dL_law_252 : decode cL_law 252 = .ok (.ireturn, 1) := by decide +kernel
theorem dL_law_253 : decode cL_law 253 = .ok (.aload_n 1, 1) := by decide +kernel
theorem dL_law_254 : decode cL_law 254 = .ok (.aload_n 0, 1) := by decide +kernel
theorem dL_law_255 : decode cL_law 255 = .ok (.iload_n 3, 1) := by decide +kernel
theorem dL_law_256 : decode cL_law 256 = .ok (.iconst 1, 1) := by decide +kernel
theorem dL_law_257 : decode cL_law 257 = .ok (.iadd, 1) := by decide +kernel
theorem dL_law_258 : decode cL_law 258 = .ok (.iaload, 1) := by decide +kernel
theorem dL_law_259 : decode cL_law 259 = .ok (.aload_n 0, 1) := by decide +kernel
theorem dL_law_260 : decode cL_law 260 = .ok (.iload_n 3, 1) := by decide +kernel
theorem dL_law_261 : decode cL_law 261 = .ok (.iconst 2, 1) := by decide +kernel
theorem dL_law_262 : decode cL_law 262 = .ok (.iadd, 1) := by decide +kernel
theorem dL_law_263 : decode cL_law 263 = .ok (.iaload, 1) := by decide +kernel
theorem dL_law_264 : decode cL_law 264 = .ok (.aload_n 0, 1) := by decide +kernel
theorem dL_law_265 : decode cL_law 265 = .ok (.iload_n 3, 1) := by decide +kernel
theorem dL_law_266 : decode cL_law 266 = .ok (.iconst 3, 1) := by decide +kernel
theorem dL_law_267 : decode cL_law 267 = .ok (.iadd, 1) := by decide +kernel
theorem dL_law_268 : decode cL_law 268 = .ok (.iaload, 1) := by decide +kernel
theorem dL_law_269 : decode cL_law 269 = .ok (.invokevirtual 29, 3) := by decide +kernel
theorem dL_law_272 : decode cL_law 272 = .ok (.aload_n 2, 1) := by decide +kernel
theorem dL_law_273 : decode cL_law 273 = .ok (.aload_n 0, 1) := by decide +kernel
theorem dL_law_274 : decode cL_law 274 = .ok (.iload_n 3, 1) := by decide +kernel
theorem dL_law_275 : decode cL_law 275 = .ok (.iconst 1, 1) := by decide +kernel
theorem dL_law_276 : decode cL_law 276 = .ok (.iadd, 1) := by decide +kernel
theorem dL_law_277 : decode cL_law 277 = .ok (.iaload, 1) := by decide +kernel
theorem dL_law_278 : decode cL_law 278 = .ok (.aload_n 0, 1) := by decide +kernel
theorem dL_law_279 : decode cL_law 279 = .ok (.iload_n 3, 1) := by decide +kernel
theorem dL_law_280 : decode cL_law 280 = .ok (.iconst 2, 1) := by decide +kernel
theorem dL_law_281 : decode cL_law 281 = .ok (.iadd, 1) := by decide +kernel
theorem dL_law_282 : decode cL_law 282 = .ok (.iaload, 1) := by decide +kernel
theorem dL_law_283 : decode cL_law 283 = .ok (.aload_n 0, 1) := by decide +kernel
theorem dL_law_284 : decode cL_law 284 = .ok (.iload_n 3, 1) := by decide +kernel
theorem dL_law_285 : decode cL_law 285 = .ok (.iconst 3, 1) := by decide +kernel
theorem dL_law_286 : decode cL_law 286 = .ok (.iadd, 1) := by decide +kernel
theorem dL_law_287 : decode cL_law 287 = .ok (.iaload, 1) := by decide +kernel
theorem dL_law_288 : decode cL_law 288 = .ok (.invokevirtual 33, 3) := by decide +kernel
theorem dL_law_291 : decode cL_law 291 = .ok (.if_icmp .eq 626, 3) := by decide +kernel
theorem dL_law_294 : decode cL_law 294 = .ok (.iconst 0, 1) := by decide +kernel
theorem dL_law_295 : decode cL_law 295 = .ok (.ireturn, 1) := by decide +kernel
theorem dL_law_296 : decode cL_law 296 = .ok (.aload_n 1, 1) := by decide +kernel
theorem dL_law_297 : decode cL_law 297 = .ok (.aload_n 0, 1) := by decide +kernel
theorem dL_law_298 : decode cL_law 298 = .ok (.iload_n 3, 1) := by decide +kernel
theorem dL_law_299 : decode cL_law 299 = .ok (.iconst 1, 1) := by decide +kernel
theorem dL_law_300 : decode cL_law 300 = .ok (.iadd, 1) := by decide +kernel
theorem dL_law_301 : decode cL_law 301 = .ok (.iaload, 1) := by decide +kernel
theorem dL_law_302 : decode cL_law 302 = .ok (.aload_n 0, 1) := by decide +kernel
theorem dL_law_303 : decode cL_law 303 = .ok (.iload_n 3, 1) := by decide +kernel
theorem dL_law_304 : decode cL_law 304 = .ok (.iconst 2, 1) := by decide +kernel
theorem dL_law_305 : decode cL_law 305 = .ok (.iadd, 1) := by decide +kernel
theorem dL_law_306 : decode cL_law 306 = .ok (.iaload, 1) := by decide +kernel
theorem dL_law_307 : decode cL_law 307 = .ok (.invokevirtual 34, 3) := by decide +kernel
theorem dL_law_310 : decode cL_law 310 = .ok (.aload_n 2, 1) := by decide +kernel
theorem dL_law_311 : decode cL_law 311 = .ok (.aload_n 0, 1) := by decide +kernel
theorem dL_law_312 : decode cL_law 312 = .ok (.iload_n 3, 1) := by decide +kernel
theorem dL_law_313 : decode cL_law 313 = .ok (.iconst 1, 1) := by decide +kernel
theorem dL_law_314 : decode cL_law 314 = .ok (.iadd, 1) := by decide +kernel
theorem dL_law_315 : decode cL_law 315 = .ok (.iaload, 1) := by decide +kernel
theorem dL_law_316 : decode cL_law 316 = .ok (.aload_n 0, 1) := by decide +kernel
theorem dL_law_317 : decode cL_law 317 = .ok (.iload_n 3, 1) := by decide +kernel
theorem dL_law_318 : decode cL_law 318 = .ok (.iconst 2, 1) := by decide +kernel
theorem dL_law_319 : decode cL_law 319 = .ok (.iadd, 1) := by decide +kernel
theorem dL_law_320 : decode cL_law 320 = .ok (.iaload, 1) := by decide +kernel
theorem dL_law_321 : decode cL_law 321 = .ok (.invokevirtual 38, 3) := by decide +kernel
theorem dL_law_324 : decode cL_law 324 = .ok (.if_icmp .eq 593, 3) := by decide +kernel
theorem dL_law_327 : decode cL_law 327 = .ok (.iconst 0, 1) := by decide +kernel
theorem dL_law_328 : decode cL_law 328 = .ok (.ireturn, 1) := by decide +kernel
theorem dL_law_329 : decode cL_law 329 = .ok (.aload_n 1, 1) := by decide +kernel
theorem dL_law_330 : decode cL_law 330 = .ok (.aload_n 0, 1) := by decide +kernel
theorem dL_law_331 : decode cL_law 331 = .ok (.iload_n 3, 1) := by decide +kernel
theorem dL_law_332 : decode cL_law 332 = .ok (.iconst 1, 1) := by decide +kernel
theorem dL_law_333 : decode cL_law 333 = .ok (.iadd, 1) := by decide +kernel
theorem dL_law_334 : decode cL_law 334 = .ok (.iaload, 1) := by decide +kernel
theorem dL_law_335 : decode cL_law 335 = .ok (.ifCond .eq 7, 3) := by decide +kernel
theorem dL_law_338 : decode cL_law 338 = .ok (.iconst 1, 1) := by decide +kernel
theorem dL_law_339 : decode cL_law 339 = .ok (.goto 4, 3) := by decide +kernel
theorem dL_law_342 : decode cL_law 342 = .ok (.iconst 0, 1) := by decide +kernel
theorem dL_law_343 : decode cL_law 343 = .ok (.aload_n 0, 1) := by decide +kernel
theorem dL_law_344 : decode cL_law 344 = .ok (.iload_n 3, 1) := by decide +kernel
theorem dL_law_345 : decode cL_law 345 = .ok (.iconst 2, 1) := by decide +kernel
theorem dL_law_346 : decode cL_law 346 = .ok (.iadd, 1) := by decide +kernel
theorem dL_law_347 : decode cL_law 347 = .ok (.iaload, 1) := by decide +kernel
theorem dL_law_348 : decode cL_law 348 = .ok (.aload_n 0, 1) := by decide +kernel
theorem dL_law_349 : decode cL_law 349 = .ok (.iload_n 3, 1) := by decide +kernel
theorem dL_law_350 : decode cL_law 350 = .ok (.iconst 3, 1) := by decide +kernel
theorem dL_law_351 : decode cL_law 351 = .ok (.iadd, 1) := by decide +kernel
theorem dL_law_352 : decode cL_law 352 = .ok (.iaload, 1) := by decide +kernel
theorem dL_law_353 : decode cL_law 353 = .ok (.invokevirtual 39, 3) := by decide +kernel
theorem dL_law_356 : decode cL_law 356 = .ok (.aload_n 2, 1) := by decide +kernel
theorem dL_law_357 : decode cL_law 357 = .ok (.aload_n 0, 1) := by decide +kernel
theorem dL_law_358 : decode cL_law 358 = .ok (.iload_n 3, 1) := by decide +kernel
theorem dL_law_359 : decode cL_law 359 = .ok (.iconst 1, 1) := by decide +kernel
theorem dL_law_360 : decode cL_law 360 = .ok (.iadd, 1) := by decide +kernel
theorem dL_law_361 : decode cL_law 361 = .ok (.iaload, 1) := by decide +kernel
theorem dL_law_362 : decode cL_law 362 = .ok (.ifCond .eq 7, 3) := by decide +kernel
theorem dL_law_365 : decode cL_law 365 = .ok (.iconst 1, 1) := by decide +kernel
theorem dL_law_366 : decode cL_law 366 = .ok (.goto 4, 3) := by decide +kernel
theorem dL_law_369 : decode cL_law 369 = .ok (.iconst 0, 1) := by decide +kernel
theorem dL_law_370 : decode cL_law 370 = .ok (.aload_n 0, 1) := by decide +kernel
theorem dL_law_371 : decode cL_law 371 = .ok (.iload_n 3, 1) := by decide +kernel
theorem dL_law_372 : decode cL_law 372 = .ok (.iconst 2, 1) := by decide +kernel
theorem dL_law_373 : decode cL_law 373 = .ok (.iadd, 1) := by decide +kernel
theorem dL_law_374 : decode cL_law 374 = .ok (.iaload, 1) := by decide +kernel
theorem dL_law_375 : decode cL_law 375 = .ok (.aload_n 0, 1) := by decide +kernel
theorem dL_law_376 : decode cL_law 376 = .ok (.iload_n 3, 1) := by decide +kernel
theorem dL_law_377 : decode cL_law 377 = .ok (.iconst 3, 1) := by decide +kernel
theorem dL_law_378 : decode cL_law 378 = .ok (.iadd, 1) := by decide +kernel
theorem dL_law_379 : decode cL_law 379 = .ok (.iaload, 1) := by decide +kernel
theorem dL_law_380 : decode cL_law 380 = .ok (.invokevirtual 43, 3) := by decide +kernel
theorem dL_law_383 : decode cL_law 383 = .ok (.if_icmp .eq 534, 3) := by decide +kernel
theorem dL_law_386 : decode cL_law 386 = .ok (.iconst 0, 1) := by decide +kernel
theorem dL_law_387 : decode cL_law 387 = .ok (.ireturn, 1) := by decide +kernel
theorem dL_law_388 : decode cL_law 388 = .ok (.aload_n 1, 1) := by decide +kernel
theorem dL_law_389 : decode cL_law 389 = .ok (.aload_n 0, 1) := by decide +kernel
theorem dL_law_390 : decode cL_law 390 = .ok (.iload_n 3, 1) := by decide +kernel
theorem dL_law_391 : decode cL_law 391 = .ok (.iconst 1, 1) := by decide +kernel
theorem dL_law_392 : decode cL_law 392 = .ok (.iadd, 1) := by decide +kernel
theorem dL_law_393 : decode cL_law 393 = .ok (.iaload, 1) := by decide +kernel
theorem dL_law_394 : decode cL_law 394 = .ok (.invokevirtual 44, 3) := by decide +kernel
theorem dL_law_397 : decode cL_law 397 = .ok (.aload_n 2, 1) := by decide +kernel
theorem dL_law_398 : decode cL_law 398 = .ok (.aload_n 0, 1) := by decide +kernel
theorem dL_law_399 : decode cL_law 399 = .ok (.iload_n 3, 1) := by decide +kernel
theorem dL_law_400 : decode cL_law 400 = .ok (.iconst 1, 1) := by decide +kernel
theorem dL_law_401 : decode cL_law 401 = .ok (.iadd, 1) := by decide +kernel
theorem dL_law_402 : decode cL_law 402 = .ok (.iaload, 1) := by decide +kernel
theorem dL_law_403 : decode cL_law 403 = .ok (.invokevirtual 47, 3) := by decide +kernel
theorem dL_law_406 : decode cL_law 406 = .ok (.if_icmp .eq 511, 3) := by decide +kernel
theorem dL_law_409 : decode cL_law 409 = .ok (.iconst 0, 1) := by decide +kernel
theorem dL_law_410 : decode cL_law 410 = .ok (.ireturn, 1) := by decide +kernel
theorem dL_law_411 : decode cL_law 411 = .ok (.aload_n 1, 1) := by decide +kernel
theorem dL_law_412 : decode cL_law 412 = .ok (.aload_n 0, 1) := by decide +kernel
theorem dL_law_413 : decode cL_law 413 = .ok (.iload_n 3, 1) := by decide +kernel
theorem dL_law_414 : decode cL_law 414 = .ok (.iconst 1, 1) := by decide +kernel
theorem dL_law_415 : decode cL_law 415 = .ok (.iadd, 1) := by decide +kernel
theorem dL_law_416 : decode cL_law 416 = .ok (.iaload, 1) := by decide +kernel
theorem dL_law_417 : decode cL_law 417 = .ok (.i2c, 1) := by decide +kernel
theorem dL_law_418 : decode cL_law 418 = .ok (.invokevirtual 48, 3) := by decide +kernel
theorem dL_law_421 : decode cL_law 421 = .ok (.aload_n 2, 1) := by decide +kernel
theorem dL_law_422 : decode cL_law 422 = .ok (.aload_n 0, 1) := by decide +kernel
theorem dL_law_423 : decode cL_law 423 = .ok (.iload_n 3, 1) := by decide +kernel
theorem dL_law_424 : decode cL_law 424 = .ok (.iconst 1, 1) := by decide +kernel
theorem dL_law_425 : decode cL_law 425 = .ok (.iadd, 1) := by decide +kernel
theorem dL_law_426 : decode cL_law 426 = .ok (.iaload, 1) := by decide +kernel
theorem dL_law_427 : decode cL_law 427 = .ok (.i2c, 1) := by decide +kernel
theorem dL_law_428 : decode cL_law 428 = .ok (.invokevirtual 52, 3) := by decide +kernel
theorem dL_law_431 : decode cL_law 431 = .ok (.if_icmp .eq 486, 3) := by decide +kernel
theorem dL_law_434 : decode cL_law 434 = .ok (.iconst 0, 1) := by decide +kernel
theorem dL_law_435 : decode cL_law 435 = .ok (.ireturn, 1) := by decide +kernel
theorem dL_law_436 : decode cL_law 436 = .ok (.aload_n 1, 1) := by decide +kernel
theorem dL_law_437 : decode cL_law 437 = .ok (.invokevirtual 53, 3) := by decide +kernel
theorem dL_law_440 : decode cL_law 440 = .ok (.aload_n 2, 1) := by decide +kernel
theorem dL_law_441 : decode cL_law 441 = .ok (.invokevirtual 57, 3) := by decide +kernel
theorem dL_law_444 : decode cL_law 444 = .ok (.if_icmp .eq 473, 3) := by decide +kernel
theorem dL_law_447 : decode cL_law 447 = .ok (.iconst 0, 1) := by decide +kernel
theorem dL_law_448 : decode cL_law 448 = .ok (.ireturn, 1) := by decide +kernel
theorem dL_law_449 : decode cL_law 449 = .ok (.aload_n 1, 1) := by decide +kernel
theorem dL_law_450 : decode cL_law 450 = .ok (.invokevirtual 58, 3) := by decide +kernel
theorem dL_law_453 : decode cL_law 453 = .ok (.aload_n 2, 1) := by decide +kernel
theorem dL_law_454 : decode cL_law 454 = .ok (.invokevirtual 61, 3) := by decide +kernel
theorem dL_law_457 : decode cL_law 457 = .ok (.if_icmp .eq 460, 3) := by decide +kernel
theorem dL_law_460 : decode cL_law 460 = .ok (.iconst 0, 1) := by decide +kernel
theorem dL_law_461 : decode cL_law 461 = .ok (.ireturn, 1) := by decide +kernel
theorem dL_law_462 : decode cL_law 462 = .ok (.aload_n 1, 1) := by decide +kernel
theorem dL_law_463 : decode cL_law 463 = .ok (.invokevirtual 62, 3) := by decide +kernel
theorem dL_law_466 : decode cL_law 466 = .ok (.aload_n 2, 1) := by decide +kernel
theorem dL_law_467 : decode cL_law 467 = .ok (.invokevirtual 65, 3) := by decide +kernel
theorem dL_law_470 : decode cL_law 470 = .ok (.if_icmp .eq 447, 3) := by decide +kernel
theorem dL_law_473 : decode cL_law 473 = .ok (.iconst 0, 1) := by decide +kernel
theorem dL_law_474 : decode cL_law 474 = .ok (.ireturn, 1) := by decide +kernel
theorem dL_law_475 : decode cL_law 475 = .ok (.aload_n 1, 1) := by decide +kernel
theorem dL_law_476 : decode cL_law 476 = .ok (.invokevirtual 66, 3) := by decide +kernel
theorem dL_law_479 : decode cL_law 479 = .ok (.aload_n 2, 1) := by decide +kernel
theorem dL_law_480 : decode cL_law 480 = .ok (.invokevirtual 69, 3) := by decide +kernel
theorem dL_law_483 : decode cL_law 483 = .ok (.if_icmp .eq 434, 3) := by decide +kernel
theorem dL_law_486 : decode cL_law 486 = .ok (.iconst 0, 1) := by decide +kernel
theorem dL_law_487 : decode cL_law 487 = .ok (.ireturn, 1) := by decide +kernel
theorem dL_law_488 : decode cL_law 488 = .ok (.aload_n 1, 1) := by decide +kernel
theorem dL_law_489 : decode cL_law 489 = .ok (.invokevirtual 70, 3) := by decide +kernel
theorem dL_law_492 : decode cL_law 492 = .ok (.aload_n 2, 1) := by decide +kernel
theorem dL_law_493 : decode cL_law 493 = .ok (.invokevirtual 73, 3) := by decide +kernel
theorem dL_law_496 : decode cL_law 496 = .ok (.if_icmp .eq 421, 3) := by decide +kernel
theorem dL_law_499 : decode cL_law 499 = .ok (.iconst 0, 1) := by decide +kernel
theorem dL_law_500 : decode cL_law 500 = .ok (.ireturn, 1) := by decide +kernel
theorem dL_law_501 : decode cL_law 501 = .ok (.aload_n 1, 1) := by decide +kernel
theorem dL_law_502 : decode cL_law 502 = .ok (.invokevirtual 74, 3) := by decide +kernel
theorem dL_law_505 : decode cL_law 505 = .ok (.aload_n 2, 1) := by decide +kernel
theorem dL_law_506 : decode cL_law 506 = .ok (.invokevirtual 77, 3) := by decide +kernel
theorem dL_law_509 : decode cL_law 509 = .ok (.if_icmp .eq 408, 3) := by decide +kernel
theorem dL_law_512 : decode cL_law 512 = .ok (.iconst 0, 1) := by decide +kernel
theorem dL_law_513 : decode cL_law 513 = .ok (.ireturn, 1) := by decide +kernel
theorem dL_law_514 : decode cL_law 514 = .ok (.aload_n 1, 1) := by decide +kernel
theorem dL_law_515 : decode cL_law 515 = .ok (.aload_n 0, 1) := by decide +kernel
theorem dL_law_516 : decode cL_law 516 = .ok (.iload_n 3, 1) := by decide +kernel
theorem dL_law_517 : decode cL_law 517 = .ok (.iconst 1, 1) := by decide +kernel
theorem dL_law_518 : decode cL_law 518 = .ok (.iadd, 1) := by decide +kernel
theorem dL_law_519 : decode cL_law 519 = .ok (.iaload, 1) := by decide +kernel
theorem dL_law_520 : decode cL_law 520 = .ok (.aload_n 0, 1) := by decide +kernel
theorem dL_law_521 : decode cL_law 521 = .ok (.iload_n 3, 1) := by decide +kernel
theorem dL_law_522 : decode cL_law 522 = .ok (.iconst 2, 1) := by decide +kernel
theorem dL_law_523 : decode cL_law 523 = .ok (.iadd, 1) := by decide +kernel
theorem dL_law_524 : decode cL_law 524 = .ok (.iaload, 1) := by decide +kernel
theorem dL_law_525 : decode cL_law 525 = .ok (.invokevirtual 78, 3) := by decide +kernel
theorem dL_law_528 : decode cL_law 528 = .ok (.aload_n 2, 1) := by decide +kernel
theorem dL_law_529 : decode cL_law 529 = .ok (.aload_n 0, 1) := by decide +kernel
theorem dL_law_530 : decode cL_law 530 = .ok (.iload_n 3, 1) := by decide +kernel
theorem dL_law_531 : decode cL_law 531 = .ok (.iconst 1, 1) := by decide +kernel
theorem dL_law_532 : decode cL_law 532 = .ok (.iadd, 1) := by decide +kernel
theorem dL_law_533 : decode cL_law 533 = .ok (.iaload, 1) := by decide +kernel
theorem dL_law_534 : decode cL_law 534 = .ok (.aload_n 0, 1) := by decide +kernel
theorem dL_law_535 : decode cL_law 535 = .ok (.iload_n 3, 1) := by decide +kernel
theorem dL_law_536 : decode cL_law 536 = .ok (.iconst 2, 1) := by decide +kernel
theorem dL_law_537 : decode cL_law 537 = .ok (.iadd, 1) := by decide +kernel
theorem dL_law_538 : decode cL_law 538 = .ok (.iaload, 1) := by decide +kernel
theorem dL_law_539 : decode cL_law 539 = .ok (.invokevirtual 81, 3) := by decide +kernel
theorem dL_law_542 : decode cL_law 542 = .ok (.if_icmp .eq 375, 3) := by decide +kernel
theorem dL_law_545 : decode cL_law 545 = .ok (.iconst 0, 1) := by decide +kernel
theorem dL_law_546 : decode cL_law 546 = .ok (.ireturn, 1) := by decide +kernel
theorem dL_law_547 : decode cL_law 547 = .ok (.aload_n 1, 1) := by decide +kernel
theorem dL_law_548 : decode cL_law 548 = .ok (.aload_n 0, 1) := by decide +kernel
theorem dL_law_549 : decode cL_law 549 = .ok (.iload_n 3, 1) := by decide +kernel
theorem dL_law_550 : decode cL_law 550 = .ok (.iconst 1, 1) := by decide +kernel
theorem dL_law_551 : decode cL_law 551 = .ok (.iadd, 1) := by decide +kernel
theorem dL_law_552 : decode cL_law 552 = .ok (.iaload, 1) := by decide +kernel
theorem dL_law_553 : decode cL_law 553 = .ok (.aload_n 0, 1) := by decide +kernel
theorem dL_law_554 : decode cL_law 554 = .ok (.iload_n 3, 1) := by decide +kernel
theorem dL_law_555 : decode cL_law 555 = .ok (.iconst 2, 1) := by decide +kernel
theorem dL_law_556 : decode cL_law 556 = .ok (.iadd, 1) := by decide +kernel
theorem dL_law_557 : decode cL_law 557 = .ok (.iaload, 1) := by decide +kernel
theorem dL_law_558 : decode cL_law 558 = .ok (.invokevirtual 82, 3) := by decide +kernel
theorem dL_law_561 : decode cL_law 561 = .ok (.dstore 4, 2) := by decide +kernel
theorem dL_law_563 : decode cL_law 563 = .ok (.aload_n 2, 1) := by decide +kernel
theorem dL_law_564 : decode cL_law 564 = .ok (.aload_n 0, 1) := by decide +kernel
theorem dL_law_565 : decode cL_law 565 = .ok (.iload_n 3, 1) := by decide +kernel
theorem dL_law_566 : decode cL_law 566 = .ok (.iconst 1, 1) := by decide +kernel
theorem dL_law_567 : decode cL_law 567 = .ok (.iadd, 1) := by decide +kernel
theorem dL_law_568 : decode cL_law 568 = .ok (.iaload, 1) := by decide +kernel
theorem dL_law_569 : decode cL_law 569 = .ok (.aload_n 0, 1) := by decide +kernel
theorem dL_law_570 : decode cL_law 570 = .ok (.iload_n 3, 1) := by decide +kernel
theorem dL_law_571 : decode cL_law 571 = .ok (.iconst 2, 1) := by decide +kernel
theorem dL_law_572 : decode cL_law 572 = .ok (.iadd, 1) := by decide +kernel
theorem dL_law_573 : decode cL_law 573 = .ok (.iaload, 1) := by decide +kernel
theorem dL_law_574 : decode cL_law 574 = .ok (.invokevirtual 86, 3) := by decide +kernel
theorem dL_law_577 : decode cL_law 577 = .ok (.dstore 6, 2) := by decide +kernel
theorem dL_law_579 : decode cL_law 579 = .ok (.dload 4, 2) := by decide +kernel
theorem dL_law_581 : decode cL_law 581 = .ok (.dload 6, 2) := by decide +kernel
theorem dL_law_583 : decode cL_law 583 = .ok (.dcmp .l, 1) := by decide +kernel
theorem dL_law_584 : decode cL_law 584 = .ok (.ifCond .eq 21, 3) := by decide +kernel
theorem dL_law_587 : decode cL_law 587 = .ok (.dload 4, 2) := by decide +kernel
theorem dL_law_589 : decode cL_law 589 = .ok (.dload 4, 2) := by decide +kernel
theorem dL_law_591 : decode cL_law 591 = .ok (.dcmp .l, 1) := by decide +kernel
theorem dL_law_592 : decode cL_law 592 = .ok (.ifCond .eq 11, 3) := by decide +kernel
theorem dL_law_595 : decode cL_law 595 = .ok (.dload 6, 2) := by decide +kernel
theorem dL_law_597 : decode cL_law 597 = .ok (.dload 6, 2) := by decide +kernel
theorem dL_law_599 : decode cL_law 599 = .ok (.dcmp .l, 1) := by decide +kernel
theorem dL_law_600 : decode cL_law 600 = .ok (.ifCond .ne 5, 3) := by decide +kernel
theorem dL_law_603 : decode cL_law 603 = .ok (.iconst 0, 1) := by decide +kernel
theorem dL_law_604 : decode cL_law 604 = .ok (.ireturn, 1) := by decide +kernel
theorem dL_law_605 : decode cL_law 605 = .ok (.goto 312, 3) := by decide +kernel
theorem dL_law_608 : decode cL_law 608 = .ok (.aload_n 1, 1) := by decide +kernel
theorem dL_law_609 : decode cL_law 609 = .ok (.aload_n 0, 1) := by decide +kernel
theorem dL_law_610 : decode cL_law 610 = .ok (.iload_n 3, 1) := by decide +kernel
theorem dL_law_611 : decode cL_law 611 = .ok (.iconst 1, 1) := by decide +kernel
theorem dL_law_612 : decode cL_law 612 = .ok (.iadd, 1) := by decide +kernel
theorem dL_law_613 : decode cL_law 613 = .ok (.iaload, 1) := by decide +kernel
theorem dL_law_614 : decode cL_law 614 = .ok (.invokevirtual 87, 3) := by decide +kernel
theorem dL_law_617 : decode cL_law 617 = .ok (.aload_n 2, 1) := by decide +kernel
theorem dL_law_618 : decode cL_law 618 = .ok (.aload_n 0, 1) := by decide +kernel
theorem dL_law_619 : decode cL_law 619 = .ok (.iload_n 3, 1) := by decide +kernel
theorem dL_law_620 : decode cL_law 620 = .ok (.iconst 1, 1) := by decide +kernel
theorem dL_law_621 : decode cL_law 621 = .ok (.iadd, 1) := by decide +kernel
theorem dL_law_622 : decode cL_law 622 = .ok (.iaload, 1) := by decide +kernel
theorem dL_law_623 : decode cL_law 623 = .ok (.invokevirtual 90, 3) := by decide +kernel
theorem dL_law_626 : decode cL_law 626 = .ok (.if_icmp .eq 291, 3) := by decide +kernel
theorem dL_law_629 : decode cL_law 629 = .ok (.iconst 0, 1) := by decide +kernel
theorem dL_law_630 : decode cL_law 630 = .ok (.ireturn, 1) := by decide +kernel
theorem dL_law_631 : decode cL_law 631 = .ok (.aload_n 1, 1) := by decide +kernel
theorem dL_law_632 : decode cL_law 632 = .ok (.aload_n 0, 1) := by decide +kernel
theorem dL_law_633 : decode cL_law 633 = .ok (.iload_n 3, 1) := by decide +kernel
theorem dL_law_634 : decode cL_law 634 = .ok (.iconst 1, 1) := by decide +kernel
theorem dL_law_635 : decode cL_law 635 = .ok (.iadd, 1) := by decide +kernel
theorem dL_law_636 : decode cL_law 636 = .ok (.iaload, 1) := by decide +kernel
theorem dL_law_637 : decode cL_law 637 = .ok (.aload_n 0, 1) := by decide +kernel
theorem dL_law_638 : decode cL_law 638 = .ok (.iload_n 3, 1) := by decide +kernel
theorem dL_law_639 : decode cL_law 639 = .ok (.iconst 2, 1) := by decide +kernel
theorem dL_law_640 : decode cL_law 640 = .ok (.iadd, 1) := by decide +kernel
theorem dL_law_641 : decode cL_law 641 = .ok (.iaload, 1) := by decide +kernel
theorem dL_law_642 : decode cL_law 642 = .ok (.invokevirtual 91, 3) := by decide +kernel
theorem dL_law_645 : decode cL_law 645 = .ok (.aload_n 2, 1) := by decide +kernel
theorem dL_law_646 : decode cL_law 646 = .ok (.aload_n 0, 1) := by decide +kernel
theorem dL_law_647 : decode cL_law 647 = .ok (.iload_n 3, 1) := by decide +kernel
theorem dL_law_648 : decode cL_law 648 = .ok (.iconst 1, 1) := by decide +kernel
theorem dL_law_649 : decode cL_law 649 = .ok (.iadd, 1) := by decide +kernel
theorem dL_law_650 : decode cL_law 650 = .ok (.iaload, 1) := by decide +kernel
theorem dL_law_651 : decode cL_law 651 = .ok (.aload_n 0, 1) := by decide +kernel
theorem dL_law_652 : decode cL_law 652 = .ok (.iload_n 3, 1) := by decide +kernel
theorem dL_law_653 : decode cL_law 653 = .ok (.iconst 2, 1) := by decide +kernel
theorem dL_law_654 : decode cL_law 654 = .ok (.iadd, 1) := by decide +kernel
theorem dL_law_655 : decode cL_law 655 = .ok (.iaload, 1) := by decide +kernel
theorem dL_law_656 : decode cL_law 656 = .ok (.invokevirtual 94, 3) := by decide +kernel
theorem dL_law_659 : decode cL_law 659 = .ok (.if_icmp .eq 258, 3) := by decide +kernel
theorem dL_law_662 : decode cL_law 662 = .ok (.iconst 0, 1) := by decide +kernel
theorem dL_law_663 : decode cL_law 663 = .ok (.ireturn, 1) := by decide +kernel
theorem dL_law_664 : decode cL_law 664 = .ok (.aload_n 1, 1) := by decide +kernel
theorem dL_law_665 : decode cL_law 665 = .ok (.aload_n 0, 1) := by decide +kernel
theorem dL_law_666 : decode cL_law 666 = .ok (.iload_n 3, 1) := by decide +kernel
theorem dL_law_667 : decode cL_law 667 = .ok (.iconst 1, 1) := by decide +kernel
theorem dL_law_668 : decode cL_law 668 = .ok (.iadd, 1) := by decide +kernel
theorem dL_law_669 : decode cL_law 669 = .ok (.iaload, 1) := by decide +kernel
theorem dL_law_670 : decode cL_law 670 = .ok (.aload_n 0, 1) := by decide +kernel
theorem dL_law_671 : decode cL_law 671 = .ok (.iload_n 3, 1) := by decide +kernel
theorem dL_law_672 : decode cL_law 672 = .ok (.iconst 2, 1) := by decide +kernel
theorem dL_law_673 : decode cL_law 673 = .ok (.iadd, 1) := by decide +kernel
theorem dL_law_674 : decode cL_law 674 = .ok (.iaload, 1) := by decide +kernel
theorem dL_law_675 : decode cL_law 675 = .ok (.invokevirtual 95, 3) := by decide +kernel
theorem dL_law_678 : decode cL_law 678 = .ok (.aload_n 2, 1) := by decide +kernel
theorem dL_law_679 : decode cL_law 679 = .ok (.aload_n 0, 1) := by decide +kernel
theorem dL_law_680 : decode cL_law 680 = .ok (.iload_n 3, 1) := by decide +kernel
theorem dL_law_681 : decode cL_law 681 = .ok (.iconst 1, 1) := by decide +kernel
theorem dL_law_682 : decode cL_law 682 = .ok (.iadd, 1) := by decide +kernel
theorem dL_law_683 : decode cL_law 683 = .ok (.iaload, 1) := by decide +kernel
theorem dL_law_684 : decode cL_law 684 = .ok (.aload_n 0, 1) := by decide +kernel
theorem dL_law_685 : decode cL_law 685 = .ok (.iload_n 3, 1) := by decide +kernel
theorem dL_law_686 : decode cL_law 686 = .ok (.iconst 2, 1) := by decide +kernel
theorem dL_law_687 : decode cL_law 687 = .ok (.iadd, 1) := by decide +kernel
theorem dL_law_688 : decode cL_law 688 = .ok (.iaload, 1) := by decide +kernel
theorem dL_law_689 : decode cL_law 689 = .ok (.invokevirtual 98, 3) := by decide +kernel
theorem dL_law_692 : decode cL_law 692 = .ok (.if_icmp .eq 225, 3) := by decide +kernel
theorem dL_law_695 : decode cL_law 695 = .ok (.iconst 0, 1) := by decide +kernel
theorem dL_law_696 : decode cL_law 696 = .ok (.ireturn, 1) := by decide +kernel
theorem dL_law_697 : decode cL_law 697 = .ok (.aload_n 1, 1) := by decide +kernel
theorem dL_law_698 : decode cL_law 698 = .ok (.aload_n 0, 1) := by decide +kernel
theorem dL_law_699 : decode cL_law 699 = .ok (.iload_n 3, 1) := by decide +kernel
theorem dL_law_700 : decode cL_law 700 = .ok (.iconst 1, 1) := by decide +kernel
theorem dL_law_701 : decode cL_law 701 = .ok (.iadd, 1) := by decide +kernel
theorem dL_law_702 : decode cL_law 702 = .ok (.iaload, 1) := by decide +kernel
theorem dL_law_703 : decode cL_law 703 = .ok (.invokevirtual 99, 3) := by decide +kernel
theorem dL_law_706 : decode cL_law 706 = .ok (.dstore 4, 2) := by decide +kernel
theorem dL_law_708 : decode cL_law 708 = .ok (.aload_n 2, 1) := by decide +kernel
theorem dL_law_709 : decode cL_law 709 = .ok (.aload_n 0, 1) := by decide +kernel
theorem dL_law_710 : decode cL_law 710 = .ok (.iload_n 3, 1) := by decide +kernel
theorem dL_law_711 : decode cL_law 711 = .ok (.iconst 1, 1) := by decide +kernel
theorem dL_law_712 : decode cL_law 712 = .ok (.iadd, 1) := by decide +kernel
theorem dL_law_713 : decode cL_law 713 = .ok (.iaload, 1) := by decide +kernel
theorem dL_law_714 : decode cL_law 714 = .ok (.invokevirtual 103, 3) := by decide +kernel
theorem dL_law_717 : decode cL_law 717 = .ok (.dstore 6, 2) := by decide +kernel
theorem dL_law_719 : decode cL_law 719 = .ok (.dload 4, 2) := by decide +kernel
theorem dL_law_721 : decode cL_law 721 = .ok (.dload 6, 2) := by decide +kernel
theorem dL_law_723 : decode cL_law 723 = .ok (.dcmp .l, 1) := by decide +kernel
theorem dL_law_724 : decode cL_law 724 = .ok (.ifCond .eq 21, 3) := by decide +kernel
theorem dL_law_727 : decode cL_law 727 = .ok (.dload 4, 2) := by decide +kernel
theorem dL_law_729 : decode cL_law 729 = .ok (.dload 4, 2) := by decide +kernel
theorem dL_law_731 : decode cL_law 731 = .ok (.dcmp .l, 1) := by decide +kernel
theorem dL_law_732 : decode cL_law 732 = .ok (.ifCond .eq 11, 3) := by decide +kernel
theorem dL_law_735 : decode cL_law 735 = .ok (.dload 6, 2) := by decide +kernel
theorem dL_law_737 : decode cL_law 737 = .ok (.dload 6, 2) := by decide +kernel
theorem dL_law_739 : decode cL_law 739 = .ok (.dcmp .l, 1) := by decide +kernel
theorem dL_law_740 : decode cL_law 740 = .ok (.ifCond .ne 5, 3) := by decide +kernel
theorem dL_law_743 : decode cL_law 743 = .ok (.iconst 0, 1) := by decide +kernel
theorem dL_law_744 : decode cL_law 744 = .ok (.ireturn, 1) := by decide +kernel
theorem dL_law_745 : decode cL_law 745 = .ok (.goto 172, 3) := by decide +kernel
theorem dL_law_748 : decode cL_law 748 = .ok (.aload_n 1, 1) := by decide +kernel
theorem dL_law_749 : decode cL_law 749 = .ok (.aload_n 0, 1) := by decide +kernel
theorem dL_law_750 : decode cL_law 750 = .ok (.iload_n 3, 1) := by decide +kernel
theorem dL_law_751 : decode cL_law 751 = .ok (.iconst 1, 1) := by decide +kernel
theorem dL_law_752 : decode cL_law 752 = .ok (.iadd, 1) := by decide +kernel
theorem dL_law_753 : decode cL_law 753 = .ok (.iaload, 1) := by decide +kernel
theorem dL_law_754 : decode cL_law 754 = .ok (.aload_n 0, 1) := by decide +kernel
theorem dL_law_755 : decode cL_law 755 = .ok (.iload_n 3, 1) := by decide +kernel
theorem dL_law_756 : decode cL_law 756 = .ok (.iconst 2, 1) := by decide +kernel
theorem dL_law_757 : decode cL_law 757 = .ok (.iadd, 1) := by decide +kernel
theorem dL_law_758 : decode cL_law 758 = .ok (.iaload, 1) := by decide +kernel
theorem dL_law_759 : decode cL_law 759 = .ok (.invokevirtual 104, 3) := by decide +kernel
theorem dL_law_762 : decode cL_law 762 = .ok (.dstore 4, 2) := by decide +kernel
theorem dL_law_764 : decode cL_law 764 = .ok (.aload_n 2, 1) := by decide +kernel
theorem dL_law_765 : decode cL_law 765 = .ok (.aload_n 0, 1) := by decide +kernel
theorem dL_law_766 : decode cL_law 766 = .ok (.iload_n 3, 1) := by decide +kernel
theorem dL_law_767 : decode cL_law 767 = .ok (.iconst 1, 1) := by decide +kernel
theorem dL_law_768 : decode cL_law 768 = .ok (.iadd, 1) := by decide +kernel
theorem dL_law_769 : decode cL_law 769 = .ok (.iaload, 1) := by decide +kernel
theorem dL_law_770 : decode cL_law 770 = .ok (.aload_n 0, 1) := by decide +kernel
theorem dL_law_771 : decode cL_law 771 = .ok (.iload_n 3, 1) := by decide +kernel
theorem dL_law_772 : decode cL_law 772 = .ok (.iconst 2, 1) := by decide +kernel
theorem dL_law_773 : decode cL_law 773 = .ok (.iadd, 1) := by decide +kernel
theorem dL_law_774 : decode cL_law 774 = .ok (.iaload, 1) := by decide +kernel
theorem dL_law_775 : decode cL_law 775 = .ok (.invokevirtual 107, 3) := by decide +kernel
theorem dL_law_778 : decode cL_law 778 = .ok (.dstore 6, 2) := by decide +kernel
theorem dL_law_780 : decode cL_law 780 = .ok (.dload 4, 2) := by decide +kernel
theorem dL_law_782 : decode cL_law 782 = .ok (.dload 6, 2) := by decide +kernel
theorem dL_law_784 : decode cL_law 784 = .ok (.dcmp .l, 1) := by decide +kernel
theorem dL_law_785 : decode cL_law 785 = .ok (.ifCond .eq 21, 3) := by decide +kernel
theorem dL_law_788 : decode cL_law 788 = .ok (.dload 4, 2) := by decide +kernel
theorem dL_law_790 : decode cL_law 790 = .ok (.dload 4, 2) := by decide +kernel
theorem dL_law_792 : decode cL_law 792 = .ok (.dcmp .l, 1) := by decide +kernel
theorem dL_law_793 : decode cL_law 793 = .ok (.ifCond .eq 11, 3) := by decide +kernel
theorem dL_law_796 : decode cL_law 796 = .ok (.dload 6, 2) := by decide +kernel
theorem dL_law_798 : decode cL_law 798 = .ok (.dload 6, 2) := by decide +kernel
theorem dL_law_800 : decode cL_law 800 = .ok (.dcmp .l, 1) := by decide +kernel
theorem dL_law_801 : decode cL_law 801 = .ok (.ifCond .ne 5, 3) := by decide +kernel
theorem dL_law_804 : decode cL_law 804 = .ok (.iconst 0, 1) := by decide +kernel
theorem dL_law_805 : decode cL_law 805 = .ok (.ireturn, 1) := by decide +kernel
theorem dL_law_806 : decode cL_law 806 = .ok (.goto 111, 3) := by decide +kernel
theorem dL_law_809 : decode cL_law 809 = .ok (.aload_n 1, 1) := by decide +kernel
theorem dL_law_810 : decode cL_law 810 = .ok (.aload_n 0, 1) := by decide +kernel
theorem dL_law_811 : decode cL_law 811 = .ok (.iload_n 3, 1) := by decide +kernel
theorem dL_law_812 : decode cL_law 812 = .ok (.iconst 1, 1) := by decide +kernel
theorem dL_law_813 : decode cL_law 813 = .ok (.iadd, 1) := by decide +kernel
theorem dL_law_814 : decode cL_law 814 = .ok (.iaload, 1) := by decide +kernel
theorem dL_law_815 : decode cL_law 815 = .ok (.invokevirtual 108, 3) := by decide +kernel
theorem dL_law_818 : decode cL_law 818 = .ok (.aload_n 2, 1) := by decide +kernel
theorem dL_law_819 : decode cL_law 819 = .ok (.aload_n 0, 1) := by decide +kernel
theorem dL_law_820 : decode cL_law 820 = .ok (.iload_n 3, 1) := by decide +kernel
theorem dL_law_821 : decode cL_law 821 = .ok (.iconst 1, 1) := by decide +kernel
theorem dL_law_822 : decode cL_law 822 = .ok (.iadd, 1) := by decide +kernel
theorem dL_law_823 : decode cL_law 823 = .ok (.iaload, 1) := by decide +kernel
theorem dL_law_824 : decode cL_law 824 = .ok (.invokevirtual 112, 3) := by decide +kernel
theorem dL_law_827 : decode cL_law 827 = .ok (.lcmp, 1) := by decide +kernel
theorem dL_law_828 : decode cL_law 828 = .ok (.ifCond .eq 89, 3) := by decide +kernel
theorem dL_law_831 : decode cL_law 831 = .ok (.iconst 0, 1) := by decide +kernel
theorem dL_law_832 : decode cL_law 832 = .ok (.ireturn, 1) := by decide +kernel
theorem dL_law_833 : decode cL_law 833 = .ok (.aload_n 1, 1) := by decide +kernel
theorem dL_law_834 : decode cL_law 834 = .ok (.aload_n 0, 1) := by decide +kernel
theorem dL_law_835 : decode cL_law 835 = .ok (.iload_n 3, 1) := by decide +kernel
theorem dL_law_836 : decode cL_law 836 = .ok (.iconst 1, 1) := by decide +kernel
theorem dL_law_837 : decode cL_law 837 = .ok (.iadd, 1) := by decide +kernel
theorem dL_law_838 : decode cL_law 838 = .ok (.iaload, 1) := by decide +kernel
theorem dL_law_839 : decode cL_law 839 = .ok (.aload_n 0, 1) := by decide +kernel
theorem dL_law_840 : decode cL_law 840 = .ok (.iload_n 3, 1) := by decide +kernel
theorem dL_law_841 : decode cL_law 841 = .ok (.iconst 2, 1) := by decide +kernel
theorem dL_law_842 : decode cL_law 842 = .ok (.iadd, 1) := by decide +kernel
theorem dL_law_843 : decode cL_law 843 = .ok (.iaload, 1) := by decide +kernel
theorem dL_law_844 : decode cL_law 844 = .ok (.invokevirtual 113, 3) := by decide +kernel
theorem dL_law_847 : decode cL_law 847 = .ok (.dstore 4, 2) := by decide +kernel
theorem dL_law_849 : decode cL_law 849 = .ok (.aload_n 2, 1) := by decide +kernel
theorem dL_law_850 : decode cL_law 850 = .ok (.aload_n 0, 1) := by decide +kernel
theorem dL_law_851 : decode cL_law 851 = .ok (.iload_n 3, 1) := by decide +kernel
theorem dL_law_852 : decode cL_law 852 = .ok (.iconst 1, 1) := by decide +kernel
theorem dL_law_853 : decode cL_law 853 = .ok (.iadd, 1) := by decide +kernel
theorem dL_law_854 : decode cL_law 854 = .ok (.iaload, 1) := by decide +kernel
theorem dL_law_855 : decode cL_law 855 = .ok (.aload_n 0, 1) := by decide +kernel
theorem dL_law_856 : decode cL_law 856 = .ok (.iload_n 3, 1) := by decide +kernel
theorem dL_law_857 : decode cL_law 857 = .ok (.iconst 2, 1) := by decide +kernel
theorem dL_law_858 : decode cL_law 858 = .ok (.iadd, 1) := by decide +kernel
theorem dL_law_859 : decode cL_law 859 = .ok (.iaload, 1) := by decide +kernel
theorem dL_law_860 : decode cL_law 860 = .ok (.invokevirtual 116, 3) := by decide +kernel
theorem dL_law_863 : decode cL_law 863 = .ok (.dstore 6, 2) := by decide +kernel
theorem dL_law_865 : decode cL_law 865 = .ok (.dload 4, 2) := by decide +kernel
theorem dL_law_867 : decode cL_law 867 = .ok (.dload 6, 2) := by decide +kernel
theorem dL_law_869 : decode cL_law 869 = .ok (.dcmp .l, 1) := by decide +kernel
theorem dL_law_870 : decode cL_law 870 = .ok (.ifCond .eq 21, 3) := by decide +kernel
theorem dL_law_873 : decode cL_law 873 = .ok (.dload 4, 2) := by decide +kernel
theorem dL_law_875 : decode cL_law 875 = .ok (.dload 4, 2) := by decide +kernel
theorem dL_law_877 : decode cL_law 877 = .ok (.dcmp .l, 1) := by decide +kernel
theorem dL_law_878 : decode cL_law 878 = .ok (.ifCond .eq 11, 3) := by decide +kernel
theorem dL_law_881 : decode cL_law 881 = .ok (.dload 6, 2) := by decide +kernel
theorem dL_law_883 : decode cL_law 883 = .ok (.dload 6, 2) := by decide +kernel
theorem dL_law_885 : decode cL_law 885 = .ok (.dcmp .l, 1) := by decide +kernel
theorem dL_law_886 : decode cL_law 886 = .ok (.ifCond .ne 5, 3) := by decide +kernel
theorem dL_law_889 : decode cL_law 889 = .ok (.iconst 0, 1) := by decide +kernel
theorem dL_law_890 : decode cL_law 890 = .ok (.ireturn, 1) := by decide +kernel
theorem dL_law_891 : decode cL_law 891 = .ok (.goto 26, 3) := by decide +kernel
theorem dL_law_894 : decode cL_law 894 = .ok (.aload_n 1, 1) := by decide +kernel
theorem dL_law_895 : decode cL_law 895 = .ok (.aload_n 0, 1) := by decide +kernel
theorem dL_law_896 : decode cL_law 896 = .ok (.iload_n 3, 1) := by decide +kernel
theorem dL_law_897 : decode cL_law 897 = .ok (.iconst 1, 1) := by decide +kernel
theorem dL_law_898 : decode cL_law 898 = .ok (.iadd, 1) := by decide +kernel
theorem dL_law_899 : decode cL_law 899 = .ok (.iaload, 1) := by decide +kernel
theorem dL_law_900 : decode cL_law 900 = .ok (.invokevirtual 117, 3) := by decide +kernel
theorem dL_law_903 : decode cL_law 903 = .ok (.aload_n 2, 1) := by decide +kernel
theorem dL_law_904 : decode cL_law 904 = .ok (.aload_n 0, 1) := by decide +kernel
theorem dL_law_905 : decode cL_law 905 = .ok (.iload_n 3, 1) := by decide +kernel
theorem dL_law_906 : decode cL_law 906 = .ok (.iconst 1, 1) := by decide +kernel
theorem dL_law_907 : decode cL_law 907 = .ok (.iadd, 1) := by decide +kernel
theorem dL_law_908 : decode cL_law 908 = .ok (.iaload, 1) := by decide +kernel
theorem dL_law_909 : decode cL_law 909 = .ok (.invokevirtual 120, 3) := by decide +kernel
theorem dL_law_912 : decode cL_law 912 = .ok (.if_icmp .eq 5, 3) := by decide +kernel
theorem dL_law_915 : decode cL_law 915 = .ok (.iconst 0, 1) := by decide +kernel
theorem dL_law_916 : decode cL_law 916 = .ok (.ireturn, 1) := by decide +kernel
theorem dL_law_917 : decode cL_law 917 = .ok (.iinc 3 4, 3) := by decide +kernel
theorem dL_law_920 : decode cL_law 920 = .ok (.goto (-902), 3) := by decide +kernel
theorem dL_law_923 : decode cL_law 923 = .ok (.iconst 1, 1) := by decide +kernel
theorem dL_law_924 : decode cL_law 924 = .ok (.ireturn, 1) := by decide +kernel
def w_L_law_L18 (xs : Nat → Int32) (L : Nat) : Nat → Mem → Nat → Nat → Int32 → Prop
  | 0, _, _, _, _ => False
  | fuel + 1, M, o1, o2, a3 => ((((nI L) - (4 : Int32)) < a3 → True) ∧ (¬ ((nI L) - (4 : Int32)) < a3 → (vp_in a3 L ∧ (∀ x1, x1 = xs (Int32.toNatClampNeg a3) → (∀ x2, x2 = x1 &&& (31 : Int32) → ((x2 = (0 : Int32) → (vp_in (a3 + (1 : Int32)) L ∧ (∀ x3, x3 = xs (Int32.toNatClampNeg (a3 + (1 : Int32))) → ((o1 ≤ 457 ∧ kd o1 = (5, 0)) ∧ w_X5_build 457 M o1 x3 (fun x6 M5 => (vp_in (a3 + (1 : Int32)) L ∧ (∀ x7, x7 = xs (Int32.toNatClampNeg (a3 + (1 : Int32))) → ((o2 ≤ 457 ∧ kd o2 = (6, 0)) ∧ w_X6_build 457 M5 o2 x7 (fun x10 M9 => ((x6 = x10 → (∀ x11, x11 = a3 + (4 : Int32) → w_L_law_L18 xs L fuel M9 o1 o2 x11)) ∧ (¬ x6 = x10 → False))))))))))) ∧ (¬ x2 = (0 : Int32) → ((x2 = (1 : Int32) → (vp_in (a3 + (1 : Int32)) L ∧ (∀ x12, x12 = xs (Int32.toNatClampNeg (a3 + (1 : Int32))) → (vp_in (a3 + (2 : Int32)) L ∧ (∀ x13, x13 = xs (Int32.toNatClampNeg (a3 + (2 : Int32))) → (vp_in (a3 + (3 : Int32)) L ∧ (∀ x14, x14 = xs (Int32.toNatClampNeg (a3 + (3 : Int32))) → ((o1 ≤ 457 ∧ kd o1 = (5, 0)) ∧ w_X5_setPressure 457 M o1 x12 (((Int32.toInt64 x13) <<< (Int32.toInt64 (32 : Int32) &&& 63)) ||| ((Int32.toInt64 x14) &&& (4294967295 : Int64))) (fun x17 M16 => (vp_in (a3 + (1 : Int32)) L ∧ (∀ x18, x18 = xs (Int32.toNatClampNeg (a3 + (1 : Int32))) → (vp_in (a3 + (2 : Int32)) L ∧ (∀ x19, x19 = xs (Int32.toNatClampNeg (a3 + (2 : Int32))) → (vp_in (a3 + (3 : Int32)) L ∧ (∀ x20, x20 = xs (Int32.toNatClampNeg (a3 + (3 : Int32))) → ((o2 ≤ 457 ∧ kd o2 = (6, 0)) ∧ w_X6_setPressure 457 M16 o2 x18 (((Int32.toInt64 x19) <<< (Int32.toInt64 (32 : Int32) &&& 63)) ||| ((Int32.toInt64 x20) &&& (4294967295 : Int64))) (fun x23 M22 => ((x17 = x23 → (∀ x24, x24 = a3 + (4 : Int32) → w_L_law_L18 xs L fuel M22 o1 o2 x24)) ∧ (¬ x17 = x23 → False))))))))))))))))))) ∧ (¬ x2 = (1 : Int32) → ((x2 = (2 : Int32) → (vp_in (a3 + (1 : Int32)) L ∧ (∀ x25, x25 = xs (Int32.toNatClampNeg (a3 + (1 : Int32))) → ((o1 ≤ 457 ∧ kd o1 = (5, 0)) ∧ w_X5_setInterval 457 M o1 x25 (fun x28 M27 => (vp_in (a3 + (1 : Int32)) L ∧ (∀ x29, x29 = xs (Int32.toNatClampNeg (a3 + (1 : Int32))) → ((o2 ≤ 457 ∧ kd o2 = (6, 0)) ∧ w_X6_setInterval 457 M27 o2 x29 (fun x32 M31 => ((x28 = x32 → (∀ x33, x33 = a3 + (4 : Int32) → w_L_law_L18 xs L fuel M31 o1 o2 x33)) ∧ (¬ x28 = x32 → False))))))))))) ∧ (¬ x2 = (2 : Int32) → ((x2 = (3 : Int32) → (vp_in (a3 + (1 : Int32)) L ∧ (∀ x34, x34 = xs (Int32.toNatClampNeg (a3 + (1 : Int32))) → (vp_in (a3 + (2 : Int32)) L ∧ (∀ x35, x35 = xs (Int32.toNatClampNeg (a3 + (2 : Int32))) → (vp_in (a3 + (3 : Int32)) L ∧ (∀ x36, x36 = xs (Int32.toNatClampNeg (a3 + (3 : Int32))) → ((o1 ≤ 457 ∧ kd o1 = (5, 0)) ∧ w_X5_equip 457 M o1 x34 x35 x36 (fun x39 M38 => (vp_in (a3 + (1 : Int32)) L ∧ (∀ x40, x40 = xs (Int32.toNatClampNeg (a3 + (1 : Int32))) → (vp_in (a3 + (2 : Int32)) L ∧ (∀ x41, x41 = xs (Int32.toNatClampNeg (a3 + (2 : Int32))) → (vp_in (a3 + (3 : Int32)) L ∧ (∀ x42, x42 = xs (Int32.toNatClampNeg (a3 + (3 : Int32))) → ((o2 ≤ 457 ∧ kd o2 = (6, 0)) ∧ w_X6_equip 457 M38 o2 x40 x41 x42 (fun x45 M44 => ((x39 = x45 → (∀ x46, x46 = a3 + (4 : Int32) → w_L_law_L18 xs L fuel M44 o1 o2 x46)) ∧ (¬ x39 = x45 → False))))))))))))))))))) ∧ (¬ x2 = (3 : Int32) → ((x2 = (4 : Int32) → (vp_in (a3 + (1 : Int32)) L ∧ (∀ x47, x47 = xs (Int32.toNatClampNeg (a3 + (1 : Int32))) → (vp_in (a3 + (2 : Int32)) L ∧ (∀ x48, x48 = xs (Int32.toNatClampNeg (a3 + (2 : Int32))) → ((o1 ≤ 457 ∧ kd o1 = (5, 0)) ∧ w_X5_calibrate 457 M o1 x47 x48 (fun x51 M50 => (vp_in (a3 + (1 : Int32)) L ∧ (∀ x52, x52 = xs (Int32.toNatClampNeg (a3 + (1 : Int32))) → (vp_in (a3 + (2 : Int32)) L ∧ (∀ x53, x53 = xs (Int32.toNatClampNeg (a3 + (2 : Int32))) → ((o2 ≤ 457 ∧ kd o2 = (6, 0)) ∧ w_X6_calibrate 457 M50 o2 x52 x53 (fun x56 M55 => ((x51 = x56 → (∀ x57, x57 = a3 + (4 : Int32) → w_L_law_L18 xs L fuel M55 o1 o2 x57)) ∧ (¬ x51 = x56 → False))))))))))))))) ∧ (¬ x2 = (4 : Int32) → ((x2 = (5 : Int32) → (vp_in (a3 + (1 : Int32)) L ∧ (∀ x58, x58 = xs (Int32.toNatClampNeg (a3 + (1 : Int32))) → ((x58 = 0 → (vp_in (a3 + (2 : Int32)) L ∧ (∀ x59, x59 = xs (Int32.toNatClampNeg (a3 + (2 : Int32))) → (vp_in (a3 + (3 : Int32)) L ∧ (∀ x60, x60 = xs (Int32.toNatClampNeg (a3 + (3 : Int32))) → ((o1 ≤ 457 ∧ kd o1 = (5, 0)) ∧ w_X5_add 457 M o1 (0 : Int32) x59 x60 (fun x63 M62 => (vp_in (a3 + (1 : Int32)) L ∧ (∀ x64, x64 = xs (Int32.toNatClampNeg (a3 + (1 : Int32))) → ((x64 = 0 → (vp_in (a3 + (2 : Int32)) L ∧ (∀ x65, x65 = xs (Int32.toNatClampNeg (a3 + (2 : Int32))) → (vp_in (a3 + (3 : Int32)) L ∧ (∀ x66, x66 = xs (Int32.toNatClampNeg (a3 + (3 : Int32))) → ((o2 ≤ 457 ∧ kd o2 = (6, 0)) ∧ w_X6_add 457 M62 o2 (0 : Int32) x65 x66 (fun x69 M68 => ((x63 = x69 → (∀ x70, x70 = a3 + (4 : Int32) → w_L_law_L18 xs L fuel M68 o1 o2 x70)) ∧ (¬ x63 = x69 → False))))))))) ∧ (¬ x64 = 0 → (vp_in (a3 + (2 : Int32)) L ∧ (∀ x71, x71 = xs (Int32.toNatClampNeg (a3 + (2 : Int32))) → (vp_in (a3 + (3 : Int32)) L ∧ (∀ x72, x72 = xs (Int32.toNatClampNeg (a3 + (3 : Int32))) → ((o2 ≤ 457 ∧ kd o2 = (6, 0)) ∧ w_X6_add 457 M62 o2 (1 : Int32) x71 x72 (fun x75 M74 => ((x63 = x75 → (∀ x76, x76 = a3 + (4 : Int32) → w_L_law_L18 xs L fuel M74 o1 o2 x76)) ∧ (¬ x63 = x75 → False))))))))))))))))))) ∧ (¬ x58 = 0 → (vp_in (a3 + (2 : Int32)) L ∧ (∀ x77, x77 = xs (Int32.toNatClampNeg (a3 + (2 : Int32))) → (vp_in (a3 + (3 : Int32)) L ∧ (∀ x78, x78 = xs (Int32.toNatClampNeg (a3 + (3 : Int32))) → ((o1 ≤ 457 ∧ kd o1 = (5, 0)) ∧ w_X5_add 457 M o1 (1 : Int32) x77 x78 (fun x81 M80 => (vp_in (a3 + (1 : Int32)) L ∧ (∀ x82, x82 = xs (Int32.toNatClampNeg (a3 + (1 : Int32))) → ((x82 = 0 → (vp_in (a3 + (2 : Int32)) L ∧ (∀ x83, x83 = xs (Int32.toNatClampNeg (a3 + (2 : Int32))) → (vp_in (a3 + (3 : Int32)) L ∧ (∀ x84, x84 = xs (Int32.toNatClampNeg (a3 + (3 : Int32))) → ((o2 ≤ 457 ∧ kd o2 = (6, 0)) ∧ w_X6_add 457 M80 o2 (0 : Int32) x83 x84 (fun x87 M86 => ((x81 = x87 → (∀ x88, x88 = a3 + (4 : Int32) → w_L_law_L18 xs L fuel M86 o1 o2 x88)) ∧ (¬ x81 = x87 → False))))))))) ∧ (¬ x82 = 0 → (vp_in (a3 + (2 : Int32)) L ∧ (∀ x89, x89 = xs (Int32.toNatClampNeg (a3 + (2 : Int32))) → (vp_in (a3 + (3 : Int32)) L ∧ (∀ x90, x90 = xs (Int32.toNatClampNeg (a3 + (3 : Int32))) → ((o2 ≤ 457 ∧ kd o2 = (6, 0)) ∧ w_X6_add 457 M80 o2 (1 : Int32) x89 x90 (fun x93 M92 => ((x81 = x93 → (∀ x94, x94 = a3 + (4 : Int32) → w_L_law_L18 xs L fuel M92 o1 o2 x94)) ∧ (¬ x81 = x93 → False))))))))))))))))))))))) ∧ (¬ x2 = (5 : Int32) → ((x2 = (6 : Int32) → (vp_in (a3 + (1 : Int32)) L ∧ (∀ x95, x95 = xs (Int32.toNatClampNeg (a3 + (1 : Int32))) → ((o1 ≤ 457 ∧ kd o1 = (5, 0)) ∧ w_X5_run 457 M o1 x95 (fun x98 M97 => (vp_in (a3 + (1 : Int32)) L ∧ (∀ x99, x99 = xs (Int32.toNatClampNeg (a3 + (1 : Int32))) → ((o2 ≤ 457 ∧ kd o2 = (6, 0)) ∧ w_X6_run 457 M97 o2 x99 (fun x102 M101 => ((x98 = x102 → (∀ x103, x103 = a3 + (4 : Int32) → w_L_law_L18 xs L fuel M101 o1 o2 x103)) ∧ (¬ x98 = x102 → False))))))))))) ∧ (¬ x2 = (6 : Int32) → ((x2 = (7 : Int32) → (vp_in (a3 + (1 : Int32)) L ∧ (∀ x104, x104 = xs (Int32.toNatClampNeg (a3 + (1 : Int32))) → ((o1 ≤ 457 ∧ kd o1 = (5, 0)) ∧ w_X5_type 457 M o1 ((Int32.toUInt32 x104 % 65536).toInt32) (fun x107 M106 => (vp_in (a3 + (1 : Int32)) L ∧ (∀ x108, x108 = xs (Int32.toNatClampNeg (a3 + (1 : Int32))) → ((o2 ≤ 457 ∧ kd o2 = (6, 0)) ∧ w_X6_type 457 M106 o2 ((Int32.toUInt32 x108 % 65536).toInt32) (fun x111 M110 => ((x107 = x111 → (∀ x112, x112 = a3 + (4 : Int32) → w_L_law_L18 xs L fuel M110 o1 o2 x112)) ∧ (¬ x107 = x111 → False))))))))))) ∧ (¬ x2 = (7 : Int32) → ((x2 = (8 : Int32) → ((o1 ≤ 457 ∧ kd o1 = (5, 0)) ∧ w_X5_clearText 457 M o1  (fun x115 M114 => ((o2 ≤ 457 ∧ kd o2 = (6, 0)) ∧ w_X6_clearText 457 M114 o2  (fun x118 M117 => ((x115 = x118 → (∀ x119, x119 = a3 + (4 : Int32) → w_L_law_L18 xs L fuel M117 o1 o2 x119)) ∧ (¬ x115 = x118 → False))))))) ∧ (¬ x2 = (8 : Int32) → ((x2 = (9 : Int32) → ((o1 ≤ 457 ∧ kd o1 = (5, 0)) ∧ w_X5_readParts 457 M o1  (fun x122 M121 => ((o2 ≤ 457 ∧ kd o2 = (6, 0)) ∧ w_X6_readParts 457 M121 o2  (fun x125 M124 => ((x122 = x125 → (∀ x126, x126 = a3 + (4 : Int32) → w_L_law_L18 xs L fuel M124 o1 o2 x126)) ∧ (¬ x122 = x125 → False))))))) ∧ (¬ x2 = (9 : Int32) → ((x2 = (10 : Int32) → ((o1 ≤ 457 ∧ kd o1 = (5, 0)) ∧ w_X5_perform 457 M o1  (fun x129 M128 => ((o2 ≤ 457 ∧ kd o2 = (6, 0)) ∧ w_X6_perform 457 M128 o2  (fun x132 M131 => ((x129 = x132 → (∀ x133, x133 = a3 + (4 : Int32) → w_L_law_L18 xs L fuel M131 o1 o2 x133)) ∧ (¬ x129 = x132 → False))))))) ∧ (¬ x2 = (10 : Int32) → ((x2 = (11 : Int32) → ((o1 ≤ 457 ∧ kd o1 = (5, 0)) ∧ w_X5_undo 457 M o1  (fun x136 M135 => ((o2 ≤ 457 ∧ kd o2 = (6, 0)) ∧ w_X6_undo 457 M135 o2  (fun x139 M138 => ((x136 = x139 → (∀ x140, x140 = a3 + (4 : Int32) → w_L_law_L18 xs L fuel M138 o1 o2 x140)) ∧ (¬ x136 = x139 → False))))))) ∧ (¬ x2 = (11 : Int32) → ((x2 = (12 : Int32) → ((o1 ≤ 457 ∧ kd o1 = (5, 0)) ∧ w_X5_keep 457 M o1  (fun x143 M142 => ((o2 ≤ 457 ∧ kd o2 = (6, 0)) ∧ w_X6_keep 457 M142 o2  (fun x146 M145 => ((x143 = x146 → (∀ x147, x147 = a3 + (4 : Int32) → w_L_law_L18 xs L fuel M145 o1 o2 x147)) ∧ (¬ x143 = x146 → False))))))) ∧ (¬ x2 = (12 : Int32) → ((x2 = (13 : Int32) → ((o1 ≤ 457 ∧ kd o1 = (5, 0)) ∧ w_X5_restore 457 M o1  (fun x150 M149 => ((o2 ≤ 457 ∧ kd o2 = (6, 0)) ∧ w_X6_restore 457 M149 o2  (fun x153 M152 => ((x150 = x153 → (∀ x154, x154 = a3 + (4 : Int32) → w_L_law_L18 xs L fuel M152 o1 o2 x154)) ∧ (¬ x150 = x153 → False))))))) ∧ (¬ x2 = (13 : Int32) → ((x2 = (14 : Int32) → (vp_in (a3 + (1 : Int32)) L ∧ (∀ x155, x155 = xs (Int32.toNatClampNeg (a3 + (1 : Int32))) → (vp_in (a3 + (2 : Int32)) L ∧ (∀ x156, x156 = xs (Int32.toNatClampNeg (a3 + (2 : Int32))) → ((o1 ≤ 457 ∧ kd o1 = (5, 0)) ∧ w_X5_head 457 M o1 x155 x156 (fun x159 M158 => (vp_in (a3 + (1 : Int32)) L ∧ (∀ x160, x160 = xs (Int32.toNatClampNeg (a3 + (1 : Int32))) → (vp_in (a3 + (2 : Int32)) L ∧ (∀ x161, x161 = xs (Int32.toNatClampNeg (a3 + (2 : Int32))) → ((o2 ≤ 457 ∧ kd o2 = (6, 0)) ∧ w_X6_head 457 M158 o2 x160 x161 (fun x164 M163 => ((x159 = x164 → (∀ x165, x165 = a3 + (4 : Int32) → w_L_law_L18 xs L fuel M163 o1 o2 x165)) ∧ (¬ x159 = x164 → False))))))))))))))) ∧ (¬ x2 = (14 : Int32) → ((x2 = (15 : Int32) → (vp_in (a3 + (1 : Int32)) L ∧ (∀ x166, x166 = xs (Int32.toNatClampNeg (a3 + (1 : Int32))) → (vp_in (a3 + (2 : Int32)) L ∧ (∀ x167, x167 = xs (Int32.toNatClampNeg (a3 + (2 : Int32))) → ((o1 ≤ 457 ∧ kd o1 = (5, 0)) ∧ w_X5_gauge 457 M o1 x166 x167 (fun z170 M169 => (vp_in (a3 + (1 : Int32)) L ∧ (∀ x171, x171 = xs (Int32.toNatClampNeg (a3 + (1 : Int32))) → (vp_in (a3 + (2 : Int32)) L ∧ (∀ x172, x172 = xs (Int32.toNatClampNeg (a3 + (2 : Int32))) → ((o2 ≤ 457 ∧ kd o2 = (6, 0)) ∧ w_X6_gauge 457 M169 o2 x171 x172 (fun z175 M174 => (((Op.cmpValue (FP.dcmp z170 z175) CmpOp.l) = 0 → (∀ x176, x176 = a3 + (4 : Int32) → w_L_law_L18 xs L fuel M174 o1 o2 x176)) ∧ (¬ (Op.cmpValue (FP.dcmp z170 z175) CmpOp.l) = 0 → (((Op.cmpValue (FP.dcmp z170 z170) CmpOp.l) = 0 → False) ∧ (¬ (Op.cmpValue (FP.dcmp z170 z170) CmpOp.l) = 0 → ((¬ (Op.cmpValue (FP.dcmp z175 z175) CmpOp.l) = 0 → (∀ x177, x177 = a3 + (4 : Int32) → w_L_law_L18 xs L fuel M174 o1 o2 x177)) ∧ ((Op.cmpValue (FP.dcmp z175 z175) CmpOp.l) = 0 → False))))))))))))))))))) ∧ (¬ x2 = (15 : Int32) → ((x2 = (16 : Int32) → (vp_in (a3 + (1 : Int32)) L ∧ (∀ x178, x178 = xs (Int32.toNatClampNeg (a3 + (1 : Int32))) → ((o1 ≤ 457 ∧ kd o1 = (5, 0)) ∧ w_X5_display 457 M o1 x178 (fun x181 M180 => (vp_in (a3 + (1 : Int32)) L ∧ (∀ x182, x182 = xs (Int32.toNatClampNeg (a3 + (1 : Int32))) → ((o2 ≤ 457 ∧ kd o2 = (6, 0)) ∧ w_X6_display 457 M180 o2 x182 (fun x185 M184 => ((x181 = x185 → (∀ x186, x186 = a3 + (4 : Int32) → w_L_law_L18 xs L fuel M184 o1 o2 x186)) ∧ (¬ x181 = x185 → False))))))))))) ∧ (¬ x2 = (16 : Int32) → ((x2 = (17 : Int32) → (vp_in (a3 + (1 : Int32)) L ∧ (∀ x187, x187 = xs (Int32.toNatClampNeg (a3 + (1 : Int32))) → (vp_in (a3 + (2 : Int32)) L ∧ (∀ x188, x188 = xs (Int32.toNatClampNeg (a3 + (2 : Int32))) → ((o1 ≤ 457 ∧ kd o1 = (5, 0)) ∧ w_X5_part 457 M o1 x187 x188 (fun x191 M190 => (vp_in (a3 + (1 : Int32)) L ∧ (∀ x192, x192 = xs (Int32.toNatClampNeg (a3 + (1 : Int32))) → (vp_in (a3 + (2 : Int32)) L ∧ (∀ x193, x193 = xs (Int32.toNatClampNeg (a3 + (2 : Int32))) → ((o2 ≤ 457 ∧ kd o2 = (6, 0)) ∧ w_X6_part 457 M190 o2 x192 x193 (fun x196 M195 => ((x191 = x196 → (∀ x197, x197 = a3 + (4 : Int32) → w_L_law_L18 xs L fuel M195 o1 o2 x197)) ∧ (¬ x191 = x196 → False))))))))))))))) ∧ (¬ x2 = (17 : Int32) → ((x2 = (18 : Int32) → (vp_in (a3 + (1 : Int32)) L ∧ (∀ x198, x198 = xs (Int32.toNatClampNeg (a3 + (1 : Int32))) → (vp_in (a3 + (2 : Int32)) L ∧ (∀ x199, x199 = xs (Int32.toNatClampNeg (a3 + (2 : Int32))) → ((o1 ≤ 457 ∧ kd o1 = (5, 0)) ∧ w_X5_fits 457 M o1 x198 x199 (fun x202 M201 => (vp_in (a3 + (1 : Int32)) L ∧ (∀ x203, x203 = xs (Int32.toNatClampNeg (a3 + (1 : Int32))) → (vp_in (a3 + (2 : Int32)) L ∧ (∀ x204, x204 = xs (Int32.toNatClampNeg (a3 + (2 : Int32))) → ((o2 ≤ 457 ∧ kd o2 = (6, 0)) ∧ w_X6_fits 457 M201 o2 x203 x204 (fun x207 M206 => ((x202 = x207 → (∀ x208, x208 = a3 + (4 : Int32) → w_L_law_L18 xs L fuel M206 o1 o2 x208)) ∧ (¬ x202 = x207 → False))))))))))))))) ∧ (¬ x2 = (18 : Int32) → ((x2 = (19 : Int32) → (vp_in (a3 + (1 : Int32)) L ∧ (∀ x209, x209 = xs (Int32.toNatClampNeg (a3 + (1 : Int32))) → ((o1 ≤ 457 ∧ kd o1 = (5, 0)) ∧ w_X5_value 457 M o1 x209 (fun z212 M211 => (vp_in (a3 + (1 : Int32)) L ∧ (∀ x213, x213 = xs (Int32.toNatClampNeg (a3 + (1 : Int32))) → ((o2 ≤ 457 ∧ kd o2 = (6, 0)) ∧ w_X6_value 457 M211 o2 x213 (fun z216 M215 => (((Op.cmpValue (FP.dcmp z212 z216) CmpOp.l) = 0 → (∀ x217, x217 = a3 + (4 : Int32) → w_L_law_L18 xs L fuel M215 o1 o2 x217)) ∧ (¬ (Op.cmpValue (FP.dcmp z212 z216) CmpOp.l) = 0 → (((Op.cmpValue (FP.dcmp z212 z212) CmpOp.l) = 0 → False) ∧ (¬ (Op.cmpValue (FP.dcmp z212 z212) CmpOp.l) = 0 → ((¬ (Op.cmpValue (FP.dcmp z216 z216) CmpOp.l) = 0 → (∀ x218, x218 = a3 + (4 : Int32) → w_L_law_L18 xs L fuel M215 o1 o2 x218)) ∧ ((Op.cmpValue (FP.dcmp z216 z216) CmpOp.l) = 0 → False))))))))))))))) ∧ (¬ x2 = (19 : Int32) → ((x2 = (20 : Int32) → (vp_in (a3 + (1 : Int32)) L ∧ (∀ x219, x219 = xs (Int32.toNatClampNeg (a3 + (1 : Int32))) → (vp_in (a3 + (2 : Int32)) L ∧ (∀ x220, x220 = xs (Int32.toNatClampNeg (a3 + (2 : Int32))) → ((o1 ≤ 457 ∧ kd o1 = (5, 0)) ∧ w_X5_foretold 457 M o1 x219 x220 (fun z223 M222 => (vp_in (a3 + (1 : Int32)) L ∧ (∀ x224, x224 = xs (Int32.toNatClampNeg (a3 + (1 : Int32))) → (vp_in (a3 + (2 : Int32)) L ∧ (∀ x225, x225 = xs (Int32.toNatClampNeg (a3 + (2 : Int32))) → ((o2 ≤ 457 ∧ kd o2 = (6, 0)) ∧ w_X6_foretold 457 M222 o2 x224 x225 (fun z228 M227 => (((Op.cmpValue (FP.dcmp z223 z228) CmpOp.l) = 0 → (∀ x229, x229 = a3 + (4 : Int32) → w_L_law_L18 xs L fuel M227 o1 o2 x229)) ∧ (¬ (Op.cmpValue (FP.dcmp z223 z228) CmpOp.l) = 0 → (((Op.cmpValue (FP.dcmp z223 z223) CmpOp.l) = 0 → False) ∧ (¬ (Op.cmpValue (FP.dcmp z223 z223) CmpOp.l) = 0 → ((¬ (Op.cmpValue (FP.dcmp z228 z228) CmpOp.l) = 0 → (∀ x230, x230 = a3 + (4 : Int32) → w_L_law_L18 xs L fuel M227 o1 o2 x230)) ∧ ((Op.cmpValue (FP.dcmp z228 z228) CmpOp.l) = 0 → False))))))))))))))))))) ∧ (¬ x2 = (20 : Int32) → ((x2 = (21 : Int32) → (vp_in (a3 + (1 : Int32)) L ∧ (∀ x231, x231 = xs (Int32.toNatClampNeg (a3 + (1 : Int32))) → ((o1 ≤ 457 ∧ kd o1 = (5, 0)) ∧ w_X5_pressureBits 457 M o1 x231 (fun y234 M233 => (vp_in (a3 + (1 : Int32)) L ∧ (∀ x235, x235 = xs (Int32.toNatClampNeg (a3 + (1 : Int32))) → ((o2 ≤ 457 ∧ kd o2 = (6, 0)) ∧ w_X6_pressureBits 457 M233 o2 x235 (fun y238 M237 => (((lg_cmp y234 y238) = 0 → (∀ x239, x239 = a3 + (4 : Int32) → w_L_law_L18 xs L fuel M237 o1 o2 x239)) ∧ (¬ (lg_cmp y234 y238) = 0 → False))))))))))) ∧ (¬ x2 = (21 : Int32) → ((x2 = (22 : Int32) → (vp_in (a3 + (1 : Int32)) L ∧ (∀ x240, x240 = xs (Int32.toNatClampNeg (a3 + (1 : Int32))) → (vp_in (a3 + (2 : Int32)) L ∧ (∀ x241, x241 = xs (Int32.toNatClampNeg (a3 + (2 : Int32))) → ((o1 ≤ 457 ∧ kd o1 = (5, 0)) ∧ w_X5_trace 457 M o1 x240 x241 (fun z244 M243 => (vp_in (a3 + (1 : Int32)) L ∧ (∀ x245, x245 = xs (Int32.toNatClampNeg (a3 + (1 : Int32))) → (vp_in (a3 + (2 : Int32)) L ∧ (∀ x246, x246 = xs (Int32.toNatClampNeg (a3 + (2 : Int32))) → ((o2 ≤ 457 ∧ kd o2 = (6, 0)) ∧ w_X6_trace 457 M243 o2 x245 x246 (fun z249 M248 => (((Op.cmpValue (FP.dcmp z244 z249) CmpOp.l) = 0 → (∀ x250, x250 = a3 + (4 : Int32) → w_L_law_L18 xs L fuel M248 o1 o2 x250)) ∧ (¬ (Op.cmpValue (FP.dcmp z244 z249) CmpOp.l) = 0 → (((Op.cmpValue (FP.dcmp z244 z244) CmpOp.l) = 0 → False) ∧ (¬ (Op.cmpValue (FP.dcmp z244 z244) CmpOp.l) = 0 → ((¬ (Op.cmpValue (FP.dcmp z249 z249) CmpOp.l) = 0 → (∀ x251, x251 = a3 + (4 : Int32) → w_L_law_L18 xs L fuel M248 o1 o2 x251)) ∧ ((Op.cmpValue (FP.dcmp z249 z249) CmpOp.l) = 0 → False))))))))))))))))))) ∧ (¬ x2 = (22 : Int32) → ((x2 = (23 : Int32) → (vp_in (a3 + (1 : Int32)) L ∧ (∀ x252, x252 = xs (Int32.toNatClampNeg (a3 + (1 : Int32))) → ((o1 ≤ 457 ∧ kd o1 = (5, 0)) ∧ w_X5_count 457 M o1 x252 (fun x255 M254 => (vp_in (a3 + (1 : Int32)) L ∧ (∀ x256, x256 = xs (Int32.toNatClampNeg (a3 + (1 : Int32))) → ((o2 ≤ 457 ∧ kd o2 = (6, 0)) ∧ w_X6_count 457 M254 o2 x256 (fun x259 M258 => ((x255 = x259 → (∀ x260, x260 = a3 + (4 : Int32) → w_L_law_L18 xs L fuel M258 o1 o2 x260)) ∧ (¬ x255 = x259 → False))))))))))) ∧ (¬ x2 = (23 : Int32) → (∀ x261, x261 = a3 + (4 : Int32) → w_L_law_L18 xs L fuel M o1 o2 x261))))))))))))))))))))))))))))))))))))))))))))))))))))))
set_option maxHeartbeats 4000000 in
set_option maxRecDepth 20000 in
theorem law_L18 {p : Program} {e : Env} {s : State} {m : MethodId} {below : List Frame} {meth : Method} {c : Code} (l : Launch) (E : Gl) {b L : Nat} {xs : Nat → Int32} (X : CX E p s m c cL_law 8 RL) (SXh : SX E s b L xs) (hr : meth.sig.returnType = ret) (hlk : meth.locks = false) : ∀ (fuel : Nat) (M : Mem) (o1 : Nat) (o2 : Nat) (a3 : Int32), w_L_law_L18 xs L fuel M o1 o2 a3 → G E p l e room_1 s m #[Value.ref b] below meth c 8 457 M 600000 7302249 (lw_Z below #[Value.ref b] s) 18 [(0, xV b), (1, rV o1), (2, rV o2), (3, iV a3)] [] := by
  intro fuel
  induction fuel with
  | zero => intro M o1 o2 a3 hw; exact False.elim hw
  | succ fuel ih =>
    intro M o1 o2 a3 hw
    unfold w_L_law_L18 at hw
    refine g_iload_n X dL_law_18 3 rfl ?_
    refine g_aload_nS X dL_law_19 0 rfl ?_
    refine g_slen X SXh dL_law_20 ?_
    refine g_iconst X (4 : Int32) dL_law_21 (by decide) ?_
    refine g_isub X dL_law_22 ?_
    refine g_icmp_gt X 923 dL_law_23 (by decide) hw (fun hw => ?_) (fun hw => ?_)
    · refine g_iconst X (1 : Int32) dL_law_923 (by decide) ?_
      exact g_lawret X SXh hr hlk dL_law_924
    · refine g_aload_nS X dL_law_26 0 rfl ?_
      refine g_iload_n X dL_law_27 3 rfl ?_
      refine g_sld X SXh dL_law_28 hw (fun hw => ?_)
      refine g_topI (fun x1 hx1 => ?_)
      have hw := hw x1 hx1
      refine g_bipush X (31 : Int32) dL_law_29 (by decide) ?_
      refine g_iand X dL_law_31 ?_
      refine g_topI (fun x2 hx2 => ?_)
      have hw := hw x2 hx2
      by_cases q0 : x2 = (0 : Int32)
      · have hw := hw.1 q0
        refine g_swIn (off := 112) X 144 dL_law_32 (by rw [q0]; decide) (by rw [q0]; decide) (by rw [q0]; decide) (by decide) ?_
        refine g_aload_n X dL_law_144 1 rfl ?_
        refine g_aload_nS X dL_law_145 0 rfl ?_
        refine g_iload_n X dL_law_146 3 rfl ?_
        refine g_iconst X (1 : Int32) dL_law_147 (by decide) ?_
        refine g_iadd X dL_law_148 ?_
        refine g_sld X SXh dL_law_149 hw (fun hw => ?_)
        refine g_topI (fun x3 hx3 => ?_)
        have hw := hw x3 hx3
        obtain ⟨hk4, hw⟩ := hw
        refine g_calli (pc' := 153) (rest := []) rfl (fun H locs ls d qR qL => g_runV X cw_L_13 iv_X5_build ⟨Nat.le_of_ble_eq_true rfl, Nat.le_of_ble_eq_true rfl⟩ dL_law_150 (c_X5_build l E 457 M o1 x3 _ hw) hk4 rfl rfl (Nat.le_of_ble_eq_true rfl) ⟨Nat.le_of_ble_eq_true rfl, Nat.le_of_ble_eq_true rfl⟩ qR qL) (fun x6 M5 hw => ?_)
        refine g_aload_n X dL_law_153 2 rfl ?_
        refine g_aload_nS X dL_law_154 0 rfl ?_
        refine g_iload_n X dL_law_155 3 rfl ?_
        refine g_iconst X (1 : Int32) dL_law_156 (by decide) ?_
        refine g_iadd X dL_law_157 ?_
        refine g_sld X SXh dL_law_158 hw (fun hw => ?_)
        refine g_topI (fun x7 hx7 => ?_)
        have hw := hw x7 hx7
        obtain ⟨hk8, hw⟩ := hw
        refine g_calli (pc' := 162) (rest := [iV x6]) rfl (fun H locs ls d qR qL => g_runV X cw_L_17 iv_X6_build ⟨Nat.le_of_ble_eq_true rfl, Nat.le_of_ble_eq_true rfl⟩ dL_law_159 (c_X6_build l E 457 M5 o2 x7 _ hw) hk8 rfl rfl (Nat.le_of_ble_eq_true rfl) ⟨Nat.le_of_ble_eq_true rfl, Nat.le_of_ble_eq_true rfl⟩ qR qL) (fun x10 M9 hw => ?_)
        refine g_icmp_eq X 917 dL_law_162 (by decide) hw (fun hw => ?_) (fun hw => ?_)
        · obtain ⟨x11, hx11⟩ : ∃ y : Int32, y = a3 + (4 : Int32) := ⟨_, rfl⟩
          have hw := hw x11 hx11
          refine g_iinc (lv' := [(3, iV x11), (0, xV b), (1, rV o1), (2, rV o2)]) X x11 dL_law_917 3 rfl (by rw [hx11]; rfl) (by decide) rfl ?_
          refine g_goto X 18 dL_law_920 (by decide) ?_
          refine g_lvsub (lv' := [(0, xV b), (1, rV o1), (2, rV o2), (3, iV x11)]) [1, 2, 3, 0] rfl ?_
          exact ih _ _ _ _ hw
        · refine g_iconst X (0 : Int32) dL_law_165 (by decide) ?_
          exact hw.elim
      have hw := hw.2 q0
      by_cases q1 : x2 = (1 : Int32)
      · have hw := hw.1 q1
        refine g_swIn (off := 135) X 167 dL_law_32 (by rw [q1]; decide) (by rw [q1]; decide) (by rw [q1]; decide) (by decide) ?_
        refine g_aload_n X dL_law_167 1 rfl ?_
        refine g_aload_nS X dL_law_168 0 rfl ?_
        refine g_iload_n X dL_law_169 3 rfl ?_
        refine g_iconst X (1 : Int32) dL_law_170 (by decide) ?_
        refine g_iadd X dL_law_171 ?_
        refine g_sld X SXh dL_law_172 hw (fun hw => ?_)
        refine g_topI (fun x12 hx12 => ?_)
        have hw := hw x12 hx12
        refine g_aload_nS X dL_law_173 0 rfl ?_
        refine g_iload_n X dL_law_174 3 rfl ?_
        refine g_iconst X (2 : Int32) dL_law_175 (by decide) ?_
        refine g_iadd X dL_law_176 ?_
        refine g_sld X SXh dL_law_177 hw (fun hw => ?_)
        refine g_topI (fun x13 hx13 => ?_)
        have hw := hw x13 hx13
        refine g_i2l X dL_law_178 ?_
        refine g_bipush X (32 : Int32) dL_law_179 (by decide) ?_
        refine g_lshl X dL_law_181 ?_
        refine g_aload_nS X dL_law_182 0 rfl ?_
        refine g_iload_n X dL_law_183 3 rfl ?_
        refine g_iconst X (3 : Int32) dL_law_184 (by decide) ?_
        refine g_iadd X dL_law_185 ?_
        refine g_sld X SXh dL_law_186 hw (fun hw => ?_)
        refine g_topI (fun x14 hx14 => ?_)
        have hw := hw x14 hx14
        refine g_i2l X dL_law_187 ?_
        refine g_ldcL X (4294967295 : Int64) dL_law_188 wk_L_18 ?_
        refine g_land X dL_law_191 ?_
        refine g_lor X dL_law_192 ?_
        obtain ⟨hk15, hw⟩ := hw
        refine g_calli (pc' := 196) (rest := []) rfl (fun H locs ls d qR qL => g_runV X cw_L_20 iv_X5_setPressure ⟨Nat.le_of_ble_eq_true rfl, Nat.le_of_ble_eq_true rfl⟩ dL_law_193 (c_X5_setPressure l E 457 M o1 x12 (((Int32.toInt64 x13) <<< (Int32.toInt64 (32 : Int32) &&& 63)) ||| ((Int32.toInt64 x14) &&& (4294967295 : Int64))) _ hw) hk15 rfl rfl (Nat.le_of_ble_eq_true rfl) ⟨Nat.le_of_ble_eq_true rfl, Nat.le_of_ble_eq_true rfl⟩ qR qL) (fun x17 M16 hw => ?_)
        refine g_aload_n X dL_law_196 2 rfl ?_
        refine g_aload_nS X dL_law_197 0 rfl ?_
        refine g_iload_n X dL_law_198 3 rfl ?_
        refine g_iconst X (1 : Int32) dL_law_199 (by decide) ?_
        refine g_iadd X dL_law_200 ?_
        refine g_sld X SXh dL_law_201 hw (fun hw => ?_)
        refine g_topI (fun x18 hx18 => ?_)
        have hw := hw x18 hx18
        refine g_aload_nS X dL_law_202 0 rfl ?_
        refine g_iload_n X dL_law_203 3 rfl ?_
        refine g_iconst X (2 : Int32) dL_law_204 (by decide) ?_
        refine g_iadd X dL_law_205 ?_
        refine g_sld X SXh dL_law_206 hw (fun hw => ?_)
        refine g_topI (fun x19 hx19 => ?_)
        have hw := hw x19 hx19
        refine g_i2l X dL_law_207 ?_
        refine g_bipush X (32 : Int32) dL_law_208 (by decide) ?_
        refine g_lshl X dL_law_210 ?_
        refine g_aload_nS X dL_law_211 0 rfl ?_
        refine g_iload_n X dL_law_212 3 rfl ?_
        refine g_iconst X (3 : Int32) dL_law_213 (by decide) ?_
        refine g_iadd X dL_law_214 ?_
        refine g_sld X SXh dL_law_215 hw (fun hw => ?_)
        refine g_topI (fun x20 hx20 => ?_)
        have hw := hw x20 hx20
        refine g_i2l X dL_law_216 ?_
        refine g_ldcL X (4294967295 : Int64) dL_law_217 wk_L_18 ?_
        refine g_land X dL_law_220 ?_
        refine g_lor X dL_law_221 ?_
        obtain ⟨hk21, hw⟩ := hw
        refine g_calli (pc' := 225) (rest := [iV x17]) rfl (fun H locs ls d qR qL => g_runV X cw_L_24 iv_X6_setPressure ⟨Nat.le_of_ble_eq_true rfl, Nat.le_of_ble_eq_true rfl⟩ dL_law_222 (c_X6_setPressure l E 457 M16 o2 x18 (((Int32.toInt64 x19) <<< (Int32.toInt64 (32 : Int32) &&& 63)) ||| ((Int32.toInt64 x20) &&& (4294967295 : Int64))) _ hw) hk21 rfl rfl (Nat.le_of_ble_eq_true rfl) ⟨Nat.le_of_ble_eq_true rfl, Nat.le_of_ble_eq_true rfl⟩ qR qL) (fun x23 M22 hw => ?_)
        refine g_icmp_eq X 917 dL_law_225 (by decide) hw (fun hw => ?_) (fun hw => ?_)
        · obtain ⟨x24, hx24⟩ : ∃ y : Int32, y = a3 + (4 : Int32) := ⟨_, rfl⟩
          have hw := hw x24 hx24
          refine g_iinc (lv' := [(3, iV x24), (0, xV b), (1, rV o1), (2, rV o2)]) X x24 dL_law_917 3 rfl (by rw [hx24]; rfl) (by decide) rfl ?_
          refine g_goto X 18 dL_law_920 (by decide) ?_
          refine g_lvsub (lv' := [(0, xV b), (1, rV o1), (2, rV o2), (3, iV x24)]) [1, 2, 3, 0] rfl ?_
          exact ih _ _ _ _ hw
        · refine g_iconst X (0 : Int32) dL_law_228 (by decide) ?_
          exact hw.elim
      have hw := hw.2 q1
      by_cases q2 : x2 = (2 : Int32)
      · have hw := hw.1 q2
        refine g_swIn (off := 198) X 230 dL_law_32 (by rw [q2]; decide) (by rw [q2]; decide) (by rw [q2]; decide) (by decide) ?_
        refine g_aload_n X dL_law_230 1 rfl ?_
        refine g_aload_nS X dL_law_231 0 rfl ?_
        refine g_iload_n X dL_law_232 3 rfl ?_
        refine g_iconst X (1 : Int32) dL_law_233 (by decide) ?_
        refine g_iadd X dL_law_234 ?_
        refine g_sld X SXh dL_law_235 hw (fun hw => ?_)
        refine g_topI (fun x25 hx25 => ?_)
        have hw := hw x25 hx25
        obtain ⟨hk26, hw⟩ := hw
        refine g_calli (pc' := 239) (rest := []) rfl (fun H locs ls d qR qL => g_runV X cw_L_25 iv_X5_setInterval ⟨Nat.le_of_ble_eq_true rfl, Nat.le_of_ble_eq_true rfl⟩ dL_law_236 (c_X5_setInterval l E 457 M o1 x25 _ hw) hk26 rfl rfl (Nat.le_of_ble_eq_true rfl) ⟨Nat.le_of_ble_eq_true rfl, Nat.le_of_ble_eq_true rfl⟩ qR qL) (fun x28 M27 hw => ?_)
        refine g_aload_n X dL_law_239 2 rfl ?_
        refine g_aload_nS X dL_law_240 0 rfl ?_
        refine g_iload_n X dL_law_241 3 rfl ?_
        refine g_iconst X (1 : Int32) dL_law_242 (by decide) ?_
        refine g_iadd X dL_law_243 ?_
        refine g_sld X SXh dL_law_244 hw (fun hw => ?_)
        refine g_topI (fun x29 hx29 => ?_)
        have hw := hw x29 hx29
        obtain ⟨hk30, hw⟩ := hw
        refine g_calli (pc' := 248) (rest := [iV x28]) rfl (fun H locs ls d qR qL => g_runV X cw_L_28 iv_X6_setInterval ⟨Nat.le_of_ble_eq_true rfl, Nat.le_of_ble_eq_true rfl⟩ dL_law_245 (c_X6_setInterval l E 457 M27 o2 x29 _ hw) hk30 rfl rfl (Nat.le_of_ble_eq_true rfl) ⟨Nat.le_of_ble_eq_true rfl, Nat.le_of_ble_eq_true rfl⟩ qR qL) (fun x32 M31 hw => ?_)
        refine g_icmp_eq X 917 dL_law_248 (by decide) hw (fun hw => ?_) (fun hw => ?_)
        · obtain ⟨x33, hx33⟩ : ∃ y : Int32, y = a3 + (4 : Int32) := ⟨_, rfl⟩
          have hw := hw x33 hx33
          refine g_iinc (lv' := [(3, iV x33), (0, xV b), (1, rV o1), (2, rV o2)]) X x33 dL_law_917 3 rfl (by rw [hx33]; rfl) (by decide) rfl ?_
          refine g_goto X 18 dL_law_920 (by decide) ?_
          refine g_lvsub (lv' := [(0, xV b), (1, rV o1), (2, rV o2), (3, iV x33)]) [1, 2, 3, 0] rfl ?_
          exact ih _ _ _ _ hw
        · refine g_iconst X (0 : Int32) dL_law_251 (by decide) ?_
          exact hw.elim
      have hw := hw.2 q2
      by_cases q3 : x2 = (3 : Int32)
      · have hw := hw.1 q3
        refine g_swIn (off := 221) X 253 dL_law_32 (by rw [q3]; decide) (by rw [q3]; decide) (by rw [q3]; decide) (by decide) ?_
        refine g_aload_n X dL_law_253 1 rfl ?_
        refine g_aload_nS X dL_law_254 0 rfl ?_
        refine g_iload_n X dL_law_255 3 rfl ?_
        refine g_iconst X (1 : Int32) dL_law_256 (by decide) ?_
        refine g_iadd X dL_law_257 ?_
        refine g_sld X SXh dL_law_258 hw (fun hw => ?_)
        refine g_topI (fun x34 hx34 => ?_)
        have hw := hw x34 hx34
        refine g_aload_nS X dL_law_259 0 rfl ?_
        refine g_iload_n X dL_law_260 3 rfl ?_
        refine g_iconst X (2 : Int32) dL_law_261 (by decide) ?_
        refine g_iadd X dL_law_262 ?_
        refine g_sld X SXh dL_law_263 hw (fun hw => ?_)
        refine g_topI (fun x35 hx35 => ?_)
        have hw := hw x35 hx35
        refine g_aload_nS X dL_law_264 0 rfl ?_
        refine g_iload_n X dL_law_265 3 rfl ?_
        refine g_iconst X (3 : Int32) dL_law_266 (by decide) ?_
        refine g_iadd X dL_law_267 ?_
        refine g_sld X SXh dL_law_268 hw (fun hw => ?_)
        refine g_topI (fun x36 hx36 => ?_)
        have hw := hw x36 hx36
        obtain ⟨hk37, hw⟩ := hw
        refine g_calli (pc' := 272) (rest := []) rfl (fun H locs ls d qR qL => g_runV X cw_L_29 iv_X5_equip ⟨Nat.le_of_ble_eq_true rfl, Nat.le_of_ble_eq_true rfl⟩ dL_law_269 (c_X5_equip l E 457 M o1 x34 x35 x36 _ hw) hk37 rfl rfl (Nat.le_of_ble_eq_true rfl) ⟨Nat.le_of_ble_eq_true rfl, Nat.le_of_ble_eq_true rfl⟩ qR qL) (fun x39 M38 hw => ?_)
        refine g_aload_n X dL_law_272 2 rfl ?_
        refine g_aload_nS X dL_law_273 0 rfl ?_
        refine g_iload_n X dL_law_274 3 rfl ?_
        refine g_iconst X (1 : Int32) dL_law_275 (by decide) ?_
        refine g_iadd X dL_law_276 ?_
        refine g_sld X SXh dL_law_277 hw (fun hw => ?_)
        refine g_topI (fun x40 hx40 => ?_)
        have hw := hw x40 hx40
        refine g_aload_nS X dL_law_278 0 rfl ?_
        refine g_iload_n X dL_law_279 3 rfl ?_
        refine g_iconst X (2 : Int32) dL_law_280 (by decide) ?_
        refine g_iadd X dL_law_281 ?_
        refine g_sld X SXh dL_law_282 hw (fun hw => ?_)
        refine g_topI (fun x41 hx41 => ?_)
        have hw := hw x41 hx41
        refine g_aload_nS X dL_law_283 0 rfl ?_
        refine g_iload_n X dL_law_284 3 rfl ?_
        refine g_iconst X (3 : Int32) dL_law_285 (by decide) ?_
        refine g_iadd X dL_law_286 ?_
        refine g_sld X SXh dL_law_287 hw (fun hw => ?_)
        refine g_topI (fun x42 hx42 => ?_)
        have hw := hw x42 hx42
        obtain ⟨hk43, hw⟩ := hw
        refine g_calli (pc' := 291) (rest := [iV x39]) rfl (fun H locs ls d qR qL => g_runV X cw_L_33 iv_X6_equip ⟨Nat.le_of_ble_eq_true rfl, Nat.le_of_ble_eq_true rfl⟩ dL_law_288 (c_X6_equip l E 457 M38 o2 x40 x41 x42 _ hw) hk43 rfl rfl (Nat.le_of_ble_eq_true rfl) ⟨Nat.le_of_ble_eq_true rfl, Nat.le_of_ble_eq_true rfl⟩ qR qL) (fun x45 M44 hw => ?_)
        refine g_icmp_eq X 917 dL_law_291 (by decide) hw (fun hw => ?_) (fun hw => ?_)
        · obtain ⟨x46, hx46⟩ : ∃ y : Int32, y = a3 + (4 : Int32) := ⟨_, rfl⟩
          have hw := hw x46 hx46
          refine g_iinc (lv' := [(3, iV x46), (0, xV b), (1, rV o1), (2, rV o2)]) X x46 dL_law_917 3 rfl (by rw [hx46]; rfl) (by decide) rfl ?_
          refine g_goto X 18 dL_law_920 (by decide) ?_
          refine g_lvsub (lv' := [(0, xV b), (1, rV o1), (2, rV o2), (3, iV x46)]) [1, 2, 3, 0] rfl ?_
          exact ih _ _ _ _ hw
        · refine g_iconst X (0 : Int32) dL_law_294 (by decide) ?_
          exact hw.elim
      have hw := hw.2 q3
      by_cases q4 : x2 = (4 : Int32)
      · have hw := hw.1 q4
        refine g_swIn (off := 264) X 296 dL_law_32 (by rw [q4]; decide) (by rw [q4]; decide) (by rw [q4]; decide) (by decide) ?_
        refine g_aload_n X dL_law_296 1 rfl ?_
        refine g_aload_nS X dL_law_297 0 rfl ?_
        refine g_iload_n X dL_law_298 3 rfl ?_
        refine g_iconst X (1 : Int32) dL_law_299 (by decide) ?_
        refine g_iadd X dL_law_300 ?_
        refine g_sld X SXh dL_law_301 hw (fun hw => ?_)
        refine g_topI (fun x47 hx47 => ?_)
        have hw := hw x47 hx47
        refine g_aload_nS X dL_law_302 0 rfl ?_
        refine g_iload_n X dL_law_303 3 rfl ?_
        refine g_iconst X (2 : Int32) dL_law_304 (by decide) ?_
        refine g_iadd X dL_law_305 ?_
        refine g_sld X SXh dL_law_306 hw (fun hw => ?_)
        refine g_topI (fun x48 hx48 => ?_)
        have hw := hw x48 hx48
        obtain ⟨hk49, hw⟩ := hw
        refine g_calli (pc' := 310) (rest := []) rfl (fun H locs ls d qR qL => g_runV X cw_L_34 iv_X5_calibrate ⟨Nat.le_of_ble_eq_true rfl, Nat.le_of_ble_eq_true rfl⟩ dL_law_307 (c_X5_calibrate l E 457 M o1 x47 x48 _ hw) hk49 rfl rfl (Nat.le_of_ble_eq_true rfl) ⟨Nat.le_of_ble_eq_true rfl, Nat.le_of_ble_eq_true rfl⟩ qR qL) (fun x51 M50 hw => ?_)
        refine g_aload_n X dL_law_310 2 rfl ?_
        refine g_aload_nS X dL_law_311 0 rfl ?_
        refine g_iload_n X dL_law_312 3 rfl ?_
        refine g_iconst X (1 : Int32) dL_law_313 (by decide) ?_
        refine g_iadd X dL_law_314 ?_
        refine g_sld X SXh dL_law_315 hw (fun hw => ?_)
        refine g_topI (fun x52 hx52 => ?_)
        have hw := hw x52 hx52
        refine g_aload_nS X dL_law_316 0 rfl ?_
        refine g_iload_n X dL_law_317 3 rfl ?_
        refine g_iconst X (2 : Int32) dL_law_318 (by decide) ?_
        refine g_iadd X dL_law_319 ?_
        refine g_sld X SXh dL_law_320 hw (fun hw => ?_)
        refine g_topI (fun x53 hx53 => ?_)
        have hw := hw x53 hx53
        obtain ⟨hk54, hw⟩ := hw
        refine g_calli (pc' := 324) (rest := [iV x51]) rfl (fun H locs ls d qR qL => g_runV X cw_L_38 iv_X6_calibrate ⟨Nat.le_of_ble_eq_true rfl, Nat.le_of_ble_eq_true rfl⟩ dL_law_321 (c_X6_calibrate l E 457 M50 o2 x52 x53 _ hw) hk54 rfl rfl (Nat.le_of_ble_eq_true rfl) ⟨Nat.le_of_ble_eq_true rfl, Nat.le_of_ble_eq_true rfl⟩ qR qL) (fun x56 M55 hw => ?_)
        refine g_icmp_eq X 917 dL_law_324 (by decide) hw (fun hw => ?_) (fun hw => ?_)
        · obtain ⟨x57, hx57⟩ : ∃ y : Int32, y = a3 + (4 : Int32) := ⟨_, rfl⟩
          have hw := hw x57 hx57
          refine g_iinc (lv' := [(3, iV x57), (0, xV b), (1, rV o1), (2, rV o2)]) X x57 dL_law_917 3 rfl (by rw [hx57]; rfl) (by decide) rfl ?_
          refine g_goto X 18 dL_law_920 (by decide) ?_
          refine g_lvsub (lv' := [(0, xV b), (1, rV o1), (2, rV o2), (3, iV x57)]) [1, 2, 3, 0] rfl ?_
          exact ih _ _ _ _ hw
        · refine g_iconst X (0 : Int32) dL_law_327 (by decide) ?_
          exact hw.elim
      have hw := hw.2 q4
      by_cases q5 : x2 = (5 : Int32)
      · have hw := hw.1 q5
        refine g_swIn (off := 297) X 329 dL_law_32 (by rw [q5]; decide) (by rw [q5]; decide) (by rw [q5]; decide) (by decide) ?_
        refine g_aload_n X dL_law_329 1 rfl ?_
        refine g_aload_nS X dL_law_330 0 rfl ?_
        refine g_iload_n X dL_law_331 3 rfl ?_
        refine g_iconst X (1 : Int32) dL_law_332 (by decide) ?_
        refine g_iadd X dL_law_333 ?_
        refine g_sld X SXh dL_law_334 hw (fun hw => ?_)
        refine g_topI (fun x58 hx58 => ?_)
        have hw := hw x58 hx58
        refine g_if_eq X 342 dL_law_335 (by decide) hw (fun hw => ?_) (fun hw => ?_)
        · refine g_iconst X (0 : Int32) dL_law_342 (by decide) ?_
          refine g_aload_nS X dL_law_343 0 rfl ?_
          refine g_iload_n X dL_law_344 3 rfl ?_
          refine g_iconst X (2 : Int32) dL_law_345 (by decide) ?_
          refine g_iadd X dL_law_346 ?_
          refine g_sld X SXh dL_law_347 hw (fun hw => ?_)
          refine g_topI (fun x59 hx59 => ?_)
          have hw := hw x59 hx59
          refine g_aload_nS X dL_law_348 0 rfl ?_
          refine g_iload_n X dL_law_349 3 rfl ?_
          refine g_iconst X (3 : Int32) dL_law_350 (by decide) ?_
          refine g_iadd X dL_law_351 ?_
          refine g_sld X SXh dL_law_352 hw (fun hw => ?_)
          refine g_topI (fun x60 hx60 => ?_)
          have hw := hw x60 hx60
          obtain ⟨hk61, hw⟩ := hw
          refine g_calli (pc' := 356) (rest := []) rfl (fun H locs ls d qR qL => g_runV X cw_L_39 iv_X5_add ⟨Nat.le_of_ble_eq_true rfl, Nat.le_of_ble_eq_true rfl⟩ dL_law_353 (c_X5_add l E 457 M o1 (0 : Int32) x59 x60 _ hw) hk61 rfl rfl (Nat.le_of_ble_eq_true rfl) ⟨Nat.le_of_ble_eq_true rfl, Nat.le_of_ble_eq_true rfl⟩ qR qL) (fun x63 M62 hw => ?_)
          refine g_aload_n X dL_law_356 2 rfl ?_
          refine g_aload_nS X dL_law_357 0 rfl ?_
          refine g_iload_n X dL_law_358 3 rfl ?_
          refine g_iconst X (1 : Int32) dL_law_359 (by decide) ?_
          refine g_iadd X dL_law_360 ?_
          refine g_sld X SXh dL_law_361 hw (fun hw => ?_)
          refine g_topI (fun x64 hx64 => ?_)
          have hw := hw x64 hx64
          refine g_if_eq X 369 dL_law_362 (by decide) hw (fun hw => ?_) (fun hw => ?_)
          · refine g_iconst X (0 : Int32) dL_law_369 (by decide) ?_
            refine g_aload_nS X dL_law_370 0 rfl ?_
            refine g_iload_n X dL_law_371 3 rfl ?_
            refine g_iconst X (2 : Int32) dL_law_372 (by decide) ?_
            refine g_iadd X dL_law_373 ?_
            refine g_sld X SXh dL_law_374 hw (fun hw => ?_)
            refine g_topI (fun x65 hx65 => ?_)
            have hw := hw x65 hx65
            refine g_aload_nS X dL_law_375 0 rfl ?_
            refine g_iload_n X dL_law_376 3 rfl ?_
            refine g_iconst X (3 : Int32) dL_law_377 (by decide) ?_
            refine g_iadd X dL_law_378 ?_
            refine g_sld X SXh dL_law_379 hw (fun hw => ?_)
            refine g_topI (fun x66 hx66 => ?_)
            have hw := hw x66 hx66
            obtain ⟨hk67, hw⟩ := hw
            refine g_calli (pc' := 383) (rest := [iV x63]) rfl (fun H locs ls d qR qL => g_runV X cw_L_43 iv_X6_add ⟨Nat.le_of_ble_eq_true rfl, Nat.le_of_ble_eq_true rfl⟩ dL_law_380 (c_X6_add l E 457 M62 o2 (0 : Int32) x65 x66 _ hw) hk67 rfl rfl (Nat.le_of_ble_eq_true rfl) ⟨Nat.le_of_ble_eq_true rfl, Nat.le_of_ble_eq_true rfl⟩ qR qL) (fun x69 M68 hw => ?_)
            refine g_icmp_eq X 917 dL_law_383 (by decide) hw (fun hw => ?_) (fun hw => ?_)
            · obtain ⟨x70, hx70⟩ : ∃ y : Int32, y = a3 + (4 : Int32) := ⟨_, rfl⟩
              have hw := hw x70 hx70
              refine g_iinc (lv' := [(3, iV x70), (0, xV b), (1, rV o1), (2, rV o2)]) X x70 dL_law_917 3 rfl (by rw [hx70]; rfl) (by decide) rfl ?_
              refine g_goto X 18 dL_law_920 (by decide) ?_
              refine g_lvsub (lv' := [(0, xV b), (1, rV o1), (2, rV o2), (3, iV x70)]) [1, 2, 3, 0] rfl ?_
              exact ih _ _ _ _ hw
            · refine g_iconst X (0 : Int32) dL_law_386 (by decide) ?_
              exact hw.elim
          · refine g_iconst X (1 : Int32) dL_law_365 (by decide) ?_
            refine g_goto X 370 dL_law_366 (by decide) ?_
            refine g_aload_nS X dL_law_370 0 rfl ?_
            refine g_iload_n X dL_law_371 3 rfl ?_
            refine g_iconst X (2 : Int32) dL_law_372 (by decide) ?_
            refine g_iadd X dL_law_373 ?_
            refine g_sld X SXh dL_law_374 hw (fun hw => ?_)
            refine g_topI (fun x71 hx71 => ?_)
            have hw := hw x71 hx71
            refine g_aload_nS X dL_law_375 0 rfl ?_
            refine g_iload_n X dL_law_376 3 rfl ?_
            refine g_iconst X (3 : Int32) dL_law_377 (by decide) ?_
            refine g_iadd X dL_law_378 ?_
            refine g_sld X SXh dL_law_379 hw (fun hw => ?_)
            refine g_topI (fun x72 hx72 => ?_)
            have hw := hw x72 hx72
            obtain ⟨hk73, hw⟩ := hw
            refine g_calli (pc' := 383) (rest := [iV x63]) rfl (fun H locs ls d qR qL => g_runV X cw_L_43 iv_X6_add ⟨Nat.le_of_ble_eq_true rfl, Nat.le_of_ble_eq_true rfl⟩ dL_law_380 (c_X6_add l E 457 M62 o2 (1 : Int32) x71 x72 _ hw) hk73 rfl rfl (Nat.le_of_ble_eq_true rfl) ⟨Nat.le_of_ble_eq_true rfl, Nat.le_of_ble_eq_true rfl⟩ qR qL) (fun x75 M74 hw => ?_)
            refine g_icmp_eq X 917 dL_law_383 (by decide) hw (fun hw => ?_) (fun hw => ?_)
            · obtain ⟨x76, hx76⟩ : ∃ y : Int32, y = a3 + (4 : Int32) := ⟨_, rfl⟩
              have hw := hw x76 hx76
              refine g_iinc (lv' := [(3, iV x76), (0, xV b), (1, rV o1), (2, rV o2)]) X x76 dL_law_917 3 rfl (by rw [hx76]; rfl) (by decide) rfl ?_
              refine g_goto X 18 dL_law_920 (by decide) ?_
              refine g_lvsub (lv' := [(0, xV b), (1, rV o1), (2, rV o2), (3, iV x76)]) [1, 2, 3, 0] rfl ?_
              exact ih _ _ _ _ hw
            · refine g_iconst X (0 : Int32) dL_law_386 (by decide) ?_
              exact hw.elim
        · refine g_iconst X (1 : Int32) dL_law_338 (by decide) ?_
          refine g_goto X 343 dL_law_339 (by decide) ?_
          refine g_aload_nS X dL_law_343 0 rfl ?_
          refine g_iload_n X dL_law_344 3 rfl ?_
          refine g_iconst X (2 : Int32) dL_law_345 (by decide) ?_
          refine g_iadd X dL_law_346 ?_
          refine g_sld X SXh dL_law_347 hw (fun hw => ?_)
          refine g_topI (fun x77 hx77 => ?_)
          have hw := hw x77 hx77
          refine g_aload_nS X dL_law_348 0 rfl ?_
          refine g_iload_n X dL_law_349 3 rfl ?_
          refine g_iconst X (3 : Int32) dL_law_350 (by decide) ?_
          refine g_iadd X dL_law_351 ?_
          refine g_sld X SXh dL_law_352 hw (fun hw => ?_)
          refine g_topI (fun x78 hx78 => ?_)
          have hw := hw x78 hx78
          obtain ⟨hk79, hw⟩ := hw
          refine g_calli (pc' := 356) (rest := []) rfl (fun H locs ls d qR qL => g_runV X cw_L_39 iv_X5_add ⟨Nat.le_of_ble_eq_true rfl, Nat.le_of_ble_eq_true rfl⟩ dL_law_353 (c_X5_add l E 457 M o1 (1 : Int32) x77 x78 _ hw) hk79 rfl rfl (Nat.le_of_ble_eq_true rfl) ⟨Nat.le_of_ble_eq_true rfl, Nat.le_of_ble_eq_true rfl⟩ qR qL) (fun x81 M80 hw => ?_)
          refine g_aload_n X dL_law_356 2 rfl ?_
          refine g_aload_nS X dL_law_357 0 rfl ?_
          refine g_iload_n X dL_law_358 3 rfl ?_
          refine g_iconst X (1 : Int32) dL_law_359 (by decide) ?_
          refine g_iadd X dL_law_360 ?_
          refine g_sld X SXh dL_law_361 hw (fun hw => ?_)
          refine g_topI (fun x82 hx82 => ?_)
          have hw := hw x82 hx82
          refine g_if_eq X 369 dL_law_362 (by decide) hw (fun hw => ?_) (fun hw => ?_)
          · refine g_iconst X (0 : Int32) dL_law_369 (by decide) ?_
            refine g_aload_nS X dL_law_370 0 rfl ?_
            refine g_iload_n X dL_law_371 3 rfl ?_
            refine g_iconst X (2 : Int32) dL_law_372 (by decide) ?_
            refine g_iadd X dL_law_373 ?_
            refine g_sld X SXh dL_law_374 hw (fun hw => ?_)
            refine g_topI (fun x83 hx83 => ?_)
            have hw := hw x83 hx83
            refine g_aload_nS X dL_law_375 0 rfl ?_
            refine g_iload_n X dL_law_376 3 rfl ?_
            refine g_iconst X (3 : Int32) dL_law_377 (by decide) ?_
            refine g_iadd X dL_law_378 ?_
            refine g_sld X SXh dL_law_379 hw (fun hw => ?_)
            refine g_topI (fun x84 hx84 => ?_)
            have hw := hw x84 hx84
            obtain ⟨hk85, hw⟩ := hw
            refine g_calli (pc' := 383) (rest := [iV x81]) rfl (fun H locs ls d qR qL => g_runV X cw_L_43 iv_X6_add ⟨Nat.le_of_ble_eq_true rfl, Nat.le_of_ble_eq_true rfl⟩ dL_law_380 (c_X6_add l E 457 M80 o2 (0 : Int32) x83 x84 _ hw) hk85 rfl rfl (Nat.le_of_ble_eq_true rfl) ⟨Nat.le_of_ble_eq_true rfl, Nat.le_of_ble_eq_true rfl⟩ qR qL) (fun x87 M86 hw => ?_)
            refine g_icmp_eq X 917 dL_law_383 (by decide) hw (fun hw => ?_) (fun hw => ?_)
            · obtain ⟨x88, hx88⟩ : ∃ y : Int32, y = a3 + (4 : Int32) := ⟨_, rfl⟩
              have hw := hw x88 hx88
              refine g_iinc (lv' := [(3, iV x88), (0, xV b), (1, rV o1), (2, rV o2)]) X x88 dL_law_917 3 rfl (by rw [hx88]; rfl) (by decide) rfl ?_
              refine g_goto X 18 dL_law_920 (by decide) ?_
              refine g_lvsub (lv' := [(0, xV b), (1, rV o1), (2, rV o2), (3, iV x88)]) [1, 2, 3, 0] rfl ?_
              exact ih _ _ _ _ hw
            · refine g_iconst X (0 : Int32) dL_law_386 (by decide) ?_
              exact hw.elim
          · refine g_iconst X (1 : Int32) dL_law_365 (by decide) ?_
            refine g_goto X 370 dL_law_366 (by decide) ?_
            refine g_aload_nS X dL_law_370 0 rfl ?_
            refine g_iload_n X dL_law_371 3 rfl ?_
            refine g_iconst X (2 : Int32) dL_law_372 (by decide) ?_
            refine g_iadd X dL_law_373 ?_
            refine g_sld X SXh dL_law_374 hw (fun hw => ?_)
            refine g_topI (fun x89 hx89 => ?_)
            have hw := hw x89 hx89
            refine g_aload_nS X dL_law_375 0 rfl ?_
            refine g_iload_n X dL_law_376 3 rfl ?_
            refine g_iconst X (3 : Int32) dL_law_377 (by decide) ?_
            refine g_iadd X dL_law_378 ?_
            refine g_sld X SXh dL_law_379 hw (fun hw => ?_)
            refine g_topI (fun x90 hx90 => ?_)
            have hw := hw x90 hx90
            obtain ⟨hk91, hw⟩ := hw
            refine g_calli (pc' := 383) (rest := [iV x81]) rfl (fun H locs ls d qR qL => g_runV X cw_L_43 iv_X6_add ⟨Nat.le_of_ble_eq_true rfl, Nat.le_of_ble_eq_true rfl⟩ dL_law_380 (c_X6_add l E 457 M80 o2 (1 : Int32) x89 x90 _ hw) hk91 rfl rfl (Nat.le_of_ble_eq_true rfl) ⟨Nat.le_of_ble_eq_true rfl, Nat.le_of_ble_eq_true rfl⟩ qR qL) (fun x93 M92 hw => ?_)
            refine g_icmp_eq X 917 dL_law_383 (by decide) hw (fun hw => ?_) (fun hw => ?_)
            · obtain ⟨x94, hx94⟩ : ∃ y : Int32, y = a3 + (4 : Int32) := ⟨_, rfl⟩
              have hw := hw x94 hx94
              refine g_iinc (lv' := [(3, iV x94), (0, xV b), (1, rV o1), (2, rV o2)]) X x94 dL_law_917 3 rfl (by rw [hx94]; rfl) (by decide) rfl ?_
              refine g_goto X 18 dL_law_920 (by decide) ?_
              refine g_lvsub (lv' := [(0, xV b), (1, rV o1), (2, rV o2), (3, iV x94)]) [1, 2, 3, 0] rfl ?_
              exact ih _ _ _ _ hw
            · refine g_iconst X (0 : Int32) dL_law_386 (by decide) ?_
              exact hw.elim
      have hw := hw.2 q5
      by_cases q6 : x2 = (6 : Int32)
      · have hw := hw.1 q6
        refine g_swIn (off := 356) X 388 dL_law_32 (by rw [q6]; decide) (by rw [q6]; decide) (by rw [q6]; decide) (by decide) ?_
        refine g_aload_n X dL_law_388 1 rfl ?_
        refine g_aload_nS X dL_law_389 0 rfl ?_
        refine g_iload_n X dL_law_390 3 rfl ?_
        refine g_iconst X (1 : Int32) dL_law_391 (by decide) ?_
        refine g_iadd X dL_law_392 ?_
        refine g_sld X SXh dL_law_393 hw (fun hw => ?_)
        refine g_topI (fun x95 hx95 => ?_)
        have hw := hw x95 hx95
        obtain ⟨hk96, hw⟩ := hw
        refine g_calli (pc' := 397) (rest := []) rfl (fun H locs ls d qR qL => g_runV X cw_L_44 iv_X5_run ⟨Nat.le_of_ble_eq_true rfl, Nat.le_of_ble_eq_true rfl⟩ dL_law_394 (c_X5_run l E 457 M o1 x95 _ hw) hk96 rfl rfl (Nat.le_of_ble_eq_true rfl) ⟨Nat.le_of_ble_eq_true rfl, Nat.le_of_ble_eq_true rfl⟩ qR qL) (fun x98 M97 hw => ?_)
        refine g_aload_n X dL_law_397 2 rfl ?_
        refine g_aload_nS X dL_law_398 0 rfl ?_
        refine g_iload_n X dL_law_399 3 rfl ?_
        refine g_iconst X (1 : Int32) dL_law_400 (by decide) ?_
        refine g_iadd X dL_law_401 ?_
        refine g_sld X SXh dL_law_402 hw (fun hw => ?_)
        refine g_topI (fun x99 hx99 => ?_)
        have hw := hw x99 hx99
        obtain ⟨hk100, hw⟩ := hw
        refine g_calli (pc' := 406) (rest := [iV x98]) rfl (fun H locs ls d qR qL => g_runV X cw_L_47 iv_X6_run ⟨Nat.le_of_ble_eq_true rfl, Nat.le_of_ble_eq_true rfl⟩ dL_law_403 (c_X6_run l E 457 M97 o2 x99 _ hw) hk100 rfl rfl (Nat.le_of_ble_eq_true rfl) ⟨Nat.le_of_ble_eq_true rfl, Nat.le_of_ble_eq_true rfl⟩ qR qL) (fun x102 M101 hw => ?_)
        refine g_icmp_eq X 917 dL_law_406 (by decide) hw (fun hw => ?_) (fun hw => ?_)
        · obtain ⟨x103, hx103⟩ : ∃ y : Int32, y = a3 + (4 : Int32) := ⟨_, rfl⟩
          have hw := hw x103 hx103
          refine g_iinc (lv' := [(3, iV x103), (0, xV b), (1, rV o1), (2, rV o2)]) X x103 dL_law_917 3 rfl (by rw [hx103]; rfl) (by decide) rfl ?_
          refine g_goto X 18 dL_law_920 (by decide) ?_
          refine g_lvsub (lv' := [(0, xV b), (1, rV o1), (2, rV o2), (3, iV x103)]) [1, 2, 3, 0] rfl ?_
          exact ih _ _ _ _ hw
        · refine g_iconst X (0 : Int32) dL_law_409 (by decide) ?_
          exact hw.elim
      have hw := hw.2 q6
      by_cases q7 : x2 = (7 : Int32)
      · have hw := hw.1 q7
        refine g_swIn (off := 379) X 411 dL_law_32 (by rw [q7]; decide) (by rw [q7]; decide) (by rw [q7]; decide) (by decide) ?_
        refine g_aload_n X dL_law_411 1 rfl ?_
        refine g_aload_nS X dL_law_412 0 rfl ?_
        refine g_iload_n X dL_law_413 3 rfl ?_
        refine g_iconst X (1 : Int32) dL_law_414 (by decide) ?_
        refine g_iadd X dL_law_415 ?_
        refine g_sld X SXh dL_law_416 hw (fun hw => ?_)
        refine g_topI (fun x104 hx104 => ?_)
        have hw := hw x104 hx104
        refine g_i2c X dL_law_417 ?_
        obtain ⟨hk105, hw⟩ := hw
        refine g_calli (pc' := 421) (rest := []) rfl (fun H locs ls d qR qL => g_runV X cw_L_48 iv_X5_type ⟨Nat.le_of_ble_eq_true rfl, Nat.le_of_ble_eq_true rfl⟩ dL_law_418 (c_X5_type l E 457 M o1 ((Int32.toUInt32 x104 % 65536).toInt32) _ hw) hk105 rfl rfl (Nat.le_of_ble_eq_true rfl) ⟨Nat.le_of_ble_eq_true rfl, Nat.le_of_ble_eq_true rfl⟩ qR qL) (fun x107 M106 hw => ?_)
        refine g_aload_n X dL_law_421 2 rfl ?_
        refine g_aload_nS X dL_law_422 0 rfl ?_
        refine g_iload_n X dL_law_423 3 rfl ?_
        refine g_iconst X (1 : Int32) dL_law_424 (by decide) ?_
        refine g_iadd X dL_law_425 ?_
        refine g_sld X SXh dL_law_426 hw (fun hw => ?_)
        refine g_topI (fun x108 hx108 => ?_)
        have hw := hw x108 hx108
        refine g_i2c X dL_law_427 ?_
        obtain ⟨hk109, hw⟩ := hw
        refine g_calli (pc' := 431) (rest := [iV x107]) rfl (fun H locs ls d qR qL => g_runV X cw_L_52 iv_X6_type ⟨Nat.le_of_ble_eq_true rfl, Nat.le_of_ble_eq_true rfl⟩ dL_law_428 (c_X6_type l E 457 M106 o2 ((Int32.toUInt32 x108 % 65536).toInt32) _ hw) hk109 rfl rfl (Nat.le_of_ble_eq_true rfl) ⟨Nat.le_of_ble_eq_true rfl, Nat.le_of_ble_eq_true rfl⟩ qR qL) (fun x111 M110 hw => ?_)
        refine g_icmp_eq X 917 dL_law_431 (by decide) hw (fun hw => ?_) (fun hw => ?_)
        · obtain ⟨x112, hx112⟩ : ∃ y : Int32, y = a3 + (4 : Int32) := ⟨_, rfl⟩
          have hw := hw x112 hx112
          refine g_iinc (lv' := [(3, iV x112), (0, xV b), (1, rV o1), (2, rV o2)]) X x112 dL_law_917 3 rfl (by rw [hx112]; rfl) (by decide) rfl ?_
          refine g_goto X 18 dL_law_920 (by decide) ?_
          refine g_lvsub (lv' := [(0, xV b), (1, rV o1), (2, rV o2), (3, iV x112)]) [1, 2, 3, 0] rfl ?_
          exact ih _ _ _ _ hw
        · refine g_iconst X (0 : Int32) dL_law_434 (by decide) ?_
          exact hw.elim
      have hw := hw.2 q7
      by_cases q8 : x2 = (8 : Int32)
      · have hw := hw.1 q8
        refine g_swIn (off := 404) X 436 dL_law_32 (by rw [q8]; decide) (by rw [q8]; decide) (by rw [q8]; decide) (by decide) ?_
        refine g_aload_n X dL_law_436 1 rfl ?_
        obtain ⟨hk113, hw⟩ := hw
        refine g_calli (pc' := 440) (rest := []) rfl (fun H locs ls d qR qL => g_runV X cw_L_53 iv_X5_clearText ⟨Nat.le_of_ble_eq_true rfl, Nat.le_of_ble_eq_true rfl⟩ dL_law_437 (c_X5_clearText l E 457 M o1  _ hw) hk113 rfl rfl (Nat.le_of_ble_eq_true rfl) ⟨Nat.le_of_ble_eq_true rfl, Nat.le_of_ble_eq_true rfl⟩ qR qL) (fun x115 M114 hw => ?_)
        refine g_aload_n X dL_law_440 2 rfl ?_
        obtain ⟨hk116, hw⟩ := hw
        refine g_calli (pc' := 444) (rest := [iV x115]) rfl (fun H locs ls d qR qL => g_runV X cw_L_57 iv_X6_clearText ⟨Nat.le_of_ble_eq_true rfl, Nat.le_of_ble_eq_true rfl⟩ dL_law_441 (c_X6_clearText l E 457 M114 o2  _ hw) hk116 rfl rfl (Nat.le_of_ble_eq_true rfl) ⟨Nat.le_of_ble_eq_true rfl, Nat.le_of_ble_eq_true rfl⟩ qR qL) (fun x118 M117 hw => ?_)
        refine g_icmp_eq X 917 dL_law_444 (by decide) hw (fun hw => ?_) (fun hw => ?_)
        · obtain ⟨x119, hx119⟩ : ∃ y : Int32, y = a3 + (4 : Int32) := ⟨_, rfl⟩
          have hw := hw x119 hx119
          refine g_iinc (lv' := [(3, iV x119), (0, xV b), (1, rV o1), (2, rV o2)]) X x119 dL_law_917 3 rfl (by rw [hx119]; rfl) (by decide) rfl ?_
          refine g_goto X 18 dL_law_920 (by decide) ?_
          refine g_lvsub (lv' := [(0, xV b), (1, rV o1), (2, rV o2), (3, iV x119)]) [1, 2, 3, 0] rfl ?_
          exact ih _ _ _ _ hw
        · refine g_iconst X (0 : Int32) dL_law_447 (by decide) ?_
          exact hw.elim
      have hw := hw.2 q8
      by_cases q9 : x2 = (9 : Int32)
      · have hw := hw.1 q9
        refine g_swIn (off := 417) X 449 dL_law_32 (by rw [q9]; decide) (by rw [q9]; decide) (by rw [q9]; decide) (by decide) ?_
        refine g_aload_n X dL_law_449 1 rfl ?_
        obtain ⟨hk120, hw⟩ := hw
        refine g_calli (pc' := 453) (rest := []) rfl (fun H locs ls d qR qL => g_runV X cw_L_58 iv_X5_readParts ⟨Nat.le_of_ble_eq_true rfl, Nat.le_of_ble_eq_true rfl⟩ dL_law_450 (c_X5_readParts l E 457 M o1  _ hw) hk120 rfl rfl (Nat.le_of_ble_eq_true rfl) ⟨Nat.le_of_ble_eq_true rfl, Nat.le_of_ble_eq_true rfl⟩ qR qL) (fun x122 M121 hw => ?_)
        refine g_aload_n X dL_law_453 2 rfl ?_
        obtain ⟨hk123, hw⟩ := hw
        refine g_calli (pc' := 457) (rest := [iV x122]) rfl (fun H locs ls d qR qL => g_runV X cw_L_61 iv_X6_readParts ⟨Nat.le_of_ble_eq_true rfl, Nat.le_of_ble_eq_true rfl⟩ dL_law_454 (c_X6_readParts l E 457 M121 o2  _ hw) hk123 rfl rfl (Nat.le_of_ble_eq_true rfl) ⟨Nat.le_of_ble_eq_true rfl, Nat.le_of_ble_eq_true rfl⟩ qR qL) (fun x125 M124 hw => ?_)
        refine g_icmp_eq X 917 dL_law_457 (by decide) hw (fun hw => ?_) (fun hw => ?_)
        · obtain ⟨x126, hx126⟩ : ∃ y : Int32, y = a3 + (4 : Int32) := ⟨_, rfl⟩
          have hw := hw x126 hx126
          refine g_iinc (lv' := [(3, iV x126), (0, xV b), (1, rV o1), (2, rV o2)]) X x126 dL_law_917 3 rfl (by rw [hx126]; rfl) (by decide) rfl ?_
          refine g_goto X 18 dL_law_920 (by decide) ?_
          refine g_lvsub (lv' := [(0, xV b), (1, rV o1), (2, rV o2), (3, iV x126)]) [1, 2, 3, 0] rfl ?_
          exact ih _ _ _ _ hw
        · refine g_iconst X (0 : Int32) dL_law_460 (by decide) ?_
          exact hw.elim
      have hw := hw.2 q9
      by_cases q10 : x2 = (10 : Int32)
      · have hw := hw.1 q10
        refine g_swIn (off := 430) X 462 dL_law_32 (by rw [q10]; decide) (by rw [q10]; decide) (by rw [q10]; decide) (by decide) ?_
        refine g_aload_n X dL_law_462 1 rfl ?_
        obtain ⟨hk127, hw⟩ := hw
        refine g_calli (pc' := 466) (rest := []) rfl (fun H locs ls d qR qL => g_runV X cw_L_62 iv_X5_perform ⟨Nat.le_of_ble_eq_true rfl, Nat.le_of_ble_eq_true rfl⟩ dL_law_463 (c_X5_perform l E 457 M o1  _ hw) hk127 rfl rfl (Nat.le_of_ble_eq_true rfl) ⟨Nat.le_of_ble_eq_true rfl, Nat.le_of_ble_eq_true rfl⟩ qR qL) (fun x129 M128 hw => ?_)
        refine g_aload_n X dL_law_466 2 rfl ?_
        obtain ⟨hk130, hw⟩ := hw
        refine g_calli (pc' := 470) (rest := [iV x129]) rfl (fun H locs ls d qR qL => g_runV X cw_L_65 iv_X6_perform ⟨Nat.le_of_ble_eq_true rfl, Nat.le_of_ble_eq_true rfl⟩ dL_law_467 (c_X6_perform l E 457 M128 o2  _ hw) hk130 rfl rfl (Nat.le_of_ble_eq_true rfl) ⟨Nat.le_of_ble_eq_true rfl, Nat.le_of_ble_eq_true rfl⟩ qR qL) (fun x132 M131 hw => ?_)
        refine g_icmp_eq X 917 dL_law_470 (by decide) hw (fun hw => ?_) (fun hw => ?_)
        · obtain ⟨x133, hx133⟩ : ∃ y : Int32, y = a3 + (4 : Int32) := ⟨_, rfl⟩
          have hw := hw x133 hx133
          refine g_iinc (lv' := [(3, iV x133), (0, xV b), (1, rV o1), (2, rV o2)]) X x133 dL_law_917 3 rfl (by rw [hx133]; rfl) (by decide) rfl ?_
          refine g_goto X 18 dL_law_920 (by decide) ?_
          refine g_lvsub (lv' := [(0, xV b), (1, rV o1), (2, rV o2), (3, iV x133)]) [1, 2, 3, 0] rfl ?_
          exact ih _ _ _ _ hw
        · refine g_iconst X (0 : Int32) dL_law_473 (by decide) ?_
          exact hw.elim
      have hw := hw.2 q10
      by_cases q11 : x2 = (11 : Int32)
      · have hw := hw.1 q11
        refine g_swIn (off := 443) X 475 dL_law_32 (by rw [q11]; decide) (by rw [q11]; decide) (by rw [q11]; decide) (by decide) ?_
        refine g_aload_n X dL_law_475 1 rfl ?_
        obtain ⟨hk134, hw⟩ := hw
        refine g_calli (pc' := 479) (rest := []) rfl (fun H locs ls d qR qL => g_runV X cw_L_66 iv_X5_undo ⟨Nat.le_of_ble_eq_true rfl, Nat.le_of_ble_eq_true rfl⟩ dL_law_476 (c_X5_undo l E 457 M o1  _ hw) hk134 rfl rfl (Nat.le_of_ble_eq_true rfl) ⟨Nat.le_of_ble_eq_true rfl, Nat.le_of_ble_eq_true rfl⟩ qR qL) (fun x136 M135 hw => ?_)
        refine g_aload_n X dL_law_479 2 rfl ?_
        obtain ⟨hk137, hw⟩ := hw
        refine g_calli (pc' := 483) (rest := [iV x136]) rfl (fun H locs ls d qR qL => g_runV X cw_L_69 iv_X6_undo ⟨Nat.le_of_ble_eq_true rfl, Nat.le_of_ble_eq_true rfl⟩ dL_law_480 (c_X6_undo l E 457 M135 o2  _ hw) hk137 rfl rfl (Nat.le_of_ble_eq_true rfl) ⟨Nat.le_of_ble_eq_true rfl, Nat.le_of_ble_eq_true rfl⟩ qR qL) (fun x139 M138 hw => ?_)
        refine g_icmp_eq X 917 dL_law_483 (by decide) hw (fun hw => ?_) (fun hw => ?_)
        · obtain ⟨x140, hx140⟩ : ∃ y : Int32, y = a3 + (4 : Int32) := ⟨_, rfl⟩
          have hw := hw x140 hx140
          refine g_iinc (lv' := [(3, iV x140), (0, xV b), (1, rV o1), (2, rV o2)]) X x140 dL_law_917 3 rfl (by rw [hx140]; rfl) (by decide) rfl ?_
          refine g_goto X 18 dL_law_920 (by decide) ?_
          refine g_lvsub (lv' := [(0, xV b), (1, rV o1), (2, rV o2), (3, iV x140)]) [1, 2, 3, 0] rfl ?_
          exact ih _ _ _ _ hw
        · refine g_iconst X (0 : Int32) dL_law_486 (by decide) ?_
          exact hw.elim
      have hw := hw.2 q11
      by_cases q12 : x2 = (12 : Int32)
      · have hw := hw.1 q12
        refine g_swIn (off := 456) X 488 dL_law_32 (by rw [q12]; decide) (by rw [q12]; decide) (by rw [q12]; decide) (by decide) ?_
        refine g_aload_n X dL_law_488 1 rfl ?_
        obtain ⟨hk141, hw⟩ := hw
        refine g_calli (pc' := 492) (rest := []) rfl (fun H locs ls d qR qL => g_runV X cw_L_70 iv_X5_keep ⟨Nat.le_of_ble_eq_true rfl, Nat.le_of_ble_eq_true rfl⟩ dL_law_489 (c_X5_keep l E 457 M o1  _ hw) hk141 rfl rfl (Nat.le_of_ble_eq_true rfl) ⟨Nat.le_of_ble_eq_true rfl, Nat.le_of_ble_eq_true rfl⟩ qR qL) (fun x143 M142 hw => ?_)
        refine g_aload_n X dL_law_492 2 rfl ?_
        obtain ⟨hk144, hw⟩ := hw
        refine g_calli (pc' := 496) (rest := [iV x143]) rfl (fun H locs ls d qR qL => g_runV X cw_L_73 iv_X6_keep ⟨Nat.le_of_ble_eq_true rfl, Nat.le_of_ble_eq_true rfl⟩ dL_law_493 (c_X6_keep l E 457 M142 o2  _ hw) hk144 rfl rfl (Nat.le_of_ble_eq_true rfl) ⟨Nat.le_of_ble_eq_true rfl, Nat.le_of_ble_eq_true rfl⟩ qR qL) (fun x146 M145 hw => ?_)
        refine g_icmp_eq X 917 dL_law_496 (by decide) hw (fun hw => ?_) (fun hw => ?_)
        · obtain ⟨x147, hx147⟩ : ∃ y : Int32, y = a3 + (4 : Int32) := ⟨_, rfl⟩
          have hw := hw x147 hx147
          refine g_iinc (lv' := [(3, iV x147), (0, xV b), (1, rV o1), (2, rV o2)]) X x147 dL_law_917 3 rfl (by rw [hx147]; rfl) (by decide) rfl ?_
          refine g_goto X 18 dL_law_920 (by decide) ?_
          refine g_lvsub (lv' := [(0, xV b), (1, rV o1), (2, rV o2), (3, iV x147)]) [1, 2, 3, 0] rfl ?_
          exact ih _ _ _ _ hw
        · refine g_iconst X (0 : Int32) dL_law_499 (by decide) ?_
          exact hw.elim
      have hw := hw.2 q12
      by_cases q13 : x2 = (13 : Int32)
      · have hw := hw.1 q13
        refine g_swIn (off := 469) X 501 dL_law_32 (by rw [q13]; decide) (by rw [q13]; decide) (by rw [q13]; decide) (by decide) ?_
        refine g_aload_n X dL_law_501 1 rfl ?_
        obtain ⟨hk148, hw⟩ := hw
        refine g_calli (pc' := 505) (rest := []) rfl (fun H locs ls d qR qL => g_runV X cw_L_74 iv_X5_restore ⟨Nat.le_of_ble_eq_true rfl, Nat.le_of_ble_eq_true rfl⟩ dL_law_502 (c_X5_restore l E 457 M o1  _ hw) hk148 rfl rfl (Nat.le_of_ble_eq_true rfl) ⟨Nat.le_of_ble_eq_true rfl, Nat.le_of_ble_eq_true rfl⟩ qR qL) (fun x150 M149 hw => ?_)
        refine g_aload_n X dL_law_505 2 rfl ?_
        obtain ⟨hk151, hw⟩ := hw
        refine g_calli (pc' := 509) (rest := [iV x150]) rfl (fun H locs ls d qR qL => g_runV X cw_L_77 iv_X6_restore ⟨Nat.le_of_ble_eq_true rfl, Nat.le_of_ble_eq_true rfl⟩ dL_law_506 (c_X6_restore l E 457 M149 o2  _ hw) hk151 rfl rfl (Nat.le_of_ble_eq_true rfl) ⟨Nat.le_of_ble_eq_true rfl, Nat.le_of_ble_eq_true rfl⟩ qR qL) (fun x153 M152 hw => ?_)
        refine g_icmp_eq X 917 dL_law_509 (by decide) hw (fun hw => ?_) (fun hw => ?_)
        · obtain ⟨x154, hx154⟩ : ∃ y : Int32, y = a3 + (4 : Int32) := ⟨_, rfl⟩
          have hw := hw x154 hx154
          refine g_iinc (lv' := [(3, iV x154), (0, xV b), (1, rV o1), (2, rV o2)]) X x154 dL_law_917 3 rfl (by rw [hx154]; rfl) (by decide) rfl ?_
          refine g_goto X 18 dL_law_920 (by decide) ?_
          refine g_lvsub (lv' := [(0, xV b), (1, rV o1), (2, rV o2), (3, iV x154)]) [1, 2, 3, 0] rfl ?_
          exact ih _ _ _ _ hw
        · refine g_iconst X (0 : Int32) dL_law_512 (by decide) ?_
          exact hw.elim
      have hw := hw.2 q13
      by_cases q14 : x2 = (14 : Int32)
      · have hw := hw.1 q14
        refine g_swIn (off := 482) X 514 dL_law_32 (by rw [q14]; decide) (by rw [q14]; decide) (by rw [q14]; decide) (by decide) ?_
        refine g_aload_n X dL_law_514 1 rfl ?_
        refine g_aload_nS X dL_law_515 0 rfl ?_
        refine g_iload_n X dL_law_516 3 rfl ?_
        refine g_iconst X (1 : Int32) dL_law_517 (by decide) ?_
        refine g_iadd X dL_law_518 ?_
        refine g_sld X SXh dL_law_519 hw (fun hw => ?_)
        refine g_topI (fun x155 hx155 => ?_)
        have hw := hw x155 hx155
        refine g_aload_nS X dL_law_520 0 rfl ?_
        refine g_iload_n X dL_law_521 3 rfl ?_
        refine g_iconst X (2 : Int32) dL_law_522 (by decide) ?_
        refine g_iadd X dL_law_523 ?_
        refine g_sld X SXh dL_law_524 hw (fun hw => ?_)
        refine g_topI (fun x156 hx156 => ?_)
        have hw := hw x156 hx156
        obtain ⟨hk157, hw⟩ := hw
        refine g_calli (pc' := 528) (rest := []) rfl (fun H locs ls d qR qL => g_runV X cw_L_78 iv_X5_head ⟨Nat.le_of_ble_eq_true rfl, Nat.le_of_ble_eq_true rfl⟩ dL_law_525 (c_X5_head l E 457 M o1 x155 x156 _ hw) hk157 rfl rfl (Nat.le_of_ble_eq_true rfl) ⟨Nat.le_of_ble_eq_true rfl, Nat.le_of_ble_eq_true rfl⟩ qR qL) (fun x159 M158 hw => ?_)
        refine g_aload_n X dL_law_528 2 rfl ?_
        refine g_aload_nS X dL_law_529 0 rfl ?_
        refine g_iload_n X dL_law_530 3 rfl ?_
        refine g_iconst X (1 : Int32) dL_law_531 (by decide) ?_
        refine g_iadd X dL_law_532 ?_
        refine g_sld X SXh dL_law_533 hw (fun hw => ?_)
        refine g_topI (fun x160 hx160 => ?_)
        have hw := hw x160 hx160
        refine g_aload_nS X dL_law_534 0 rfl ?_
        refine g_iload_n X dL_law_535 3 rfl ?_
        refine g_iconst X (2 : Int32) dL_law_536 (by decide) ?_
        refine g_iadd X dL_law_537 ?_
        refine g_sld X SXh dL_law_538 hw (fun hw => ?_)
        refine g_topI (fun x161 hx161 => ?_)
        have hw := hw x161 hx161
        obtain ⟨hk162, hw⟩ := hw
        refine g_calli (pc' := 542) (rest := [iV x159]) rfl (fun H locs ls d qR qL => g_runV X cw_L_81 iv_X6_head ⟨Nat.le_of_ble_eq_true rfl, Nat.le_of_ble_eq_true rfl⟩ dL_law_539 (c_X6_head l E 457 M158 o2 x160 x161 _ hw) hk162 rfl rfl (Nat.le_of_ble_eq_true rfl) ⟨Nat.le_of_ble_eq_true rfl, Nat.le_of_ble_eq_true rfl⟩ qR qL) (fun x164 M163 hw => ?_)
        refine g_icmp_eq X 917 dL_law_542 (by decide) hw (fun hw => ?_) (fun hw => ?_)
        · obtain ⟨x165, hx165⟩ : ∃ y : Int32, y = a3 + (4 : Int32) := ⟨_, rfl⟩
          have hw := hw x165 hx165
          refine g_iinc (lv' := [(3, iV x165), (0, xV b), (1, rV o1), (2, rV o2)]) X x165 dL_law_917 3 rfl (by rw [hx165]; rfl) (by decide) rfl ?_
          refine g_goto X 18 dL_law_920 (by decide) ?_
          refine g_lvsub (lv' := [(0, xV b), (1, rV o1), (2, rV o2), (3, iV x165)]) [1, 2, 3, 0] rfl ?_
          exact ih _ _ _ _ hw
        · refine g_iconst X (0 : Int32) dL_law_545 (by decide) ?_
          exact hw.elim
      have hw := hw.2 q14
      by_cases q15 : x2 = (15 : Int32)
      · have hw := hw.1 q15
        refine g_swIn (off := 515) X 547 dL_law_32 (by rw [q15]; decide) (by rw [q15]; decide) (by rw [q15]; decide) (by decide) ?_
        refine g_aload_n X dL_law_547 1 rfl ?_
        refine g_aload_nS X dL_law_548 0 rfl ?_
        refine g_iload_n X dL_law_549 3 rfl ?_
        refine g_iconst X (1 : Int32) dL_law_550 (by decide) ?_
        refine g_iadd X dL_law_551 ?_
        refine g_sld X SXh dL_law_552 hw (fun hw => ?_)
        refine g_topI (fun x166 hx166 => ?_)
        have hw := hw x166 hx166
        refine g_aload_nS X dL_law_553 0 rfl ?_
        refine g_iload_n X dL_law_554 3 rfl ?_
        refine g_iconst X (2 : Int32) dL_law_555 (by decide) ?_
        refine g_iadd X dL_law_556 ?_
        refine g_sld X SXh dL_law_557 hw (fun hw => ?_)
        refine g_topI (fun x167 hx167 => ?_)
        have hw := hw x167 hx167
        obtain ⟨hk168, hw⟩ := hw
        refine g_calld (pc' := 561) (rest := []) rfl (fun H locs ls d qR qL => g_runV X cw_L_82 iv_X5_gauge ⟨Nat.le_of_ble_eq_true rfl, Nat.le_of_ble_eq_true rfl⟩ dL_law_558 (c_X5_gauge l E 457 M o1 x166 x167 _ hw) hk168 rfl rfl (Nat.le_of_ble_eq_true rfl) ⟨Nat.le_of_ble_eq_true rfl, Nat.le_of_ble_eq_true rfl⟩ qR qL) (fun z170 M169 hw => ?_)
        refine g_dstore (lv' := [(4, dV z170), (0, xV b), (1, rV o1), (2, rV o2), (3, iV a3)]) X dL_law_561 (by decide) rfl ?_
        refine g_aload_n X dL_law_563 3 rfl ?_
        refine g_aload_nS X dL_law_564 1 rfl ?_
        refine g_iload_n X dL_law_565 4 rfl ?_
        refine g_iconst X (1 : Int32) dL_law_566 (by decide) ?_
        refine g_iadd X dL_law_567 ?_
        refine g_sld X SXh dL_law_568 hw (fun hw => ?_)
        refine g_topI (fun x171 hx171 => ?_)
        have hw := hw x171 hx171
        refine g_aload_nS X dL_law_569 1 rfl ?_
        refine g_iload_n X dL_law_570 4 rfl ?_
        refine g_iconst X (2 : Int32) dL_law_571 (by decide) ?_
        refine g_iadd X dL_law_572 ?_
        refine g_sld X SXh dL_law_573 hw (fun hw => ?_)
        refine g_topI (fun x172 hx172 => ?_)
        have hw := hw x172 hx172
        obtain ⟨hk173, hw⟩ := hw
        refine g_calld (pc' := 577) (rest := []) rfl (fun H locs ls d qR qL => g_runV X cw_L_86 iv_X6_gauge ⟨Nat.le_of_ble_eq_true rfl, Nat.le_of_ble_eq_true rfl⟩ dL_law_574 (c_X6_gauge l E 457 M169 o2 x171 x172 _ hw) hk173 rfl rfl (Nat.le_of_ble_eq_true rfl) ⟨Nat.le_of_ble_eq_true rfl, Nat.le_of_ble_eq_true rfl⟩ qR qL) (fun z175 M174 hw => ?_)
        refine g_dstore (lv' := [(6, dV z175), (4, dV z170), (0, xV b), (1, rV o1), (2, rV o2), (3, iV a3)]) X dL_law_577 (by decide) rfl ?_
        refine g_dload X dL_law_579 1 rfl ?_
        refine g_dload X dL_law_581 0 rfl ?_
        refine g_dcmp X dL_law_583 ?_
        refine g_if_eq X 605 dL_law_584 (by decide) hw (fun hw => ?_) (fun hw => ?_)
        · refine g_goto X 917 dL_law_605 (by decide) ?_
          obtain ⟨x176, hx176⟩ : ∃ y : Int32, y = a3 + (4 : Int32) := ⟨_, rfl⟩
          have hw := hw x176 hx176
          refine g_iinc (lv' := [(3, iV x176), (6, dV z175), (4, dV z170), (0, xV b), (1, rV o1), (2, rV o2)]) X x176 dL_law_917 5 rfl (by rw [hx176]; rfl) (by decide) rfl ?_
          refine g_goto X 18 dL_law_920 (by decide) ?_
          refine g_lvsub (lv' := [(0, xV b), (1, rV o1), (2, rV o2), (3, iV x176)]) [3, 4, 5, 0] rfl ?_
          exact ih _ _ _ _ hw
        · refine g_dload X dL_law_587 1 rfl ?_
          refine g_dload X dL_law_589 1 rfl ?_
          refine g_dcmp X dL_law_591 ?_
          refine g_if_eq X 603 dL_law_592 (by decide) hw (fun hw => ?_) (fun hw => ?_)
          · refine g_iconst X (0 : Int32) dL_law_603 (by decide) ?_
            exact hw.elim
          · refine g_dload X dL_law_595 0 rfl ?_
            refine g_dload X dL_law_597 0 rfl ?_
            refine g_dcmp X dL_law_599 ?_
            refine g_if_ne X 605 dL_law_600 (by decide) hw (fun hw => ?_) (fun hw => ?_)
            · refine g_goto X 917 dL_law_605 (by decide) ?_
              obtain ⟨x177, hx177⟩ : ∃ y : Int32, y = a3 + (4 : Int32) := ⟨_, rfl⟩
              have hw := hw x177 hx177
              refine g_iinc (lv' := [(3, iV x177), (6, dV z175), (4, dV z170), (0, xV b), (1, rV o1), (2, rV o2)]) X x177 dL_law_917 5 rfl (by rw [hx177]; rfl) (by decide) rfl ?_
              refine g_goto X 18 dL_law_920 (by decide) ?_
              refine g_lvsub (lv' := [(0, xV b), (1, rV o1), (2, rV o2), (3, iV x177)]) [3, 4, 5, 0] rfl ?_
              exact ih _ _ _ _ hw
            · refine g_iconst X (0 : Int32) dL_law_603 (by decide) ?_
              exact hw.elim
      have hw := hw.2 q15
      by_cases q16 : x2 = (16 : Int32)
      · have hw := hw.1 q16
        refine g_swIn (off := 576) X 608 dL_law_32 (by rw [q16]; decide) (by rw [q16]; decide) (by rw [q16]; decide) (by decide) ?_
        refine g_aload_n X dL_law_608 1 rfl ?_
        refine g_aload_nS X dL_law_609 0 rfl ?_
        refine g_iload_n X dL_law_610 3 rfl ?_
        refine g_iconst X (1 : Int32) dL_law_611 (by decide) ?_
        refine g_iadd X dL_law_612 ?_
        refine g_sld X SXh dL_law_613 hw (fun hw => ?_)
        refine g_topI (fun x178 hx178 => ?_)
        have hw := hw x178 hx178
        obtain ⟨hk179, hw⟩ := hw
        refine g_calli (pc' := 617) (rest := []) rfl (fun H locs ls d qR qL => g_runV X cw_L_87 iv_X5_display ⟨Nat.le_of_ble_eq_true rfl, Nat.le_of_ble_eq_true rfl⟩ dL_law_614 (c_X5_display l E 457 M o1 x178 _ hw) hk179 rfl rfl (Nat.le_of_ble_eq_true rfl) ⟨Nat.le_of_ble_eq_true rfl, Nat.le_of_ble_eq_true rfl⟩ qR qL) (fun x181 M180 hw => ?_)
        refine g_aload_n X dL_law_617 2 rfl ?_
        refine g_aload_nS X dL_law_618 0 rfl ?_
        refine g_iload_n X dL_law_619 3 rfl ?_
        refine g_iconst X (1 : Int32) dL_law_620 (by decide) ?_
        refine g_iadd X dL_law_621 ?_
        refine g_sld X SXh dL_law_622 hw (fun hw => ?_)
        refine g_topI (fun x182 hx182 => ?_)
        have hw := hw x182 hx182
        obtain ⟨hk183, hw⟩ := hw
        refine g_calli (pc' := 626) (rest := [iV x181]) rfl (fun H locs ls d qR qL => g_runV X cw_L_90 iv_X6_display ⟨Nat.le_of_ble_eq_true rfl, Nat.le_of_ble_eq_true rfl⟩ dL_law_623 (c_X6_display l E 457 M180 o2 x182 _ hw) hk183 rfl rfl (Nat.le_of_ble_eq_true rfl) ⟨Nat.le_of_ble_eq_true rfl, Nat.le_of_ble_eq_true rfl⟩ qR qL) (fun x185 M184 hw => ?_)
        refine g_icmp_eq X 917 dL_law_626 (by decide) hw (fun hw => ?_) (fun hw => ?_)
        · obtain ⟨x186, hx186⟩ : ∃ y : Int32, y = a3 + (4 : Int32) := ⟨_, rfl⟩
          have hw := hw x186 hx186
          refine g_iinc (lv' := [(3, iV x186), (0, xV b), (1, rV o1), (2, rV o2)]) X x186 dL_law_917 3 rfl (by rw [hx186]; rfl) (by decide) rfl ?_
          refine g_goto X 18 dL_law_920 (by decide) ?_
          refine g_lvsub (lv' := [(0, xV b), (1, rV o1), (2, rV o2), (3, iV x186)]) [1, 2, 3, 0] rfl ?_
          exact ih _ _ _ _ hw
        · refine g_iconst X (0 : Int32) dL_law_629 (by decide) ?_
          exact hw.elim
      have hw := hw.2 q16
      by_cases q17 : x2 = (17 : Int32)
      · have hw := hw.1 q17
        refine g_swIn (off := 599) X 631 dL_law_32 (by rw [q17]; decide) (by rw [q17]; decide) (by rw [q17]; decide) (by decide) ?_
        refine g_aload_n X dL_law_631 1 rfl ?_
        refine g_aload_nS X dL_law_632 0 rfl ?_
        refine g_iload_n X dL_law_633 3 rfl ?_
        refine g_iconst X (1 : Int32) dL_law_634 (by decide) ?_
        refine g_iadd X dL_law_635 ?_
        refine g_sld X SXh dL_law_636 hw (fun hw => ?_)
        refine g_topI (fun x187 hx187 => ?_)
        have hw := hw x187 hx187
        refine g_aload_nS X dL_law_637 0 rfl ?_
        refine g_iload_n X dL_law_638 3 rfl ?_
        refine g_iconst X (2 : Int32) dL_law_639 (by decide) ?_
        refine g_iadd X dL_law_640 ?_
        refine g_sld X SXh dL_law_641 hw (fun hw => ?_)
        refine g_topI (fun x188 hx188 => ?_)
        have hw := hw x188 hx188
        obtain ⟨hk189, hw⟩ := hw
        refine g_calli (pc' := 645) (rest := []) rfl (fun H locs ls d qR qL => g_runV X cw_L_91 iv_X5_part ⟨Nat.le_of_ble_eq_true rfl, Nat.le_of_ble_eq_true rfl⟩ dL_law_642 (c_X5_part l E 457 M o1 x187 x188 _ hw) hk189 rfl rfl (Nat.le_of_ble_eq_true rfl) ⟨Nat.le_of_ble_eq_true rfl, Nat.le_of_ble_eq_true rfl⟩ qR qL) (fun x191 M190 hw => ?_)
        refine g_aload_n X dL_law_645 2 rfl ?_
        refine g_aload_nS X dL_law_646 0 rfl ?_
        refine g_iload_n X dL_law_647 3 rfl ?_
        refine g_iconst X (1 : Int32) dL_law_648 (by decide) ?_
        refine g_iadd X dL_law_649 ?_
        refine g_sld X SXh dL_law_650 hw (fun hw => ?_)
        refine g_topI (fun x192 hx192 => ?_)
        have hw := hw x192 hx192
        refine g_aload_nS X dL_law_651 0 rfl ?_
        refine g_iload_n X dL_law_652 3 rfl ?_
        refine g_iconst X (2 : Int32) dL_law_653 (by decide) ?_
        refine g_iadd X dL_law_654 ?_
        refine g_sld X SXh dL_law_655 hw (fun hw => ?_)
        refine g_topI (fun x193 hx193 => ?_)
        have hw := hw x193 hx193
        obtain ⟨hk194, hw⟩ := hw
        refine g_calli (pc' := 659) (rest := [iV x191]) rfl (fun H locs ls d qR qL => g_runV X cw_L_94 iv_X6_part ⟨Nat.le_of_ble_eq_true rfl, Nat.le_of_ble_eq_true rfl⟩ dL_law_656 (c_X6_part l E 457 M190 o2 x192 x193 _ hw) hk194 rfl rfl (Nat.le_of_ble_eq_true rfl) ⟨Nat.le_of_ble_eq_true rfl, Nat.le_of_ble_eq_true rfl⟩ qR qL) (fun x196 M195 hw => ?_)
        refine g_icmp_eq X 917 dL_law_659 (by decide) hw (fun hw => ?_) (fun hw => ?_)
        · obtain ⟨x197, hx197⟩ : ∃ y : Int32, y = a3 + (4 : Int32) := ⟨_, rfl⟩
          have hw := hw x197 hx197
          refine g_iinc (lv' := [(3, iV x197), (0, xV b), (1, rV o1), (2, rV o2)]) X x197 dL_law_917 3 rfl (by rw [hx197]; rfl) (by decide) rfl ?_
          refine g_goto X 18 dL_law_920 (by decide) ?_
          refine g_lvsub (lv' := [(0, xV b), (1, rV o1), (2, rV o2), (3, iV x197)]) [1, 2, 3, 0] rfl ?_
          exact ih _ _ _ _ hw
        · refine g_iconst X (0 : Int32) dL_law_662 (by decide) ?_
          exact hw.elim
      have hw := hw.2 q17
      by_cases q18 : x2 = (18 : Int32)
      · have hw := hw.1 q18
        refine g_swIn (off := 632) X 664 dL_law_32 (by rw [q18]; decide) (by rw [q18]; decide) (by rw [q18]; decide) (by decide) ?_
        refine g_aload_n X dL_law_664 1 rfl ?_
        refine g_aload_nS X dL_law_665 0 rfl ?_
        refine g_iload_n X dL_law_666 3 rfl ?_
        refine g_iconst X (1 : Int32) dL_law_667 (by decide) ?_
        refine g_iadd X dL_law_668 ?_
        refine g_sld X SXh dL_law_669 hw (fun hw => ?_)
        refine g_topI (fun x198 hx198 => ?_)
        have hw := hw x198 hx198
        refine g_aload_nS X dL_law_670 0 rfl ?_
        refine g_iload_n X dL_law_671 3 rfl ?_
        refine g_iconst X (2 : Int32) dL_law_672 (by decide) ?_
        refine g_iadd X dL_law_673 ?_
        refine g_sld X SXh dL_law_674 hw (fun hw => ?_)
        refine g_topI (fun x199 hx199 => ?_)
        have hw := hw x199 hx199
        obtain ⟨hk200, hw⟩ := hw
        refine g_calli (pc' := 678) (rest := []) rfl (fun H locs ls d qR qL => g_runV X cw_L_95 iv_X5_fits ⟨Nat.le_of_ble_eq_true rfl, Nat.le_of_ble_eq_true rfl⟩ dL_law_675 (c_X5_fits l E 457 M o1 x198 x199 _ hw) hk200 rfl rfl (Nat.le_of_ble_eq_true rfl) ⟨Nat.le_of_ble_eq_true rfl, Nat.le_of_ble_eq_true rfl⟩ qR qL) (fun x202 M201 hw => ?_)
        refine g_aload_n X dL_law_678 2 rfl ?_
        refine g_aload_nS X dL_law_679 0 rfl ?_
        refine g_iload_n X dL_law_680 3 rfl ?_
        refine g_iconst X (1 : Int32) dL_law_681 (by decide) ?_
        refine g_iadd X dL_law_682 ?_
        refine g_sld X SXh dL_law_683 hw (fun hw => ?_)
        refine g_topI (fun x203 hx203 => ?_)
        have hw := hw x203 hx203
        refine g_aload_nS X dL_law_684 0 rfl ?_
        refine g_iload_n X dL_law_685 3 rfl ?_
        refine g_iconst X (2 : Int32) dL_law_686 (by decide) ?_
        refine g_iadd X dL_law_687 ?_
        refine g_sld X SXh dL_law_688 hw (fun hw => ?_)
        refine g_topI (fun x204 hx204 => ?_)
        have hw := hw x204 hx204
        obtain ⟨hk205, hw⟩ := hw
        refine g_calli (pc' := 692) (rest := [iV x202]) rfl (fun H locs ls d qR qL => g_runV X cw_L_98 iv_X6_fits ⟨Nat.le_of_ble_eq_true rfl, Nat.le_of_ble_eq_true rfl⟩ dL_law_689 (c_X6_fits l E 457 M201 o2 x203 x204 _ hw) hk205 rfl rfl (Nat.le_of_ble_eq_true rfl) ⟨Nat.le_of_ble_eq_true rfl, Nat.le_of_ble_eq_true rfl⟩ qR qL) (fun x207 M206 hw => ?_)
        refine g_icmp_eq X 917 dL_law_692 (by decide) hw (fun hw => ?_) (fun hw => ?_)
        · obtain ⟨x208, hx208⟩ : ∃ y : Int32, y = a3 + (4 : Int32) := ⟨_, rfl⟩
          have hw := hw x208 hx208
          refine g_iinc (lv' := [(3, iV x208), (0, xV b), (1, rV o1), (2, rV o2)]) X x208 dL_law_917 3 rfl (by rw [hx208]; rfl) (by decide) rfl ?_
          refine g_goto X 18 dL_law_920 (by decide) ?_
          refine g_lvsub (lv' := [(0, xV b), (1, rV o1), (2, rV o2), (3, iV x208)]) [1, 2, 3, 0] rfl ?_
          exact ih _ _ _ _ hw
        · refine g_iconst X (0 : Int32) dL_law_695 (by decide) ?_
          exact hw.elim
      have hw := hw.2 q18
      by_cases q19 : x2 = (19 : Int32)
      · have hw := hw.1 q19
        refine g_swIn (off := 665) X 697 dL_law_32 (by rw [q19]; decide) (by rw [q19]; decide) (by rw [q19]; decide) (by decide) ?_
        refine g_aload_n X dL_law_697 1 rfl ?_
        refine g_aload_nS X dL_law_698 0 rfl ?_
        refine g_iload_n X dL_law_699 3 rfl ?_
        refine g_iconst X (1 : Int32) dL_law_700 (by decide) ?_
        refine g_iadd X dL_law_701 ?_
        refine g_sld X SXh dL_law_702 hw (fun hw => ?_)
        refine g_topI (fun x209 hx209 => ?_)
        have hw := hw x209 hx209
        obtain ⟨hk210, hw⟩ := hw
        refine g_calld (pc' := 706) (rest := []) rfl (fun H locs ls d qR qL => g_runV X cw_L_99 iv_X5_value ⟨Nat.le_of_ble_eq_true rfl, Nat.le_of_ble_eq_true rfl⟩ dL_law_703 (c_X5_value l E 457 M o1 x209 _ hw) hk210 rfl rfl (Nat.le_of_ble_eq_true rfl) ⟨Nat.le_of_ble_eq_true rfl, Nat.le_of_ble_eq_true rfl⟩ qR qL) (fun z212 M211 hw => ?_)
        refine g_dstore (lv' := [(4, dV z212), (0, xV b), (1, rV o1), (2, rV o2), (3, iV a3)]) X dL_law_706 (by decide) rfl ?_
        refine g_aload_n X dL_law_708 3 rfl ?_
        refine g_aload_nS X dL_law_709 1 rfl ?_
        refine g_iload_n X dL_law_710 4 rfl ?_
        refine g_iconst X (1 : Int32) dL_law_711 (by decide) ?_
        refine g_iadd X dL_law_712 ?_
        refine g_sld X SXh dL_law_713 hw (fun hw => ?_)
        refine g_topI (fun x213 hx213 => ?_)
        have hw := hw x213 hx213
        obtain ⟨hk214, hw⟩ := hw
        refine g_calld (pc' := 717) (rest := []) rfl (fun H locs ls d qR qL => g_runV X cw_L_103 iv_X6_value ⟨Nat.le_of_ble_eq_true rfl, Nat.le_of_ble_eq_true rfl⟩ dL_law_714 (c_X6_value l E 457 M211 o2 x213 _ hw) hk214 rfl rfl (Nat.le_of_ble_eq_true rfl) ⟨Nat.le_of_ble_eq_true rfl, Nat.le_of_ble_eq_true rfl⟩ qR qL) (fun z216 M215 hw => ?_)
        refine g_dstore (lv' := [(6, dV z216), (4, dV z212), (0, xV b), (1, rV o1), (2, rV o2), (3, iV a3)]) X dL_law_717 (by decide) rfl ?_
        refine g_dload X dL_law_719 1 rfl ?_
        refine g_dload X dL_law_721 0 rfl ?_
        refine g_dcmp X dL_law_723 ?_
        refine g_if_eq X 745 dL_law_724 (by decide) hw (fun hw => ?_) (fun hw => ?_)
        · refine g_goto X 917 dL_law_745 (by decide) ?_
          obtain ⟨x217, hx217⟩ : ∃ y : Int32, y = a3 + (4 : Int32) := ⟨_, rfl⟩
          have hw := hw x217 hx217
          refine g_iinc (lv' := [(3, iV x217), (6, dV z216), (4, dV z212), (0, xV b), (1, rV o1), (2, rV o2)]) X x217 dL_law_917 5 rfl (by rw [hx217]; rfl) (by decide) rfl ?_
          refine g_goto X 18 dL_law_920 (by decide) ?_
          refine g_lvsub (lv' := [(0, xV b), (1, rV o1), (2, rV o2), (3, iV x217)]) [3, 4, 5, 0] rfl ?_
          exact ih _ _ _ _ hw
        · refine g_dload X dL_law_727 1 rfl ?_
          refine g_dload X dL_law_729 1 rfl ?_
          refine g_dcmp X dL_law_731 ?_
          refine g_if_eq X 743 dL_law_732 (by decide) hw (fun hw => ?_) (fun hw => ?_)
          · refine g_iconst X (0 : Int32) dL_law_743 (by decide) ?_
            exact hw.elim
          · refine g_dload X dL_law_735 0 rfl ?_
            refine g_dload X dL_law_737 0 rfl ?_
            refine g_dcmp X dL_law_739 ?_
            refine g_if_ne X 745 dL_law_740 (by decide) hw (fun hw => ?_) (fun hw => ?_)
            · refine g_goto X 917 dL_law_745 (by decide) ?_
              obtain ⟨x218, hx218⟩ : ∃ y : Int32, y = a3 + (4 : Int32) := ⟨_, rfl⟩
              have hw := hw x218 hx218
              refine g_iinc (lv' := [(3, iV x218), (6, dV z216), (4, dV z212), (0, xV b), (1, rV o1), (2, rV o2)]) X x218 dL_law_917 5 rfl (by rw [hx218]; rfl) (by decide) rfl ?_
              refine g_goto X 18 dL_law_920 (by decide) ?_
              refine g_lvsub (lv' := [(0, xV b), (1, rV o1), (2, rV o2), (3, iV x218)]) [3, 4, 5, 0] rfl ?_
              exact ih _ _ _ _ hw
            · refine g_iconst X (0 : Int32) dL_law_743 (by decide) ?_
              exact hw.elim
      have hw := hw.2 q19
      by_cases q20 : x2 = (20 : Int32)
      · have hw := hw.1 q20
        refine g_swIn (off := 716) X 748 dL_law_32 (by rw [q20]; decide) (by rw [q20]; decide) (by rw [q20]; decide) (by decide) ?_
        refine g_aload_n X dL_law_748 1 rfl ?_
        refine g_aload_nS X dL_law_749 0 rfl ?_
        refine g_iload_n X dL_law_750 3 rfl ?_
        refine g_iconst X (1 : Int32) dL_law_751 (by decide) ?_
        refine g_iadd X dL_law_752 ?_
        refine g_sld X SXh dL_law_753 hw (fun hw => ?_)
        refine g_topI (fun x219 hx219 => ?_)
        have hw := hw x219 hx219
        refine g_aload_nS X dL_law_754 0 rfl ?_
        refine g_iload_n X dL_law_755 3 rfl ?_
        refine g_iconst X (2 : Int32) dL_law_756 (by decide) ?_
        refine g_iadd X dL_law_757 ?_
        refine g_sld X SXh dL_law_758 hw (fun hw => ?_)
        refine g_topI (fun x220 hx220 => ?_)
        have hw := hw x220 hx220
        obtain ⟨hk221, hw⟩ := hw
        refine g_calld (pc' := 762) (rest := []) rfl (fun H locs ls d qR qL => g_runV X cw_L_104 iv_X5_foretold ⟨Nat.le_of_ble_eq_true rfl, Nat.le_of_ble_eq_true rfl⟩ dL_law_759 (c_X5_foretold l E 457 M o1 x219 x220 _ hw) hk221 rfl rfl (Nat.le_of_ble_eq_true rfl) ⟨Nat.le_of_ble_eq_true rfl, Nat.le_of_ble_eq_true rfl⟩ qR qL) (fun z223 M222 hw => ?_)
        refine g_dstore (lv' := [(4, dV z223), (0, xV b), (1, rV o1), (2, rV o2), (3, iV a3)]) X dL_law_762 (by decide) rfl ?_
        refine g_aload_n X dL_law_764 3 rfl ?_
        refine g_aload_nS X dL_law_765 1 rfl ?_
        refine g_iload_n X dL_law_766 4 rfl ?_
        refine g_iconst X (1 : Int32) dL_law_767 (by decide) ?_
        refine g_iadd X dL_law_768 ?_
        refine g_sld X SXh dL_law_769 hw (fun hw => ?_)
        refine g_topI (fun x224 hx224 => ?_)
        have hw := hw x224 hx224
        refine g_aload_nS X dL_law_770 1 rfl ?_
        refine g_iload_n X dL_law_771 4 rfl ?_
        refine g_iconst X (2 : Int32) dL_law_772 (by decide) ?_
        refine g_iadd X dL_law_773 ?_
        refine g_sld X SXh dL_law_774 hw (fun hw => ?_)
        refine g_topI (fun x225 hx225 => ?_)
        have hw := hw x225 hx225
        obtain ⟨hk226, hw⟩ := hw
        refine g_calld (pc' := 778) (rest := []) rfl (fun H locs ls d qR qL => g_runV X cw_L_107 iv_X6_foretold ⟨Nat.le_of_ble_eq_true rfl, Nat.le_of_ble_eq_true rfl⟩ dL_law_775 (c_X6_foretold l E 457 M222 o2 x224 x225 _ hw) hk226 rfl rfl (Nat.le_of_ble_eq_true rfl) ⟨Nat.le_of_ble_eq_true rfl, Nat.le_of_ble_eq_true rfl⟩ qR qL) (fun z228 M227 hw => ?_)
        refine g_dstore (lv' := [(6, dV z228), (4, dV z223), (0, xV b), (1, rV o1), (2, rV o2), (3, iV a3)]) X dL_law_778 (by decide) rfl ?_
        refine g_dload X dL_law_780 1 rfl ?_
        refine g_dload X dL_law_782 0 rfl ?_
        refine g_dcmp X dL_law_784 ?_
        refine g_if_eq X 806 dL_law_785 (by decide) hw (fun hw => ?_) (fun hw => ?_)
        · refine g_goto X 917 dL_law_806 (by decide) ?_
          obtain ⟨x229, hx229⟩ : ∃ y : Int32, y = a3 + (4 : Int32) := ⟨_, rfl⟩
          have hw := hw x229 hx229
          refine g_iinc (lv' := [(3, iV x229), (6, dV z228), (4, dV z223), (0, xV b), (1, rV o1), (2, rV o2)]) X x229 dL_law_917 5 rfl (by rw [hx229]; rfl) (by decide) rfl ?_
          refine g_goto X 18 dL_law_920 (by decide) ?_
          refine g_lvsub (lv' := [(0, xV b), (1, rV o1), (2, rV o2), (3, iV x229)]) [3, 4, 5, 0] rfl ?_
          exact ih _ _ _ _ hw
        · refine g_dload X dL_law_788 1 rfl ?_
          refine g_dload X dL_law_790 1 rfl ?_
          refine g_dcmp X dL_law_792 ?_
          refine g_if_eq X 804 dL_law_793 (by decide) hw (fun hw => ?_) (fun hw => ?_)
          · refine g_iconst X (0 : Int32) dL_law_804 (by decide) ?_
            exact hw.elim
          · refine g_dload X dL_law_796 0 rfl ?_
            refine g_dload X dL_law_798 0 rfl ?_
            refine g_dcmp X dL_law_800 ?_
            refine g_if_ne X 806 dL_law_801 (by decide) hw (fun hw => ?_) (fun hw => ?_)
            · refine g_goto X 917 dL_law_806 (by decide) ?_
              obtain ⟨x230, hx230⟩ : ∃ y : Int32, y = a3 + (4 : Int32) := ⟨_, rfl⟩
              have hw := hw x230 hx230
              refine g_iinc (lv' := [(3, iV x230), (6, dV z228), (4, dV z223), (0, xV b), (1, rV o1), (2, rV o2)]) X x230 dL_law_917 5 rfl (by rw [hx230]; rfl) (by decide) rfl ?_
              refine g_goto X 18 dL_law_920 (by decide) ?_
              refine g_lvsub (lv' := [(0, xV b), (1, rV o1), (2, rV o2), (3, iV x230)]) [3, 4, 5, 0] rfl ?_
              exact ih _ _ _ _ hw
            · refine g_iconst X (0 : Int32) dL_law_804 (by decide) ?_
              exact hw.elim
      have hw := hw.2 q20
      by_cases q21 : x2 = (21 : Int32)
      · have hw := hw.1 q21
        refine g_swIn (off := 777) X 809 dL_law_32 (by rw [q21]; decide) (by rw [q21]; decide) (by rw [q21]; decide) (by decide) ?_
        refine g_aload_n X dL_law_809 1 rfl ?_
        refine g_aload_nS X dL_law_810 0 rfl ?_
        refine g_iload_n X dL_law_811 3 rfl ?_
        refine g_iconst X (1 : Int32) dL_law_812 (by decide) ?_
        refine g_iadd X dL_law_813 ?_
        refine g_sld X SXh dL_law_814 hw (fun hw => ?_)
        refine g_topI (fun x231 hx231 => ?_)
        have hw := hw x231 hx231
        obtain ⟨hk232, hw⟩ := hw
        refine g_calll (pc' := 818) (rest := []) rfl (fun H locs ls d qR qL => g_runV X cw_L_108 iv_X5_pressureBits ⟨Nat.le_of_ble_eq_true rfl, Nat.le_of_ble_eq_true rfl⟩ dL_law_815 (c_X5_pressureBits l E 457 M o1 x231 _ hw) hk232 rfl rfl (Nat.le_of_ble_eq_true rfl) ⟨Nat.le_of_ble_eq_true rfl, Nat.le_of_ble_eq_true rfl⟩ qR qL) (fun y234 M233 hw => ?_)
        refine g_aload_n X dL_law_818 2 rfl ?_
        refine g_aload_nS X dL_law_819 0 rfl ?_
        refine g_iload_n X dL_law_820 3 rfl ?_
        refine g_iconst X (1 : Int32) dL_law_821 (by decide) ?_
        refine g_iadd X dL_law_822 ?_
        refine g_sld X SXh dL_law_823 hw (fun hw => ?_)
        refine g_topI (fun x235 hx235 => ?_)
        have hw := hw x235 hx235
        obtain ⟨hk236, hw⟩ := hw
        refine g_calll (pc' := 827) (rest := [lV y234]) rfl (fun H locs ls d qR qL => g_runV X cw_L_112 iv_X6_pressureBits ⟨Nat.le_of_ble_eq_true rfl, Nat.le_of_ble_eq_true rfl⟩ dL_law_824 (c_X6_pressureBits l E 457 M233 o2 x235 _ hw) hk236 rfl rfl (Nat.le_of_ble_eq_true rfl) ⟨Nat.le_of_ble_eq_true rfl, Nat.le_of_ble_eq_true rfl⟩ qR qL) (fun y238 M237 hw => ?_)
        refine g_lcmp X dL_law_827 ?_
        refine g_if_eq X 917 dL_law_828 (by decide) hw (fun hw => ?_) (fun hw => ?_)
        · obtain ⟨x239, hx239⟩ : ∃ y : Int32, y = a3 + (4 : Int32) := ⟨_, rfl⟩
          have hw := hw x239 hx239
          refine g_iinc (lv' := [(3, iV x239), (0, xV b), (1, rV o1), (2, rV o2)]) X x239 dL_law_917 3 rfl (by rw [hx239]; rfl) (by decide) rfl ?_
          refine g_goto X 18 dL_law_920 (by decide) ?_
          refine g_lvsub (lv' := [(0, xV b), (1, rV o1), (2, rV o2), (3, iV x239)]) [1, 2, 3, 0] rfl ?_
          exact ih _ _ _ _ hw
        · refine g_iconst X (0 : Int32) dL_law_831 (by decide) ?_
          exact hw.elim
      have hw := hw.2 q21
      by_cases q22 : x2 = (22 : Int32)
      · have hw := hw.1 q22
        refine g_swIn (off := 801) X 833 dL_law_32 (by rw [q22]; decide) (by rw [q22]; decide) (by rw [q22]; decide) (by decide) ?_
        refine g_aload_n X dL_law_833 1 rfl ?_
        refine g_aload_nS X dL_law_834 0 rfl ?_
        refine g_iload_n X dL_law_835 3 rfl ?_
        refine g_iconst X (1 : Int32) dL_law_836 (by decide) ?_
        refine g_iadd X dL_law_837 ?_
        refine g_sld X SXh dL_law_838 hw (fun hw => ?_)
        refine g_topI (fun x240 hx240 => ?_)
        have hw := hw x240 hx240
        refine g_aload_nS X dL_law_839 0 rfl ?_
        refine g_iload_n X dL_law_840 3 rfl ?_
        refine g_iconst X (2 : Int32) dL_law_841 (by decide) ?_
        refine g_iadd X dL_law_842 ?_
        refine g_sld X SXh dL_law_843 hw (fun hw => ?_)
        refine g_topI (fun x241 hx241 => ?_)
        have hw := hw x241 hx241
        obtain ⟨hk242, hw⟩ := hw
        refine g_calld (pc' := 847) (rest := []) rfl (fun H locs ls d qR qL => g_runV X cw_L_113 iv_X5_trace ⟨Nat.le_of_ble_eq_true rfl, Nat.le_of_ble_eq_true rfl⟩ dL_law_844 (c_X5_trace l E 457 M o1 x240 x241 _ hw) hk242 rfl rfl (Nat.le_of_ble_eq_true rfl) ⟨Nat.le_of_ble_eq_true rfl, Nat.le_of_ble_eq_true rfl⟩ qR qL) (fun z244 M243 hw => ?_)
        refine g_dstore (lv' := [(4, dV z244), (0, xV b), (1, rV o1), (2, rV o2), (3, iV a3)]) X dL_law_847 (by decide) rfl ?_
        refine g_aload_n X dL_law_849 3 rfl ?_
        refine g_aload_nS X dL_law_850 1 rfl ?_
        refine g_iload_n X dL_law_851 4 rfl ?_
        refine g_iconst X (1 : Int32) dL_law_852 (by decide) ?_
        refine g_iadd X dL_law_853 ?_
        refine g_sld X SXh dL_law_854 hw (fun hw => ?_)
        refine g_topI (fun x245 hx245 => ?_)
        have hw := hw x245 hx245
        refine g_aload_nS X dL_law_855 1 rfl ?_
        refine g_iload_n X dL_law_856 4 rfl ?_
        refine g_iconst X (2 : Int32) dL_law_857 (by decide) ?_
        refine g_iadd X dL_law_858 ?_
        refine g_sld X SXh dL_law_859 hw (fun hw => ?_)
        refine g_topI (fun x246 hx246 => ?_)
        have hw := hw x246 hx246
        obtain ⟨hk247, hw⟩ := hw
        refine g_calld (pc' := 863) (rest := []) rfl (fun H locs ls d qR qL => g_runV X cw_L_116 iv_X6_trace ⟨Nat.le_of_ble_eq_true rfl, Nat.le_of_ble_eq_true rfl⟩ dL_law_860 (c_X6_trace l E 457 M243 o2 x245 x246 _ hw) hk247 rfl rfl (Nat.le_of_ble_eq_true rfl) ⟨Nat.le_of_ble_eq_true rfl, Nat.le_of_ble_eq_true rfl⟩ qR qL) (fun z249 M248 hw => ?_)
        refine g_dstore (lv' := [(6, dV z249), (4, dV z244), (0, xV b), (1, rV o1), (2, rV o2), (3, iV a3)]) X dL_law_863 (by decide) rfl ?_
        refine g_dload X dL_law_865 1 rfl ?_
        refine g_dload X dL_law_867 0 rfl ?_
        refine g_dcmp X dL_law_869 ?_
        refine g_if_eq X 891 dL_law_870 (by decide) hw (fun hw => ?_) (fun hw => ?_)
        · refine g_goto X 917 dL_law_891 (by decide) ?_
          obtain ⟨x250, hx250⟩ : ∃ y : Int32, y = a3 + (4 : Int32) := ⟨_, rfl⟩
          have hw := hw x250 hx250
          refine g_iinc (lv' := [(3, iV x250), (6, dV z249), (4, dV z244), (0, xV b), (1, rV o1), (2, rV o2)]) X x250 dL_law_917 5 rfl (by rw [hx250]; rfl) (by decide) rfl ?_
          refine g_goto X 18 dL_law_920 (by decide) ?_
          refine g_lvsub (lv' := [(0, xV b), (1, rV o1), (2, rV o2), (3, iV x250)]) [3, 4, 5, 0] rfl ?_
          exact ih _ _ _ _ hw
        · refine g_dload X dL_law_873 1 rfl ?_
          refine g_dload X dL_law_875 1 rfl ?_
          refine g_dcmp X dL_law_877 ?_
          refine g_if_eq X 889 dL_law_878 (by decide) hw (fun hw => ?_) (fun hw => ?_)
          · refine g_iconst X (0 : Int32) dL_law_889 (by decide) ?_
            exact hw.elim
          · refine g_dload X dL_law_881 0 rfl ?_
            refine g_dload X dL_law_883 0 rfl ?_
            refine g_dcmp X dL_law_885 ?_
            refine g_if_ne X 891 dL_law_886 (by decide) hw (fun hw => ?_) (fun hw => ?_)
            · refine g_goto X 917 dL_law_891 (by decide) ?_
              obtain ⟨x251, hx251⟩ : ∃ y : Int32, y = a3 + (4 : Int32) := ⟨_, rfl⟩
              have hw := hw x251 hx251
              refine g_iinc (lv' := [(3, iV x251), (6, dV z249), (4, dV z244), (0, xV b), (1, rV o1), (2, rV o2)]) X x251 dL_law_917 5 rfl (by rw [hx251]; rfl) (by decide) rfl ?_
              refine g_goto X 18 dL_law_920 (by decide) ?_
              refine g_lvsub (lv' := [(0, xV b), (1, rV o1), (2, rV o2), (3, iV x251)]) [3, 4, 5, 0] rfl ?_
              exact ih _ _ _ _ hw
            · refine g_iconst X (0 : Int32) dL_law_889 (by decide) ?_
              exact hw.elim
      have hw := hw.2 q22
      by_cases q23 : x2 = (23 : Int32)
      · have hw := hw.1 q23
        refine g_swIn (off := 862) X 894 dL_law_32 (by rw [q23]; decide) (by rw [q23]; decide) (by rw [q23]; decide) (by decide) ?_
        refine g_aload_n X dL_law_894 1 rfl ?_
        refine g_aload_nS X dL_law_895 0 rfl ?_
        refine g_iload_n X dL_law_896 3 rfl ?_
        refine g_iconst X (1 : Int32) dL_law_897 (by decide) ?_
        refine g_iadd X dL_law_898 ?_
        refine g_sld X SXh dL_law_899 hw (fun hw => ?_)
        refine g_topI (fun x252 hx252 => ?_)
        have hw := hw x252 hx252
        obtain ⟨hk253, hw⟩ := hw
        refine g_calli (pc' := 903) (rest := []) rfl (fun H locs ls d qR qL => g_runV X cw_L_117 iv_X5_count ⟨Nat.le_of_ble_eq_true rfl, Nat.le_of_ble_eq_true rfl⟩ dL_law_900 (c_X5_count l E 457 M o1 x252 _ hw) hk253 rfl rfl (Nat.le_of_ble_eq_true rfl) ⟨Nat.le_of_ble_eq_true rfl, Nat.le_of_ble_eq_true rfl⟩ qR qL) (fun x255 M254 hw => ?_)
        refine g_aload_n X dL_law_903 2 rfl ?_
        refine g_aload_nS X dL_law_904 0 rfl ?_
        refine g_iload_n X dL_law_905 3 rfl ?_
        refine g_iconst X (1 : Int32) dL_law_906 (by decide) ?_
        refine g_iadd X dL_law_907 ?_
        refine g_sld X SXh dL_law_908 hw (fun hw => ?_)
        refine g_topI (fun x256 hx256 => ?_)
        have hw := hw x256 hx256
        obtain ⟨hk257, hw⟩ := hw
        refine g_calli (pc' := 912) (rest := [iV x255]) rfl (fun H locs ls d qR qL => g_runV X cw_L_120 iv_X6_count ⟨Nat.le_of_ble_eq_true rfl, Nat.le_of_ble_eq_true rfl⟩ dL_law_909 (c_X6_count l E 457 M254 o2 x256 _ hw) hk257 rfl rfl (Nat.le_of_ble_eq_true rfl) ⟨Nat.le_of_ble_eq_true rfl, Nat.le_of_ble_eq_true rfl⟩ qR qL) (fun x259 M258 hw => ?_)
        refine g_icmp_eq X 917 dL_law_912 (by decide) hw (fun hw => ?_) (fun hw => ?_)
        · obtain ⟨x260, hx260⟩ : ∃ y : Int32, y = a3 + (4 : Int32) := ⟨_, rfl⟩
          have hw := hw x260 hx260
          refine g_iinc (lv' := [(3, iV x260), (0, xV b), (1, rV o1), (2, rV o2)]) X x260 dL_law_917 3 rfl (by rw [hx260]; rfl) (by decide) rfl ?_
          refine g_goto X 18 dL_law_920 (by decide) ?_
          refine g_lvsub (lv' := [(0, xV b), (1, rV o1), (2, rV o2), (3, iV x260)]) [1, 2, 3, 0] rfl ?_
          exact ih _ _ _ _ hw
        · refine g_iconst X (0 : Int32) dL_law_915 (by decide) ?_
          exact hw.elim
      have hw := hw.2 q23
      have swn0 := sw_ne (k := 0) (by decide) q0
      have swn1 := sw_ne (k := 1) (by decide) q1
      have swn2 := sw_ne (k := 2) (by decide) q2
      have swn3 := sw_ne (k := 3) (by decide) q3
      have swn4 := sw_ne (k := 4) (by decide) q4
      have swn5 := sw_ne (k := 5) (by decide) q5
      have swn6 := sw_ne (k := 6) (by decide) q6
      have swn7 := sw_ne (k := 7) (by decide) q7
      have swn8 := sw_ne (k := 8) (by decide) q8
      have swn9 := sw_ne (k := 9) (by decide) q9
      have swn10 := sw_ne (k := 10) (by decide) q10
      have swn11 := sw_ne (k := 11) (by decide) q11
      have swn12 := sw_ne (k := 12) (by decide) q12
      have swn13 := sw_ne (k := 13) (by decide) q13
      have swn14 := sw_ne (k := 14) (by decide) q14
      have swn15 := sw_ne (k := 15) (by decide) q15
      have swn16 := sw_ne (k := 16) (by decide) q16
      have swn17 := sw_ne (k := 17) (by decide) q17
      have swn18 := sw_ne (k := 18) (by decide) q18
      have swn19 := sw_ne (k := 19) (by decide) q19
      have swn20 := sw_ne (k := 20) (by decide) q20
      have swn21 := sw_ne (k := 21) (by decide) q21
      have swn22 := sw_ne (k := 22) (by decide) q22
      have swn23 := sw_ne (k := 23) (by decide) q23
      refine g_swOut X 917 dL_law_32 (by omega) (by decide) ?_
      obtain ⟨x261, hx261⟩ : ∃ y : Int32, y = a3 + (4 : Int32) := ⟨_, rfl⟩
      have hw := hw x261 hx261
      refine g_iinc (lv' := [(3, iV x261), (0, xV b), (1, rV o1), (2, rV o2)]) X x261 dL_law_917 3 rfl (by rw [hx261]; rfl) (by decide) rfl ?_
      refine g_goto X 18 dL_law_920 (by decide) ?_
      refine g_lvsub (lv' := [(0, xV b), (1, rV o1), (2, rV o2), (3, iV x261)]) [1, 2, 3, 0] rfl ?_
      exact ih _ _ _ _ hw
def w_law (xs : Nat → Int32) (L : Nat) (M : Mem) : Prop := ((kd (0 + 1) = (5, 0) ∧ Al room_1 0 0) ∧ (∀ M262, M262 = zr M (0 + 1) → (∀ r263, r263 = (0 + 1) → (((0 + 1) - 0 + rmX5_init.cells ≤ room_1.cells ∧ SL (0 + 1) - SL 0 + rmX5_init.slots ≤ room_1.slots) ∧ (((0 + 1) - 0 + rmX5_init.cells ≤ 0 + 1 + 447 - 0 ∧ SL (0 + 1) - SL 0 + rmX5_init.slots ≤ SL (0 + 1 + 447) - SL 0) ∧ (¬ r263 = 0 ∧ w_X5_init (0 + 1) M262 r263  (fun M266 => ((kd (0 + 1 + 447 + 1) = (6, 0) ∧ Al room_1 0 (0 + 1 + 447)) ∧ (∀ M267, M267 = zr M266 (0 + 1 + 447 + 1) → (∀ r268, r268 = (0 + 1 + 447 + 1) → (((0 + 1 + 447 + 1) - 0 + rmX6_init.cells ≤ room_1.cells ∧ SL (0 + 1 + 447 + 1) - SL 0 + rmX6_init.slots ≤ room_1.slots) ∧ (((0 + 1 + 447 + 1) - 0 + rmX6_init.cells ≤ 0 + 1 + 447 + 1 + 8 - 0 ∧ SL (0 + 1 + 447 + 1) - SL 0 + rmX6_init.slots ≤ SL (0 + 1 + 447 + 1 + 8) - SL 0) ∧ (¬ r268 = 0 ∧ w_X6_init (0 + 1 + 447 + 1) M267 r268  (fun M271 => w_L_law_L18 xs L 4000 M271 r263 r268 (0 : Int32)))))))))))))))
set_option maxHeartbeats 4000000 in
set_option maxRecDepth 20000 in
theorem law_all {p : Program} {e : Env} {s : State} {m : MethodId} {below : List Frame} {meth : Method} {c : Code} (l : Launch) (E : Gl) {b L : Nat} {xs : Nat → Int32} (X : CX E p s m c cL_law 8 RL) (SXh : SX E s b L xs) (hr : meth.sig.returnType = ret) (hlk : meth.locks = false) (M : Mem) (hw : w_law xs L M) : G E p l e room_1 s m #[Value.ref b] below meth c 8 0 M (0 - 0) (SL 0 - SL 0) (lw_Z below #[Value.ref b] s) 0 [(0, xV b)] [] := by
  unfold w_law at hw
  refine g_new (ci := 5) X dL_law_0 (by decide) ⟨wl_L_7, wx_X5, wi_X5⟩ hw (fun hw => ?_)
  refine g_topM (fun M262 hM262 => ?_)
  have hw := hw M262 hM262
  refine g_topR (fun r263 hr263 => ?_)
  have hw := hw r263 hr263
  refine g_dup X dL_law_3 rfl ?_
  obtain ⟨hA264, hw⟩ := hw
  obtain ⟨hA264b, hw⟩ := hw
  obtain ⟨h0265, hw⟩ := hw
  refine g_callv (pc' := 7) (rest := [rV r263]) rfl (fun H locs ls d qR qL => g_runI X cw_L_9 ⟨rfl, wn_X5_init⟩ ⟨Nat.le_of_ble_eq_true rfl, Nat.le_of_ble_eq_true rfl⟩ dL_law_4 (c_X5_init l E (0 + 1) M262 r263  _ hw) h0265 rfl rfl (Nat.le_of_ble_eq_true rfl) hA264 qR qL) (fun M266 hw => ?_)
  refine g_widen (k := 0 + 1 + 447 - 0) (z := SL (0 + 1 + 447) - SL 0) hA264b.1 hA264b.2 ?_
  refine g_astore_n (lv' := [(1, rV r263), (0, xV b)]) X dL_law_7 (by decide) rfl ?_
  refine g_new (ci := 6) X dL_law_8 (by decide) ⟨wl_L_10, wx_X6, wi_X6⟩ hw (fun hw => ?_)
  refine g_topM (fun M267 hM267 => ?_)
  have hw := hw M267 hM267
  refine g_topR (fun r268 hr268 => ?_)
  have hw := hw r268 hr268
  refine g_dup X dL_law_11 rfl ?_
  obtain ⟨hA269, hw⟩ := hw
  obtain ⟨hA269b, hw⟩ := hw
  obtain ⟨h0270, hw⟩ := hw
  refine g_callv (pc' := 15) (rest := [rV r268]) rfl (fun H locs ls d qR qL => g_runI X cw_L_12 ⟨rfl, wn_X6_init⟩ ⟨Nat.le_of_ble_eq_true rfl, Nat.le_of_ble_eq_true rfl⟩ dL_law_12 (c_X6_init l E (0 + 1 + 447 + 1) M267 r268  _ hw) h0270 rfl rfl (Nat.le_of_ble_eq_true rfl) hA269 qR qL) (fun M271 hw => ?_)
  refine g_widen (k := 0 + 1 + 447 + 1 + 8 - 0) (z := SL (0 + 1 + 447 + 1 + 8) - SL 0) hA269b.1 hA269b.2 ?_
  refine g_astore_n (lv' := [(2, rV r268), (1, rV r263), (0, xV b)]) X dL_law_15 (by decide) rfl ?_
  refine g_iconst X (0 : Int32) dL_law_16 (by decide) ?_
  refine g_istore_n (lv' := [(3, iV (0 : Int32)), (2, rV r268), (1, rV r263), (0, xV b)]) X dL_law_17 (by decide) rfl ?_
  refine g_lvsub (lv' := [(0, xV b), (1, rV r263), (2, rV r268), (3, iV (0 : Int32))]) [3, 2, 1, 0] rfl ?_
  refine g_widen (k := 600000) (z := 7302249) (by decide) (by decide +kernel) ?_
  exact law_L18 l E X SXh hr hlk _ _ _ _ _ hw
