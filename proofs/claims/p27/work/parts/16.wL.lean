/-! written by wip/p27/gen out of the bytecode -/
theorem wk_L_8 : Cond.constant RL 8 (2147483647) ∈ lwG := lwG_of (tb3 _ (List.mem_of_getElem? (i := 86) (by decide +kernel))) (by decide +kernel)
theorem wk_L_9 : Cond.constantLong RL 9 (71) ∈ lwG := lwG_of (tb3 _ (List.mem_of_getElem? (i := 90) (by decide +kernel))) (by decide +kernel)
theorem wc_X5_count : Cond.code yX5_count cX5_count 2 (some .int) ∈ lwG := lwG_of (tb3 _ (List.mem_of_getElem? (i := 66) (by decide +kernel))) (by decide +kernel)
theorem wm_L_13 : Cond.methodLink RL 13 yX5_count ∈ lwG := lwG_of (tb3 _ (List.mem_of_getElem? (i := 63) (by decide +kernel))) (by decide +kernel)
theorem cw_L_13 : CW RL 13 yX5_count cX5_count 2 (some .int) 1 := ⟨by decide +kernel, by decide +kernel, wc_X5_count, wi_X5, wm_L_13⟩
theorem wn_X5_count : Cond.instanceMethod yX5_count ∈ lwG := lwG_of (tb3 _ (List.mem_of_getElem? (i := 64) (by decide +kernel))) (by decide +kernel)
theorem ws_X5_count : Cond.selects RX5 yX5_count yX5_count ∈ lwG := lwG_of (tb3 _ (List.mem_of_getElem? (i := 65) (by decide +kernel))) (by decide +kernel)
theorem iv_X5_count : Cond.instanceMethod yX5_count ∈ lwG ∧ Cond.selects (fC 5) yX5_count yX5_count ∈ lwG ∧ 5 < 7 := ⟨wn_X5_count, ws_X5_count, by decide⟩
theorem wk_L_11 : Cond.constantLong RL 11 (31) ∈ lwG := lwG_of (tb3 _ (List.mem_of_getElem? (i := 91) (by decide +kernel))) (by decide +kernel)
theorem wc_X5_part : Cond.code yX5_part cX5_part 4 (some .int) ∈ lwG := lwG_of (tb3 _ (List.mem_of_getElem? (i := 112) (by decide +kernel))) (by decide +kernel)
theorem wm_L_30 : Cond.methodLink RL 30 yX5_part ∈ lwG := lwG_of (tb3 _ (List.mem_of_getElem? (i := 109) (by decide +kernel))) (by decide +kernel)
theorem cw_L_30 : CW RL 30 yX5_part cX5_part 4 (some .int) 2 := ⟨by decide +kernel, by decide +kernel, wc_X5_part, wi_X5, wm_L_30⟩
theorem wn_X5_part : Cond.instanceMethod yX5_part ∈ lwG := lwG_of (tb3 _ (List.mem_of_getElem? (i := 110) (by decide +kernel))) (by decide +kernel)
theorem ws_X5_part : Cond.selects RX5 yX5_part yX5_part ∈ lwG := lwG_of (tb3 _ (List.mem_of_getElem? (i := 111) (by decide +kernel))) (by decide +kernel)
theorem iv_X5_part : Cond.instanceMethod yX5_part ∈ lwG ∧ Cond.selects (fC 5) yX5_part yX5_part ∈ lwG ∧ 5 < 7 := ⟨wn_X5_part, ws_X5_part, by decide⟩
theorem wc_X5_display : Cond.code yX5_display cX5_display 3 (some .int) ∈ lwG := lwG_of (tb3 _ (List.mem_of_getElem? (i := 103) (by decide +kernel))) (by decide +kernel)
theorem wm_L_27 : Cond.methodLink RL 27 yX5_display ∈ lwG := lwG_of (tb3 _ (List.mem_of_getElem? (i := 100) (by decide +kernel))) (by decide +kernel)
theorem cw_L_27 : CW RL 27 yX5_display cX5_display 3 (some .int) 1 := ⟨by decide +kernel, by decide +kernel, wc_X5_display, wi_X5, wm_L_27⟩
theorem wn_X5_display : Cond.instanceMethod yX5_display ∈ lwG := lwG_of (tb3 _ (List.mem_of_getElem? (i := 101) (by decide +kernel))) (by decide +kernel)
theorem ws_X5_display : Cond.selects RX5 yX5_display yX5_display ∈ lwG := lwG_of (tb3 _ (List.mem_of_getElem? (i := 102) (by decide +kernel))) (by decide +kernel)
theorem iv_X5_display : Cond.instanceMethod yX5_display ∈ lwG ∧ Cond.selects (fC 5) yX5_display yX5_display ∈ lwG ∧ 5 < 7 := ⟨wn_X5_display, ws_X5_display, by decide⟩
theorem wc_X5_head : Cond.code yX5_head cX5_head 4 (some .int) ∈ lwG := lwG_of (tb3 _ (List.mem_of_getElem? (i := 95) (by decide +kernel))) (by decide +kernel)
theorem wm_L_23 : Cond.methodLink RL 23 yX5_head ∈ lwG := lwG_of (tb3 _ (List.mem_of_getElem? (i := 92) (by decide +kernel))) (by decide +kernel)
theorem cw_L_23 : CW RL 23 yX5_head cX5_head 4 (some .int) 2 := ⟨by decide +kernel, by decide +kernel, wc_X5_head, wi_X5, wm_L_23⟩
theorem wn_X5_head : Cond.instanceMethod yX5_head ∈ lwG := lwG_of (tb3 _ (List.mem_of_getElem? (i := 93) (by decide +kernel))) (by decide +kernel)
theorem ws_X5_head : Cond.selects RX5 yX5_head yX5_head ∈ lwG := lwG_of (tb3 _ (List.mem_of_getElem? (i := 94) (by decide +kernel))) (by decide +kernel)
theorem iv_X5_head : Cond.instanceMethod yX5_head ∈ lwG ∧ Cond.selects (fC 5) yX5_head yX5_head ∈ lwG ∧ 5 < 7 := ⟨wn_X5_head, ws_X5_head, by decide⟩
theorem wc_X5_pressureBits : Cond.code yX5_pressureBits cX5_pressureBits 3 (some .long) ∈ lwG := lwG_of (tb3 _ (List.mem_of_getElem? (i := 57) (by decide +kernel))) (by decide +kernel)
theorem wm_L_19 : Cond.methodLink RL 19 yX5_pressureBits ∈ lwG := lwG_of (tb3 _ (List.mem_of_getElem? (i := 54) (by decide +kernel))) (by decide +kernel)
theorem cw_L_19 : CW RL 19 yX5_pressureBits cX5_pressureBits 3 (some .long) 1 := ⟨by decide +kernel, by decide +kernel, wc_X5_pressureBits, wi_X5, wm_L_19⟩
theorem wn_X5_pressureBits : Cond.instanceMethod yX5_pressureBits ∈ lwG := lwG_of (tb3 _ (List.mem_of_getElem? (i := 55) (by decide +kernel))) (by decide +kernel)
theorem ws_X5_pressureBits : Cond.selects RX5 yX5_pressureBits yX5_pressureBits ∈ lwG := lwG_of (tb3 _ (List.mem_of_getElem? (i := 56) (by decide +kernel))) (by decide +kernel)
theorem iv_X5_pressureBits : Cond.instanceMethod yX5_pressureBits ∈ lwG ∧ Cond.selects (fC 5) yX5_pressureBits yX5_pressureBits ∈ lwG ∧ 5 < 7 := ⟨wn_X5_pressureBits, ws_X5_pressureBits, by decide⟩
theorem wa_int : Cond.arrayClass .int ∈ lwG := lwG_of (tb3 _ (List.mem_of_getElem? (i := 144) (by decide +kernel))) (by decide +kernel)
theorem wc_X5_value : Cond.code yX5_value cX5_value 3 (some .double) ∈ lwG := lwG_of (tb3 _ (List.mem_of_getElem? (i := 122) (by decide +kernel))) (by decide +kernel)
theorem wm_L_33 : Cond.methodLink RL 33 yX5_value ∈ lwG := lwG_of (tb3 _ (List.mem_of_getElem? (i := 119) (by decide +kernel))) (by decide +kernel)
theorem cw_L_33 : CW RL 33 yX5_value cX5_value 3 (some .double) 1 := ⟨by decide +kernel, by decide +kernel, wc_X5_value, wi_X5, wm_L_33⟩
theorem wn_X5_value : Cond.instanceMethod yX5_value ∈ lwG := lwG_of (tb3 _ (List.mem_of_getElem? (i := 120) (by decide +kernel))) (by decide +kernel)
theorem ws_X5_value : Cond.selects RX5 yX5_value yX5_value ∈ lwG := lwG_of (tb3 _ (List.mem_of_getElem? (i := 121) (by decide +kernel))) (by decide +kernel)
theorem iv_X5_value : Cond.instanceMethod yX5_value ∈ lwG ∧ Cond.selects (fC 5) yX5_value yX5_value ∈ lwG ∧ 5 < 7 := ⟨wn_X5_value, ws_X5_value, by decide⟩
theorem wc_X5_trace : Cond.code yX5_trace cX5_trace 5 (some .double) ∈ lwG := lwG_of (tb3 _ (List.mem_of_getElem? (i := 136) (by decide +kernel))) (by decide +kernel)
theorem wm_L_37 : Cond.methodLink RL 37 yX5_trace ∈ lwG := lwG_of (tb3 _ (List.mem_of_getElem? (i := 133) (by decide +kernel))) (by decide +kernel)
theorem cw_L_37 : CW RL 37 yX5_trace cX5_trace 5 (some .double) 2 := ⟨by decide +kernel, by decide +kernel, wc_X5_trace, wi_X5, wm_L_37⟩
theorem wn_X5_trace : Cond.instanceMethod yX5_trace ∈ lwG := lwG_of (tb3 _ (List.mem_of_getElem? (i := 134) (by decide +kernel))) (by decide +kernel)
theorem ws_X5_trace : Cond.selects RX5 yX5_trace yX5_trace ∈ lwG := lwG_of (tb3 _ (List.mem_of_getElem? (i := 135) (by decide +kernel))) (by decide +kernel)
theorem iv_X5_trace : Cond.instanceMethod yX5_trace ∈ lwG ∧ Cond.selects (fC 5) yX5_trace yX5_trace ∈ lwG ∧ 5 < 7 := ⟨wn_X5_trace, ws_X5_trace, by decide⟩
theorem wk_L_44 : Cond.constantDouble RL 44 (4652007308841189376) ∈ lwG := lwG_of (tb3 _ (List.mem_of_getElem? (i := 142) (by decide +kernel))) (by decide +kernel)
theorem wc_X5_gauge : Cond.code yX5_gauge cX5_gauge 4 (some .double) ∈ lwG := lwG_of (tb3 _ (List.mem_of_getElem? (i := 141) (by decide +kernel))) (by decide +kernel)
theorem wm_L_41 : Cond.methodLink RL 41 yX5_gauge ∈ lwG := lwG_of (tb3 _ (List.mem_of_getElem? (i := 138) (by decide +kernel))) (by decide +kernel)
theorem cw_L_41 : CW RL 41 yX5_gauge cX5_gauge 4 (some .double) 2 := ⟨by decide +kernel, by decide +kernel, wc_X5_gauge, wi_X5, wm_L_41⟩
theorem wn_X5_gauge : Cond.instanceMethod yX5_gauge ∈ lwG := lwG_of (tb3 _ (List.mem_of_getElem? (i := 139) (by decide +kernel))) (by decide +kernel)
theorem ws_X5_gauge : Cond.selects RX5 yX5_gauge yX5_gauge ∈ lwG := lwG_of (tb3 _ (List.mem_of_getElem? (i := 140) (by decide +kernel))) (by decide +kernel)
theorem iv_X5_gauge : Cond.instanceMethod yX5_gauge ∈ lwG ∧ Cond.selects (fC 5) yX5_gauge yX5_gauge ∈ lwG ∧ 5 < 7 := ⟨wn_X5_gauge, ws_X5_gauge, by decide⟩
theorem wc_L_traces : Cond.code yL_traces cL_traces 16 (some .boolean) ∈ lwG := lwG_of (tb3 _ (List.mem_of_getElem? (i := 132) (by decide +kernel))) (by decide +kernel)
theorem wi_L : Cond.initialized RL ∈ lwG := lwG_of (tb1 _ (List.mem_of_getElem? (i := 0) (by decide +kernel))) (by decide +kernel)
theorem wm_L_46 : Cond.methodLink RL 46 yL_traces ∈ lwG := lwG_of (tb3 _ (List.mem_of_getElem? (i := 130) (by decide +kernel))) (by decide +kernel)
theorem cw_L_46 : CW RL 46 yL_traces cL_traces 16 (some .boolean) 2 := ⟨by decide +kernel, by decide +kernel, wc_L_traces, wi_L, wm_L_46⟩
theorem wt_L_traces : Cond.static yL_traces ∈ lwG := lwG_of (tb3 _ (List.mem_of_getElem? (i := 131) (by decide +kernel))) (by decide +kernel)
theorem wc_L_parts : Cond.code yL_parts cL_parts 13 (some .boolean) ∈ lwG := lwG_of (tb3 _ (List.mem_of_getElem? (i := 118) (by decide +kernel))) (by decide +kernel)
theorem wm_L_52 : Cond.methodLink RL 52 yL_parts ∈ lwG := lwG_of (tb3 _ (List.mem_of_getElem? (i := 116) (by decide +kernel))) (by decide +kernel)
theorem cw_L_52 : CW RL 52 yL_parts cL_parts 13 (some .boolean) 1 := ⟨by decide +kernel, by decide +kernel, wc_L_parts, wi_L, wm_L_52⟩
theorem wt_L_parts : Cond.static yL_parts ∈ lwG := lwG_of (tb3 _ (List.mem_of_getElem? (i := 117) (by decide +kernel))) (by decide +kernel)
theorem wc_L_heads : Cond.code yL_heads cL_heads 7 (some .boolean) ∈ lwG := lwG_of (tb3 _ (List.mem_of_getElem? (i := 129) (by decide +kernel))) (by decide +kernel)
theorem wm_L_56 : Cond.methodLink RL 56 yL_heads ∈ lwG := lwG_of (tb3 _ (List.mem_of_getElem? (i := 127) (by decide +kernel))) (by decide +kernel)
theorem cw_L_56 : CW RL 56 yL_heads cL_heads 7 (some .boolean) 1 := ⟨by decide +kernel, by decide +kernel, wc_L_heads, wi_L, wm_L_56⟩
theorem wt_L_heads : Cond.static yL_heads ∈ lwG := lwG_of (tb3 _ (List.mem_of_getElem? (i := 128) (by decide +kernel))) (by decide +kernel)
theorem wk_L_59 : Cond.constantLong RL 59 (-2) ∈ lwG := lwG_of (tb3 _ (List.mem_of_getElem? (i := 143) (by decide +kernel))) (by decide +kernel)
theorem wk_L_73 : Cond.constantLong RL 73 (4627026404658118656) ∈ lwG := lwG_of (tb3 _ (List.mem_of_getElem? (i := 157) (by decide +kernel))) (by decide +kernel)
theorem wk_L_71 : Cond.constantLong RL 71 (4629137466983448576) ∈ lwG := lwG_of (tb3 _ (List.mem_of_getElem? (i := 156) (by decide +kernel))) (by decide +kernel)
theorem wk_L_69 : Cond.constantLong RL 69 (4626322717216342016) ∈ lwG := lwG_of (tb3 _ (List.mem_of_getElem? (i := 155) (by decide +kernel))) (by decide +kernel)
theorem wk_L_67 : Cond.constantLong RL 67 (4638387860618067575) ∈ lwG := lwG_of (tb3 _ (List.mem_of_getElem? (i := 154) (by decide +kernel))) (by decide +kernel)
theorem wk_L_65 : Cond.constantLong RL 65 (4607182418800017408) ∈ lwG := lwG_of (tb3 _ (List.mem_of_getElem? (i := 153) (by decide +kernel))) (by decide +kernel)
theorem wk_L_63 : Cond.constantLong RL 63 (4652007308841189376) ∈ lwG := lwG_of (tb3 _ (List.mem_of_getElem? (i := 152) (by decide +kernel))) (by decide +kernel)
theorem wk_L_61 : Cond.constantLong RL 61 (4647503709213818880) ∈ lwG := lwG_of (tb3 _ (List.mem_of_getElem? (i := 151) (by decide +kernel))) (by decide +kernel)
theorem wc_L_low : Cond.code yL_low cL_low 2 (some .int) ∈ lwG := lwG_of (tb3 _ (List.mem_of_getElem? (i := 85) (by decide +kernel))) (by decide +kernel)
theorem wm_L_75 : Cond.methodLink RL 75 yL_low ∈ lwG := lwG_of (tb3 _ (List.mem_of_getElem? (i := 83) (by decide +kernel))) (by decide +kernel)
theorem cw_L_75 : CW RL 75 yL_low cL_low 2 (some .int) 2 := ⟨by decide +kernel, by decide +kernel, wc_L_low, wi_L, wm_L_75⟩
theorem wt_L_low : Cond.static yL_low ∈ lwG := lwG_of (tb3 _ (List.mem_of_getElem? (i := 84) (by decide +kernel))) (by decide +kernel)
theorem wk_L_101 : Cond.constant RL 101 (99999) ∈ lwG := lwG_of (tb3 _ (List.mem_of_getElem? (i := 178) (by decide +kernel))) (by decide +kernel)
theorem wc_X5_calibrate : Cond.code yX5_calibrate cX5_calibrate 5 (some .int) ∈ lwG := lwG_of (tb2 _ (List.mem_of_getElem? (i := 78) (by decide +kernel))) (by decide +kernel)
theorem wm_L_102 : Cond.methodLink RL 102 yX5_calibrate ∈ lwG := lwG_of (tb2 _ (List.mem_of_getElem? (i := 75) (by decide +kernel))) (by decide +kernel)
theorem cw_L_102 : CW RL 102 yX5_calibrate cX5_calibrate 5 (some .int) 2 := ⟨by decide +kernel, by decide +kernel, wc_X5_calibrate, wi_X5, wm_L_102⟩
theorem wn_X5_calibrate : Cond.instanceMethod yX5_calibrate ∈ lwG := lwG_of (tb2 _ (List.mem_of_getElem? (i := 76) (by decide +kernel))) (by decide +kernel)
theorem ws_X5_calibrate : Cond.selects RX5 yX5_calibrate yX5_calibrate ∈ lwG := lwG_of (tb2 _ (List.mem_of_getElem? (i := 77) (by decide +kernel))) (by decide +kernel)
theorem iv_X5_calibrate : Cond.instanceMethod yX5_calibrate ∈ lwG ∧ Cond.selects (fC 5) yX5_calibrate yX5_calibrate ∈ lwG ∧ 5 < 7 := ⟨wn_X5_calibrate, ws_X5_calibrate, by decide⟩
theorem wk_L_105 : Cond.constantDouble RL 105 (4517329193108106637) ∈ lwG := lwG_of (tb3 _ (List.mem_of_getElem? (i := 179) (by decide +kernel))) (by decide +kernel)
theorem wk_L_107 : Cond.constantDouble RL 107 (13740701229962882445) ∈ lwG := lwG_of (tb3 _ (List.mem_of_getElem? (i := 180) (by decide +kernel))) (by decide +kernel)
theorem wc_X5_equip : Cond.code yX5_equip cX5_equip 6 (some .int) ∈ lwG := lwG_of (tb3 _ (List.mem_of_getElem? (i := 177) (by decide +kernel))) (by decide +kernel)
theorem wm_L_97 : Cond.methodLink RL 97 yX5_equip ∈ lwG := lwG_of (tb3 _ (List.mem_of_getElem? (i := 174) (by decide +kernel))) (by decide +kernel)
theorem cw_L_97 : CW RL 97 yX5_equip cX5_equip 6 (some .int) 3 := ⟨by decide +kernel, by decide +kernel, wc_X5_equip, wi_X5, wm_L_97⟩
theorem wn_X5_equip : Cond.instanceMethod yX5_equip ∈ lwG := lwG_of (tb3 _ (List.mem_of_getElem? (i := 175) (by decide +kernel))) (by decide +kernel)
theorem ws_X5_equip : Cond.selects RX5 yX5_equip yX5_equip ∈ lwG := lwG_of (tb3 _ (List.mem_of_getElem? (i := 176) (by decide +kernel))) (by decide +kernel)
theorem iv_X5_equip : Cond.instanceMethod yX5_equip ∈ lwG ∧ Cond.selects (fC 5) yX5_equip yX5_equip ∈ lwG ∧ 5 < 7 := ⟨wn_X5_equip, ws_X5_equip, by decide⟩
theorem wc_X5_setInterval : Cond.code yX5_setInterval cX5_setInterval 3 (some .int) ∈ lwG := lwG_of (tb3 _ (List.mem_of_getElem? (i := 173) (by decide +kernel))) (by decide +kernel)
theorem wm_L_94 : Cond.methodLink RL 94 yX5_setInterval ∈ lwG := lwG_of (tb3 _ (List.mem_of_getElem? (i := 170) (by decide +kernel))) (by decide +kernel)
theorem cw_L_94 : CW RL 94 yX5_setInterval cX5_setInterval 3 (some .int) 1 := ⟨by decide +kernel, by decide +kernel, wc_X5_setInterval, wi_X5, wm_L_94⟩
theorem wn_X5_setInterval : Cond.instanceMethod yX5_setInterval ∈ lwG := lwG_of (tb3 _ (List.mem_of_getElem? (i := 171) (by decide +kernel))) (by decide +kernel)
theorem ws_X5_setInterval : Cond.selects RX5 yX5_setInterval yX5_setInterval ∈ lwG := lwG_of (tb3 _ (List.mem_of_getElem? (i := 172) (by decide +kernel))) (by decide +kernel)
theorem iv_X5_setInterval : Cond.instanceMethod yX5_setInterval ∈ lwG ∧ Cond.selects (fC 5) yX5_setInterval yX5_setInterval ∈ lwG ∧ 5 < 7 := ⟨wn_X5_setInterval, ws_X5_setInterval, by decide⟩
theorem wc_L_bits : Cond.code yL_bits cL_bits 2 (some .long) ∈ lwG := lwG_of (tb3 _ (List.mem_of_getElem? (i := 150) (by decide +kernel))) (by decide +kernel)
theorem wm_L_78 : Cond.methodLink RL 78 yL_bits ∈ lwG := lwG_of (tb3 _ (List.mem_of_getElem? (i := 148) (by decide +kernel))) (by decide +kernel)
theorem cw_L_78 : CW RL 78 yL_bits cL_bits 2 (some .long) 2 := ⟨by decide +kernel, by decide +kernel, wc_L_bits, wi_L, wm_L_78⟩
theorem wt_L_bits : Cond.static yL_bits ∈ lwG := lwG_of (tb3 _ (List.mem_of_getElem? (i := 149) (by decide +kernel))) (by decide +kernel)
theorem wk_L_82 : Cond.constantLong RL 82 (9221120237041090560) ∈ lwG := lwG_of (tb3 _ (List.mem_of_getElem? (i := 158) (by decide +kernel))) (by decide +kernel)
theorem wc_X5_setPressure : Cond.code yX5_setPressure cX5_setPressure 5 (some .int) ∈ lwG := lwG_of (tb3 _ (List.mem_of_getElem? (i := 162) (by decide +kernel))) (by decide +kernel)
theorem wm_L_84 : Cond.methodLink RL 84 yX5_setPressure ∈ lwG := lwG_of (tb3 _ (List.mem_of_getElem? (i := 159) (by decide +kernel))) (by decide +kernel)
theorem cw_L_84 : CW RL 84 yX5_setPressure cX5_setPressure 5 (some .int) 2 := ⟨by decide +kernel, by decide +kernel, wc_X5_setPressure, wi_X5, wm_L_84⟩
theorem wn_X5_setPressure : Cond.instanceMethod yX5_setPressure ∈ lwG := lwG_of (tb3 _ (List.mem_of_getElem? (i := 160) (by decide +kernel))) (by decide +kernel)
theorem ws_X5_setPressure : Cond.selects RX5 yX5_setPressure yX5_setPressure ∈ lwG := lwG_of (tb3 _ (List.mem_of_getElem? (i := 161) (by decide +kernel))) (by decide +kernel)
theorem iv_X5_setPressure : Cond.instanceMethod yX5_setPressure ∈ lwG ∧ Cond.selects (fC 5) yX5_setPressure yX5_setPressure ∈ lwG ∧ 5 < 7 := ⟨wn_X5_setPressure, ws_X5_setPressure, by decide⟩
theorem wk_L_88 : Cond.constantLong RL 88 (-9223372036854775808) ∈ lwG := lwG_of (tb3 _ (List.mem_of_getElem? (i := 167) (by decide +kernel))) (by decide +kernel)
theorem wk_L_90 : Cond.constantLong RL 90 (4696837155274620928) ∈ lwG := lwG_of (tb3 _ (List.mem_of_getElem? (i := 168) (by decide +kernel))) (by decide +kernel)
theorem wk_L_92 : Cond.constantLong RL 92 (4602678819172646912) ∈ lwG := lwG_of (tb3 _ (List.mem_of_getElem? (i := 169) (by decide +kernel))) (by decide +kernel)
theorem wc_X5_clearText : Cond.code yX5_clearText cX5_clearText 2 (some .int) ∈ lwG := lwG_of (tb3 _ (List.mem_of_getElem? (i := 190) (by decide +kernel))) (by decide +kernel)
theorem wm_L_109 : Cond.methodLink RL 109 yX5_clearText ∈ lwG := lwG_of (tb3 _ (List.mem_of_getElem? (i := 187) (by decide +kernel))) (by decide +kernel)
theorem cw_L_109 : CW RL 109 yX5_clearText cX5_clearText 2 (some .int) 0 := ⟨by decide +kernel, by decide +kernel, wc_X5_clearText, wi_X5, wm_L_109⟩
theorem wn_X5_clearText : Cond.instanceMethod yX5_clearText ∈ lwG := lwG_of (tb3 _ (List.mem_of_getElem? (i := 188) (by decide +kernel))) (by decide +kernel)
theorem ws_X5_clearText : Cond.selects RX5 yX5_clearText yX5_clearText ∈ lwG := lwG_of (tb3 _ (List.mem_of_getElem? (i := 189) (by decide +kernel))) (by decide +kernel)
theorem iv_X5_clearText : Cond.instanceMethod yX5_clearText ∈ lwG ∧ Cond.selects (fC 5) yX5_clearText yX5_clearText ∈ lwG ∧ 5 < 7 := ⟨wn_X5_clearText, ws_X5_clearText, by decide⟩
theorem wc_X5_perform : Cond.code yX5_perform cX5_perform 1 (some .int) ∈ lwG := lwG_of (tb2 _ (List.mem_of_getElem? (i := 146) (by decide +kernel))) (by decide +kernel)
theorem wm_L_117 : Cond.methodLink RL 117 yX5_perform ∈ lwG := lwG_of (tb2 _ (List.mem_of_getElem? (i := 143) (by decide +kernel))) (by decide +kernel)
theorem cw_L_117 : CW RL 117 yX5_perform cX5_perform 1 (some .int) 0 := ⟨by decide +kernel, by decide +kernel, wc_X5_perform, wi_X5, wm_L_117⟩
theorem wn_X5_perform : Cond.instanceMethod yX5_perform ∈ lwG := lwG_of (tb2 _ (List.mem_of_getElem? (i := 144) (by decide +kernel))) (by decide +kernel)
theorem ws_X5_perform : Cond.selects RX5 yX5_perform yX5_perform ∈ lwG := lwG_of (tb2 _ (List.mem_of_getElem? (i := 145) (by decide +kernel))) (by decide +kernel)
theorem iv_X5_perform : Cond.instanceMethod yX5_perform ∈ lwG ∧ Cond.selects (fC 5) yX5_perform yX5_perform ∈ lwG ∧ 5 < 7 := ⟨wn_X5_perform, ws_X5_perform, by decide⟩
theorem wc_X5_type : Cond.code yX5_type cX5_type 2 (some .int) ∈ lwG := lwG_of (tb3 _ (List.mem_of_getElem? (i := 194) (by decide +kernel))) (by decide +kernel)
theorem wm_L_113 : Cond.methodLink RL 113 yX5_type ∈ lwG := lwG_of (tb3 _ (List.mem_of_getElem? (i := 191) (by decide +kernel))) (by decide +kernel)
theorem cw_L_113 : CW RL 113 yX5_type cX5_type 2 (some .int) 1 := ⟨by decide +kernel, by decide +kernel, wc_X5_type, wi_X5, wm_L_113⟩
theorem wn_X5_type : Cond.instanceMethod yX5_type ∈ lwG := lwG_of (tb3 _ (List.mem_of_getElem? (i := 192) (by decide +kernel))) (by decide +kernel)
theorem ws_X5_type : Cond.selects RX5 yX5_type yX5_type ∈ lwG := lwG_of (tb3 _ (List.mem_of_getElem? (i := 193) (by decide +kernel))) (by decide +kernel)
theorem iv_X5_type : Cond.instanceMethod yX5_type ∈ lwG ∧ Cond.selects (fC 5) yX5_type yX5_type ∈ lwG ∧ 5 < 7 := ⟨wn_X5_type, ws_X5_type, by decide⟩
theorem wc_L_command : Cond.code yL_command cL_command 5 (some .int) ∈ lwG := lwG_of (tb3 _ (List.mem_of_getElem? (i := 186) (by decide +kernel))) (by decide +kernel)
theorem wm_L_120 : Cond.methodLink RL 120 yL_command ∈ lwG := lwG_of (tb3 _ (List.mem_of_getElem? (i := 184) (by decide +kernel))) (by decide +kernel)
theorem cw_L_120 : CW RL 120 yL_command cL_command 5 (some .int) 2 := ⟨by decide +kernel, by decide +kernel, wc_L_command, wi_L, wm_L_120⟩
theorem wt_L_command : Cond.static yL_command ∈ lwG := lwG_of (tb3 _ (List.mem_of_getElem? (i := 185) (by decide +kernel))) (by decide +kernel)
theorem wc_X5_keep : Cond.code yX5_keep cX5_keep 1 (some .int) ∈ lwG := lwG_of (tb3 _ (List.mem_of_getElem? (i := 205) (by decide +kernel))) (by decide +kernel)
theorem wm_L_124 : Cond.methodLink RL 124 yX5_keep ∈ lwG := lwG_of (tb3 _ (List.mem_of_getElem? (i := 202) (by decide +kernel))) (by decide +kernel)
theorem cw_L_124 : CW RL 124 yX5_keep cX5_keep 1 (some .int) 0 := ⟨by decide +kernel, by decide +kernel, wc_X5_keep, wi_X5, wm_L_124⟩
theorem wn_X5_keep : Cond.instanceMethod yX5_keep ∈ lwG := lwG_of (tb3 _ (List.mem_of_getElem? (i := 203) (by decide +kernel))) (by decide +kernel)
theorem ws_X5_keep : Cond.selects RX5 yX5_keep yX5_keep ∈ lwG := lwG_of (tb3 _ (List.mem_of_getElem? (i := 204) (by decide +kernel))) (by decide +kernel)
theorem iv_X5_keep : Cond.instanceMethod yX5_keep ∈ lwG ∧ Cond.selects (fC 5) yX5_keep yX5_keep ∈ lwG ∧ 5 < 7 := ⟨wn_X5_keep, ws_X5_keep, by decide⟩
theorem wc_X5_run : Cond.code yX5_run cX5_run 2 (some .int) ∈ lwG := lwG_of (tb3 _ (List.mem_of_getElem? (i := 209) (by decide +kernel))) (by decide +kernel)
theorem wm_L_127 : Cond.methodLink RL 127 yX5_run ∈ lwG := lwG_of (tb3 _ (List.mem_of_getElem? (i := 206) (by decide +kernel))) (by decide +kernel)
theorem cw_L_127 : CW RL 127 yX5_run cX5_run 2 (some .int) 1 := ⟨by decide +kernel, by decide +kernel, wc_X5_run, wi_X5, wm_L_127⟩
theorem wn_X5_run : Cond.instanceMethod yX5_run ∈ lwG := lwG_of (tb3 _ (List.mem_of_getElem? (i := 207) (by decide +kernel))) (by decide +kernel)
theorem ws_X5_run : Cond.selects RX5 yX5_run yX5_run ∈ lwG := lwG_of (tb3 _ (List.mem_of_getElem? (i := 208) (by decide +kernel))) (by decide +kernel)
theorem iv_X5_run : Cond.instanceMethod yX5_run ∈ lwG ∧ Cond.selects (fC 5) yX5_run yX5_run ∈ lwG ∧ 5 < 7 := ⟨wn_X5_run, ws_X5_run, by decide⟩
theorem wc_L_digest : Cond.code yL_digest cL_digest 5 (some .long) ∈ lwG := lwG_of (tb3 _ (List.mem_of_getElem? (i := 89) (by decide +kernel))) (by decide +kernel)
theorem wm_L_130 : Cond.methodLink RL 130 yL_digest ∈ lwG := lwG_of (tb3 _ (List.mem_of_getElem? (i := 87) (by decide +kernel))) (by decide +kernel)
theorem cw_L_130 : CW RL 130 yL_digest cL_digest 5 (some .long) 1 := ⟨by decide +kernel, by decide +kernel, wc_L_digest, wi_L, wm_L_130⟩
theorem wt_L_digest : Cond.static yL_digest ∈ lwG := lwG_of (tb3 _ (List.mem_of_getElem? (i := 88) (by decide +kernel))) (by decide +kernel)
theorem wc_X5_restore : Cond.code yX5_restore cX5_restore 1 (some .int) ∈ lwG := lwG_of (tb3 _ (List.mem_of_getElem? (i := 47) (by decide +kernel))) (by decide +kernel)
theorem wm_L_134 : Cond.methodLink RL 134 yX5_restore ∈ lwG := lwG_of (tb3 _ (List.mem_of_getElem? (i := 44) (by decide +kernel))) (by decide +kernel)
theorem cw_L_134 : CW RL 134 yX5_restore cX5_restore 1 (some .int) 0 := ⟨by decide +kernel, by decide +kernel, wc_X5_restore, wi_X5, wm_L_134⟩
theorem wn_X5_restore : Cond.instanceMethod yX5_restore ∈ lwG := lwG_of (tb3 _ (List.mem_of_getElem? (i := 45) (by decide +kernel))) (by decide +kernel)
theorem ws_X5_restore : Cond.selects RX5 yX5_restore yX5_restore ∈ lwG := lwG_of (tb3 _ (List.mem_of_getElem? (i := 46) (by decide +kernel))) (by decide +kernel)
theorem iv_X5_restore : Cond.instanceMethod yX5_restore ∈ lwG ∧ Cond.selects (fC 5) yX5_restore yX5_restore ∈ lwG ∧ 5 < 7 := ⟨wn_X5_restore, ws_X5_restore, by decide⟩
theorem wc_X5_add : Cond.code yX5_add cX5_add 4 (some .int) ∈ lwG := lwG_of (tb3 _ (List.mem_of_getElem? (i := 217) (by decide +kernel))) (by decide +kernel)
theorem wm_L_138 : Cond.methodLink RL 138 yX5_add ∈ lwG := lwG_of (tb3 _ (List.mem_of_getElem? (i := 214) (by decide +kernel))) (by decide +kernel)
theorem cw_L_138 : CW RL 138 yX5_add cX5_add 4 (some .int) 3 := ⟨by decide +kernel, by decide +kernel, wc_X5_add, wi_X5, wm_L_138⟩
theorem wn_X5_add : Cond.instanceMethod yX5_add ∈ lwG := lwG_of (tb3 _ (List.mem_of_getElem? (i := 215) (by decide +kernel))) (by decide +kernel)
theorem ws_X5_add : Cond.selects RX5 yX5_add yX5_add ∈ lwG := lwG_of (tb3 _ (List.mem_of_getElem? (i := 216) (by decide +kernel))) (by decide +kernel)
theorem iv_X5_add : Cond.instanceMethod yX5_add ∈ lwG ∧ Cond.selects (fC 5) yX5_add yX5_add ∈ lwG ∧ 5 < 7 := ⟨wn_X5_add, ws_X5_add, by decide⟩
theorem wk_L_137 : Cond.constant RL 137 (100000) ∈ lwG := lwG_of (tb3 _ (List.mem_of_getElem? (i := 213) (by decide +kernel))) (by decide +kernel)
theorem dL_low_0 : decode cL_low 0 = .ok (.iload_n 0, 1) := by decide +kernel
theorem dL_low_1 : decode cL_low 1 = .ok (.ldc 8, 2) := by decide +kernel
theorem dL_low_3 : decode cL_low 3 = .ok (.iand, 1) := by decide +kernel
theorem dL_low_4 : decode cL_low 4 = .ok (.iload_n 1, 1) := by decide +kernel
theorem dL_low_5 : decode cL_low 5 = .ok (.irem, 1) := by decide +kernel
theorem dL_low_6 : decode cL_low 6 = .ok (.ireturn, 1) := by decide +kernel
abbrev rmL_low : Room := { frames := 0, cells := 0, slots := 0, locals := 0 }
def w_L_low (n : Nat) (M : Mem) (p1 : Int32) (p2 : Int32) (K : Int32 → Mem → Prop) : Prop := (¬ p2 = 0 ∧ (∀ x1, x1 = (p1 &&& (2147483647 : Int32)) - (p1 &&& (2147483647 : Int32)) / p2 * p2 → K x1 M))
set_option maxHeartbeats 4000000 in
set_option maxRecDepth 20000 in
theorem c_L_low (l : Launch) (E : Gl) (n : Nat) (M : Mem) (p1 : Int32) (p2 : Int32) (K : Int32 → Mem → Prop) (hw : w_L_low n M p1 p2 K) : CT E l yL_low cL_low 2 (some .int) rmL_low n M [iV p1, iV p2] (PI E n K) := by
  refine g_met l (by decide) (Nat.le_of_ble_eq_true rfl) ?_
  intro p e s m args below meth c X hr hlk hnm hSz hOld
  change CX E p s m c _ _ RL at X
  unfold w_L_low at hw
  refine g_iload_n X dL_low_0 0 rfl ?_
  refine g_ldc X (2147483647 : Int32) dL_low_1 wk_L_8 ?_
  refine g_iand X dL_low_3 ?_
  refine g_iload_n X dL_low_4 1 rfl ?_
  refine g_irem X dL_low_5 hw (fun hw => ?_)
  refine g_topI (fun x1 hx1 => ?_)
  have hw := hw x1 hx1
  exact g_iret X hr hlk hSz hOld (Nat.le_refl _) dL_low_6 hw
theorem dL_digest_0 : decode cL_digest 0 = .ok (.ldc2_w 9, 3) := by decide +kernel
theorem dL_digest_3 : decode cL_digest 3 = .ok (.lstore_n 1, 1) := by decide +kernel
theorem dL_digest_4 : decode cL_digest 4 = .ok (.iconst 0, 1) := by decide +kernel
theorem dL_digest_5 : decode cL_digest 5 = .ok (.istore_n 3, 1) := by decide +kernel
theorem dL_digest_6 : decode cL_digest 6 = .ok (.iload_n 3, 1) := by decide +kernel
theorem dL_digest_7 : decode cL_digest 7 = .ok (.bipush 15, 2) := by decide +kernel
theorem dL_digest_9 : decode cL_digest 9 = .ok (.if_icmp .ge 22, 3) := by decide +kernel
theorem dL_digest_12 : decode cL_digest 12 = .ok (.ldc2_w 11, 3) := by decide +kernel
theorem dL_digest_15 : decode cL_digest 15 = .ok (.lload_n 1, 1) := by decide +kernel
theorem dL_digest_16 : decode cL_digest 16 = .ok (.lmul, 1) := by decide +kernel
theorem dL_digest_17 : decode cL_digest 17 = .ok (.aload_n 0, 1) := by decide +kernel
theorem dL_digest_18 : decode cL_digest 18 = .ok (.iload_n 3, 1) := by decide +kernel
theorem dL_digest_19 : decode cL_digest 19 = .ok (.invokevirtual 13, 3) := by decide +kernel
theorem dL_digest_22 : decode cL_digest 22 = .ok (.i2l, 1) := by decide +kernel
theorem dL_digest_23 : decode cL_digest 23 = .ok (.ladd, 1) := by decide +kernel
theorem dL_digest_24 : decode cL_digest 24 = .ok (.lstore_n 1, 1) := by decide +kernel
theorem dL_digest_25 : decode cL_digest 25 = .ok (.iinc 3 1, 3) := by decide +kernel
theorem dL_digest_28 : decode cL_digest 28 = .ok (.goto (-22), 3) := by decide +kernel
theorem dL_digest_31 : decode cL_digest 31 = .ok (.iconst 0, 1) := by decide +kernel
theorem dL_digest_32 : decode cL_digest 32 = .ok (.istore_n 3, 1) := by decide +kernel
theorem dL_digest_33 : decode cL_digest 33 = .ok (.iload_n 3, 1) := by decide +kernel
theorem dL_digest_34 : decode cL_digest 34 = .ok (.iconst 3, 1) := by decide +kernel
theorem dL_digest_35 : decode cL_digest 35 = .ok (.if_icmp .ge 21, 3) := by decide +kernel
theorem dL_digest_38 : decode cL_digest 38 = .ok (.ldc2_w 11, 3) := by decide +kernel
theorem dL_digest_41 : decode cL_digest 41 = .ok (.lload_n 1, 1) := by decide +kernel
theorem dL_digest_42 : decode cL_digest 42 = .ok (.lmul, 1) := by decide +kernel
theorem dL_digest_43 : decode cL_digest 43 = .ok (.aload_n 0, 1) := by decide +kernel
theorem dL_digest_44 : decode cL_digest 44 = .ok (.iload_n 3, 1) := by decide +kernel
theorem dL_digest_45 : decode cL_digest 45 = .ok (.invokevirtual 19, 3) := by decide +kernel
theorem dL_digest_48 : decode cL_digest 48 = .ok (.ladd, 1) := by decide +kernel
theorem dL_digest_49 : decode cL_digest 49 = .ok (.lstore_n 1, 1) := by decide +kernel
theorem dL_digest_50 : decode cL_digest 50 = .ok (.iinc 3 1, 3) := by decide +kernel
theorem dL_digest_53 : decode cL_digest 53 = .ok (.goto (-20), 3) := by decide +kernel
theorem dL_digest_56 : decode cL_digest 56 = .ok (.iconst 0, 1) := by decide +kernel
theorem dL_digest_57 : decode cL_digest 57 = .ok (.istore_n 3, 1) := by decide +kernel
theorem dL_digest_58 : decode cL_digest 58 = .ok (.iload_n 3, 1) := by decide +kernel
theorem dL_digest_59 : decode cL_digest 59 = .ok (.aload_n 0, 1) := by decide +kernel
theorem dL_digest_60 : decode cL_digest 60 = .ok (.iconst 0, 1) := by decide +kernel
theorem dL_digest_61 : decode cL_digest 61 = .ok (.invokevirtual 13, 3) := by decide +kernel
theorem dL_digest_64 : decode cL_digest 64 = .ok (.if_icmp .ge 53, 3) := by decide +kernel
theorem dL_digest_67 : decode cL_digest 67 = .ok (.iconst 0, 1) := by decide +kernel
theorem dL_digest_68 : decode cL_digest 68 = .ok (.istore 4, 2) := by decide +kernel
theorem dL_digest_70 : decode cL_digest 70 = .ok (.iload 4, 2) := by decide +kernel
theorem dL_digest_72 : decode cL_digest 72 = .ok (.bipush 9, 2) := by decide +kernel
theorem dL_digest_74 : decode cL_digest 74 = .ok (.if_icmp .ge 24, 3) := by decide +kernel
theorem dL_digest_77 : decode cL_digest 77 = .ok (.ldc2_w 11, 3) := by decide +kernel
theorem dL_digest_80 : decode cL_digest 80 = .ok (.lload_n 1, 1) := by decide +kernel
theorem dL_digest_81 : decode cL_digest 81 = .ok (.lmul, 1) := by decide +kernel
theorem dL_digest_82 : decode cL_digest 82 = .ok (.aload_n 0, 1) := by decide +kernel
theorem dL_digest_83 : decode cL_digest 83 = .ok (.iload_n 3, 1) := by decide +kernel
theorem dL_digest_84 : decode cL_digest 84 = .ok (.iload 4, 2) := by decide +kernel
theorem dL_digest_86 : decode cL_digest 86 = .ok (.invokevirtual 23, 3) := by decide +kernel
theorem dL_digest_89 : decode cL_digest 89 = .ok (.i2l, 1) := by decide +kernel
theorem dL_digest_90 : decode cL_digest 90 = .ok (.ladd, 1) := by decide +kernel
theorem dL_digest_91 : decode cL_digest 91 = .ok (.lstore_n 1, 1) := by decide +kernel
theorem dL_digest_92 : decode cL_digest 92 = .ok (.iinc 4 1, 3) := by decide +kernel
theorem dL_digest_95 : decode cL_digest 95 = .ok (.goto (-25), 3) := by decide +kernel
theorem dL_digest_98 : decode cL_digest 98 = .ok (.ldc2_w 11, 3) := by decide +kernel
theorem dL_digest_101 : decode cL_digest 101 = .ok (.lload_n 1, 1) := by decide +kernel
theorem dL_digest_102 : decode cL_digest 102 = .ok (.lmul, 1) := by decide +kernel
theorem dL_digest_103 : decode cL_digest 103 = .ok (.aload_n 0, 1) := by decide +kernel
theorem dL_digest_104 : decode cL_digest 104 = .ok (.iload_n 3, 1) := by decide +kernel
theorem dL_digest_105 : decode cL_digest 105 = .ok (.invokevirtual 27, 3) := by decide +kernel
theorem dL_digest_108 : decode cL_digest 108 = .ok (.i2l, 1) := by decide +kernel
theorem dL_digest_109 : decode cL_digest 109 = .ok (.ladd, 1) := by decide +kernel
theorem dL_digest_110 : decode cL_digest 110 = .ok (.lstore_n 1, 1) := by decide +kernel
theorem dL_digest_111 : decode cL_digest 111 = .ok (.iinc 3 1, 3) := by decide +kernel
theorem dL_digest_114 : decode cL_digest 114 = .ok (.goto (-56), 3) := by decide +kernel
theorem dL_digest_117 : decode cL_digest 117 = .ok (.iconst 0, 1) := by decide +kernel
theorem dL_digest_118 : decode cL_digest 118 = .ok (.istore_n 3, 1) := by decide +kernel
theorem dL_digest_119 : decode cL_digest 119 = .ok (.iload_n 3, 1) := by decide +kernel
theorem dL_digest_120 : decode cL_digest 120 = .ok (.aload_n 0, 1) := by decide +kernel
theorem dL_digest_121 : decode cL_digest 121 = .ok (.iconst 2, 1) := by decide +kernel
theorem dL_digest_122 : decode cL_digest 122 = .ok (.invokevirtual 13, 3) := by decide +kernel
theorem dL_digest_125 : decode cL_digest 125 = .ok (.if_icmp .ge 40, 3) := by decide +kernel
theorem dL_digest_128 : decode cL_digest 128 = .ok (.iconst 0, 1) := by decide +kernel
theorem dL_digest_129 : decode cL_digest 129 = .ok (.istore 4, 2) := by decide +kernel
theorem dL_digest_131 : decode cL_digest 131 = .ok (.iload 4, 2) := by decide +kernel
theorem dL_digest_133 : decode cL_digest 133 = .ok (.bipush 9, 2) := by decide +kernel
theorem dL_digest_135 : decode cL_digest 135 = .ok (.if_icmp .ge 24, 3) := by decide +kernel
theorem dL_digest_138 : decode cL_digest 138 = .ok (.ldc2_w 11, 3) := by decide +kernel
theorem dL_digest_141 : decode cL_digest 141 = .ok (.lload_n 1, 1) := by decide +kernel
theorem dL_digest_142 : decode cL_digest 142 = .ok (.lmul, 1) := by decide +kernel
theorem dL_digest_143 : decode cL_digest 143 = .ok (.aload_n 0, 1) := by decide +kernel
theorem dL_digest_144 : decode cL_digest 144 = .ok (.iload_n 3, 1) := by decide +kernel
theorem dL_digest_145 : decode cL_digest 145 = .ok (.iload 4, 2) := by decide +kernel
theorem dL_digest_147 : decode cL_digest 147 = .ok (.invokevirtual 30, 3) := by decide +kernel
theorem dL_digest_150 : decode cL_digest 150 = .ok (.i2l, 1) := by decide +kernel
theorem dL_digest_151 : decode cL_digest 151 = .ok (.ladd, 1) := by decide +kernel
theorem dL_digest_152 : decode cL_digest 152 = .ok (.lstore_n 1, 1) := by decide +kernel
theorem dL_digest_153 : decode cL_digest 153 = .ok (.iinc 4 1, 3) := by decide +kernel
theorem dL_digest_156 : decode cL_digest 156 = .ok (.goto (-25), 3) := by decide +kernel
theorem dL_digest_159 : decode cL_digest 159 = .ok (.iinc 3 1, 3) := by decide +kernel
theorem dL_digest_162 : decode cL_digest 162 = .ok (.goto (-43), 3) := by decide +kernel
theorem dL_digest_165 : decode cL_digest 165 = .ok (.lload_n 1, 1) := by decide +kernel
theorem dL_digest_166 : decode cL_digest 166 = .ok (.lreturn, 1) := by decide +kernel
abbrev rmL_digest : Room := { frames := 2, cells := 0, slots := 0, locals := 47 }
def w_L_digest_L131 (n : Nat) (K : Int64 → Mem → Prop) (J : Mem → Nat → Int64 → Int32 → Prop) : Nat → Mem → Nat → Int64 → Int32 → Int32 → Prop
  | 0, _, _, _, _, _ => False
  | fuel + 1, M, o0, b1, a3, a4 => (((9 : Int32) ≤ a4 → (∀ x7, x7 = a3 + (1 : Int32) → J M o0 b1 x7)) ∧ (¬ (9 : Int32) ≤ a4 → ((o0 ≤ n ∧ kd o0 = (5, 0)) ∧ w_X5_part n M o0 a3 a4 (fun x10 M9 => (∀ y11, y11 = ((31 : Int64) * b1) + (Int32.toInt64 x10) → (∀ x12, x12 = a4 + (1 : Int32) → w_L_digest_L131 n K J fuel M9 o0 y11 a3 x12))))))
def w_L_digest_L119 (n : Nat) (K : Int64 → Mem → Prop) : Nat → Mem → Nat → Int64 → Int32 → Prop
  | 0, _, _, _, _ => False
  | fuel + 1, M, o0, b1, a3 => ((o0 ≤ n ∧ kd o0 = (5, 0)) ∧ w_X5_count n M o0 (2 : Int32) (fun x6 M5 => ((x6 ≤ a3 → K b1 M5) ∧ (¬ x6 ≤ a3 → w_L_digest_L131 n K (w_L_digest_L119 n K fuel) 4000 M5 o0 b1 a3 (0 : Int32)))))
def w_L_digest_L70 (n : Nat) (K : Int64 → Mem → Prop) (J : Mem → Nat → Int64 → Int32 → Prop) : Nat → Mem → Nat → Int64 → Int32 → Int32 → Prop
  | 0, _, _, _, _, _ => False
  | fuel + 1, M, o0, b1, a3, a4 => (((9 : Int32) ≤ a4 → ((o0 ≤ n ∧ kd o0 = (5, 0)) ∧ w_X5_display n M o0 a3 (fun x15 M14 => (∀ y16, y16 = ((31 : Int64) * b1) + (Int32.toInt64 x15) → (∀ x17, x17 = a3 + (1 : Int32) → J M14 o0 y16 x17))))) ∧ (¬ (9 : Int32) ≤ a4 → ((o0 ≤ n ∧ kd o0 = (5, 0)) ∧ w_X5_head n M o0 a3 a4 (fun x20 M19 => (∀ y21, y21 = ((31 : Int64) * b1) + (Int32.toInt64 x20) → (∀ x22, x22 = a4 + (1 : Int32) → w_L_digest_L70 n K J fuel M19 o0 y21 a3 x22))))))
def w_L_digest_L58 (n : Nat) (K : Int64 → Mem → Prop) : Nat → Mem → Nat → Int64 → Int32 → Prop
  | 0, _, _, _, _ => False
  | fuel + 1, M, o0, b1, a3 => ((o0 ≤ n ∧ kd o0 = (5, 0)) ∧ w_X5_count n M o0 (0 : Int32) (fun x3 M2 => ((x3 ≤ a3 → w_L_digest_L119 n K 4000 M2 o0 b1 (0 : Int32)) ∧ (¬ x3 ≤ a3 → w_L_digest_L70 n K (w_L_digest_L58 n K fuel) 4000 M2 o0 b1 a3 (0 : Int32)))))
def w_L_digest_L33 (n : Nat) (K : Int64 → Mem → Prop) : Nat → Mem → Nat → Int64 → Int32 → Prop
  | 0, _, _, _, _ => False
  | fuel + 1, M, o0, b1, a3 => (((3 : Int32) ≤ a3 → w_L_digest_L58 n K 4000 M o0 b1 (0 : Int32)) ∧ (¬ (3 : Int32) ≤ a3 → ((o0 ≤ n ∧ kd o0 = (5, 0)) ∧ w_X5_pressureBits n M o0 a3 (fun y25 M24 => (∀ y26, y26 = ((31 : Int64) * b1) + y25 → (∀ x27, x27 = a3 + (1 : Int32) → w_L_digest_L33 n K fuel M24 o0 y26 x27))))))
def w_L_digest_L6 (n : Nat) (K : Int64 → Mem → Prop) : Nat → Mem → Nat → Int64 → Int32 → Prop
  | 0, _, _, _, _ => False
  | fuel + 1, M, o0, b1, a3 => (((15 : Int32) ≤ a3 → w_L_digest_L33 n K 4000 M o0 b1 (0 : Int32)) ∧ (¬ (15 : Int32) ≤ a3 → ((o0 ≤ n ∧ kd o0 = (5, 0)) ∧ w_X5_count n M o0 a3 (fun x30 M29 => (∀ y31, y31 = ((31 : Int64) * b1) + (Int32.toInt64 x30) → (∀ x32, x32 = a3 + (1 : Int32) → w_L_digest_L6 n K fuel M29 o0 y31 x32))))))
def w_L_digest (n : Nat) (M : Mem) (p1 : Nat) (K : Int64 → Mem → Prop) : Prop := w_L_digest_L6 n K 4000 M p1 (71 : Int64) (0 : Int32)
set_option maxHeartbeats 4000000 in
set_option maxRecDepth 20000 in
theorem c_L_digest (l : Launch) (E : Gl) (n : Nat) (M : Mem) (p1 : Nat) (K : Int64 → Mem → Prop) (hw : w_L_digest n M p1 K) : CT E l yL_digest cL_digest 5 (some .long) rmL_digest n M [rV p1] (PL E n K) := by
  refine g_met l (by decide) (Nat.le_of_ble_eq_true rfl) ?_
  intro p e s m args below meth c X hr hlk hnm hSz hOld
  change CX E p s m c _ _ RL at X
  have L119 : ∀ (fuel119 : Nat) (M : Mem) (o0 : Nat) (b1 : Int64) (a3 : Int32), w_L_digest_L119 n K fuel119 M o0 b1 a3 → G E p l e rmL_digest s m args below meth c 5 n M 0 0 (MQD lw_cs below (PL E n K) args s rmL_digest.cells rmL_digest.slots (Ab E)) 119 [(0, rV o0), (1, lV b1), (3, iV a3)] [] := by
    intro fuel119
    induction fuel119 with
    | zero => intro M o0 b1 a3 hw; exact False.elim hw
    | succ fuel119 ih119 =>
      have L131 : ∀ (fuel131 : Nat) (M : Mem) (o0 : Nat) (b1 : Int64) (a3 : Int32) (a4 : Int32), w_L_digest_L131 n K (w_L_digest_L119 n K fuel119) fuel131 M o0 b1 a3 a4 → G E p l e rmL_digest s m args below meth c 5 n M 0 0 (MQD lw_cs below (PL E n K) args s rmL_digest.cells rmL_digest.slots (Ab E)) 131 [(0, rV o0), (1, lV b1), (3, iV a3), (4, iV a4)] [] := by
        intro fuel131
        induction fuel131 with
        | zero => intro M o0 b1 a3 a4 hw; exact False.elim hw
        | succ fuel131 ih131 =>
          intro M o0 b1 a3 a4 hw
          unfold w_L_digest_L131 at hw
          refine g_iload X dL_digest_131 3 rfl ?_
          refine g_bipush X (9 : Int32) dL_digest_133 (by decide) ?_
          refine g_icmp_ge X 159 dL_digest_135 (by decide) hw (fun hw => ?_) (fun hw => ?_)
          · obtain ⟨x7, hx7⟩ : ∃ y : Int32, y = a3 + (1 : Int32) := ⟨_, rfl⟩
            have hw := hw x7 hx7
            refine g_iinc (lv' := [(3, iV x7), (0, rV o0), (1, lV b1), (4, iV a4)]) X x7 dL_digest_159 2 rfl (by rw [hx7]; rfl) (by decide) rfl ?_
            refine g_goto X 119 dL_digest_162 (by decide) ?_
            refine g_lvsub (lv' := [(0, rV o0), (1, lV b1), (3, iV x7)]) [1, 2, 0] rfl ?_
            exact ih119 _ _ _ _ hw
          · refine g_ldcL X (31 : Int64) dL_digest_138 wk_L_11 ?_
            refine g_lload_n X dL_digest_141 1 rfl ?_
            refine g_lmul X dL_digest_142 ?_
            refine g_aload_n X dL_digest_143 0 rfl ?_
            refine g_iload_n X dL_digest_144 2 rfl ?_
            refine g_iload X dL_digest_145 3 rfl ?_
            obtain ⟨hk8, hw⟩ := hw
            refine g_calli (pc' := 150) (rest := [lV ((31 : Int64) * b1)]) rfl (fun H locs ls d qR qL => g_runV X cw_L_30 iv_X5_part ⟨Nat.le_of_ble_eq_true rfl, Nat.le_of_ble_eq_true rfl⟩ dL_digest_147 (c_X5_part l E n M o0 a3 a4 _ hw) hk8 rfl rfl (Nat.le_of_ble_eq_true rfl) ⟨Nat.le_of_ble_eq_true rfl, Nat.le_of_ble_eq_true rfl⟩ qR qL) (fun x10 M9 hw => ?_)
            refine g_i2l X dL_digest_150 ?_
            refine g_ladd X dL_digest_151 ?_
            refine g_topJ (fun y11 hy11 => ?_)
            have hw := hw y11 hy11
            refine g_lstore_n (lv' := [(1, lV y11), (0, rV o0), (3, iV a3), (4, iV a4)]) X dL_digest_152 (by decide) rfl ?_
            obtain ⟨x12, hx12⟩ : ∃ y : Int32, y = a4 + (1 : Int32) := ⟨_, rfl⟩
            have hw := hw x12 hx12
            refine g_iinc (lv' := [(4, iV x12), (1, lV y11), (0, rV o0), (3, iV a3)]) X x12 dL_digest_153 3 rfl (by rw [hx12]; rfl) (by decide) rfl ?_
            refine g_goto X 131 dL_digest_156 (by decide) ?_
            refine g_lvsub (lv' := [(0, rV o0), (1, lV y11), (3, iV a3), (4, iV x12)]) [2, 1, 3, 0] rfl ?_
            exact ih131 _ _ _ _ _ hw
      intro M o0 b1 a3 hw
      unfold w_L_digest_L119 at hw
      refine g_iload_n X dL_digest_119 2 rfl ?_
      refine g_aload_n X dL_digest_120 0 rfl ?_
      refine g_iconst X (2 : Int32) dL_digest_121 (by decide) ?_
      obtain ⟨hk4, hw⟩ := hw
      refine g_calli (pc' := 125) (rest := [iV a3]) rfl (fun H locs ls d qR qL => g_runV X cw_L_13 iv_X5_count ⟨Nat.le_of_ble_eq_true rfl, Nat.le_of_ble_eq_true rfl⟩ dL_digest_122 (c_X5_count l E n M o0 (2 : Int32) _ hw) hk4 rfl rfl (Nat.le_of_ble_eq_true rfl) ⟨Nat.le_of_ble_eq_true rfl, Nat.le_of_ble_eq_true rfl⟩ qR qL) (fun x6 M5 hw => ?_)
      refine g_icmp_ge X 165 dL_digest_125 (by decide) hw (fun hw => ?_) (fun hw => ?_)
      · refine g_lload_n X dL_digest_165 1 rfl ?_
        exact g_lret X hr hlk hSz hOld (Nat.le_refl _) dL_digest_166 hw
      · refine g_iconst X (0 : Int32) dL_digest_128 (by decide) ?_
        refine g_istore (lv' := [(4, iV (0 : Int32)), (0, rV o0), (1, lV b1), (3, iV a3)]) X dL_digest_129 (by decide) rfl ?_
        refine g_lvsub (lv' := [(0, rV o0), (1, lV b1), (3, iV a3), (4, iV (0 : Int32))]) [1, 2, 3, 0] rfl ?_
        exact L131 _ _ _ _ _ _ hw
  have L58 : ∀ (fuel58 : Nat) (M : Mem) (o0 : Nat) (b1 : Int64) (a3 : Int32), w_L_digest_L58 n K fuel58 M o0 b1 a3 → G E p l e rmL_digest s m args below meth c 5 n M 0 0 (MQD lw_cs below (PL E n K) args s rmL_digest.cells rmL_digest.slots (Ab E)) 58 [(0, rV o0), (1, lV b1), (3, iV a3)] [] := by
    intro fuel58
    induction fuel58 with
    | zero => intro M o0 b1 a3 hw; exact False.elim hw
    | succ fuel58 ih58 =>
      have L70 : ∀ (fuel70 : Nat) (M : Mem) (o0 : Nat) (b1 : Int64) (a3 : Int32) (a4 : Int32), w_L_digest_L70 n K (w_L_digest_L58 n K fuel58) fuel70 M o0 b1 a3 a4 → G E p l e rmL_digest s m args below meth c 5 n M 0 0 (MQD lw_cs below (PL E n K) args s rmL_digest.cells rmL_digest.slots (Ab E)) 70 [(0, rV o0), (1, lV b1), (3, iV a3), (4, iV a4)] [] := by
        intro fuel70
        induction fuel70 with
        | zero => intro M o0 b1 a3 a4 hw; exact False.elim hw
        | succ fuel70 ih70 =>
          intro M o0 b1 a3 a4 hw
          unfold w_L_digest_L70 at hw
          refine g_iload X dL_digest_70 3 rfl ?_
          refine g_bipush X (9 : Int32) dL_digest_72 (by decide) ?_
          refine g_icmp_ge X 98 dL_digest_74 (by decide) hw (fun hw => ?_) (fun hw => ?_)
          · refine g_ldcL X (31 : Int64) dL_digest_98 wk_L_11 ?_
            refine g_lload_n X dL_digest_101 1 rfl ?_
            refine g_lmul X dL_digest_102 ?_
            refine g_aload_n X dL_digest_103 0 rfl ?_
            refine g_iload_n X dL_digest_104 2 rfl ?_
            obtain ⟨hk13, hw⟩ := hw
            refine g_calli (pc' := 108) (rest := [lV ((31 : Int64) * b1)]) rfl (fun H locs ls d qR qL => g_runV X cw_L_27 iv_X5_display ⟨Nat.le_of_ble_eq_true rfl, Nat.le_of_ble_eq_true rfl⟩ dL_digest_105 (c_X5_display l E n M o0 a3 _ hw) hk13 rfl rfl (Nat.le_of_ble_eq_true rfl) ⟨Nat.le_of_ble_eq_true rfl, Nat.le_of_ble_eq_true rfl⟩ qR qL) (fun x15 M14 hw => ?_)
            refine g_i2l X dL_digest_108 ?_
            refine g_ladd X dL_digest_109 ?_
            refine g_topJ (fun y16 hy16 => ?_)
            have hw := hw y16 hy16
            refine g_lstore_n (lv' := [(1, lV y16), (0, rV o0), (3, iV a3), (4, iV a4)]) X dL_digest_110 (by decide) rfl ?_
            obtain ⟨x17, hx17⟩ : ∃ y : Int32, y = a3 + (1 : Int32) := ⟨_, rfl⟩
            have hw := hw x17 hx17
            refine g_iinc (lv' := [(3, iV x17), (1, lV y16), (0, rV o0), (4, iV a4)]) X x17 dL_digest_111 2 rfl (by rw [hx17]; rfl) (by decide) rfl ?_
            refine g_goto X 58 dL_digest_114 (by decide) ?_
            refine g_lvsub (lv' := [(0, rV o0), (1, lV y16), (3, iV x17)]) [2, 1, 0] rfl ?_
            exact ih58 _ _ _ _ hw
          · refine g_ldcL X (31 : Int64) dL_digest_77 wk_L_11 ?_
            refine g_lload_n X dL_digest_80 1 rfl ?_
            refine g_lmul X dL_digest_81 ?_
            refine g_aload_n X dL_digest_82 0 rfl ?_
            refine g_iload_n X dL_digest_83 2 rfl ?_
            refine g_iload X dL_digest_84 3 rfl ?_
            obtain ⟨hk18, hw⟩ := hw
            refine g_calli (pc' := 89) (rest := [lV ((31 : Int64) * b1)]) rfl (fun H locs ls d qR qL => g_runV X cw_L_23 iv_X5_head ⟨Nat.le_of_ble_eq_true rfl, Nat.le_of_ble_eq_true rfl⟩ dL_digest_86 (c_X5_head l E n M o0 a3 a4 _ hw) hk18 rfl rfl (Nat.le_of_ble_eq_true rfl) ⟨Nat.le_of_ble_eq_true rfl, Nat.le_of_ble_eq_true rfl⟩ qR qL) (fun x20 M19 hw => ?_)
            refine g_i2l X dL_digest_89 ?_
            refine g_ladd X dL_digest_90 ?_
            refine g_topJ (fun y21 hy21 => ?_)
            have hw := hw y21 hy21
            refine g_lstore_n (lv' := [(1, lV y21), (0, rV o0), (3, iV a3), (4, iV a4)]) X dL_digest_91 (by decide) rfl ?_
            obtain ⟨x22, hx22⟩ : ∃ y : Int32, y = a4 + (1 : Int32) := ⟨_, rfl⟩
            have hw := hw x22 hx22
            refine g_iinc (lv' := [(4, iV x22), (1, lV y21), (0, rV o0), (3, iV a3)]) X x22 dL_digest_92 3 rfl (by rw [hx22]; rfl) (by decide) rfl ?_
            refine g_goto X 70 dL_digest_95 (by decide) ?_
            refine g_lvsub (lv' := [(0, rV o0), (1, lV y21), (3, iV a3), (4, iV x22)]) [2, 1, 3, 0] rfl ?_
            exact ih70 _ _ _ _ _ hw
      intro M o0 b1 a3 hw
      unfold w_L_digest_L58 at hw
      refine g_iload_n X dL_digest_58 2 rfl ?_
      refine g_aload_n X dL_digest_59 0 rfl ?_
      refine g_iconst X (0 : Int32) dL_digest_60 (by decide) ?_
      obtain ⟨hk1, hw⟩ := hw
      refine g_calli (pc' := 64) (rest := [iV a3]) rfl (fun H locs ls d qR qL => g_runV X cw_L_13 iv_X5_count ⟨Nat.le_of_ble_eq_true rfl, Nat.le_of_ble_eq_true rfl⟩ dL_digest_61 (c_X5_count l E n M o0 (0 : Int32) _ hw) hk1 rfl rfl (Nat.le_of_ble_eq_true rfl) ⟨Nat.le_of_ble_eq_true rfl, Nat.le_of_ble_eq_true rfl⟩ qR qL) (fun x3 M2 hw => ?_)
      refine g_icmp_ge X 117 dL_digest_64 (by decide) hw (fun hw => ?_) (fun hw => ?_)
      · refine g_iconst X (0 : Int32) dL_digest_117 (by decide) ?_
        refine g_istore_n (lv' := [(3, iV (0 : Int32)), (0, rV o0), (1, lV b1)]) X dL_digest_118 (by decide) rfl ?_
        refine g_lvsub (lv' := [(0, rV o0), (1, lV b1), (3, iV (0 : Int32))]) [1, 2, 0] rfl ?_
        exact L119 _ _ _ _ _ hw
      · refine g_iconst X (0 : Int32) dL_digest_67 (by decide) ?_
        refine g_istore (lv' := [(4, iV (0 : Int32)), (0, rV o0), (1, lV b1), (3, iV a3)]) X dL_digest_68 (by decide) rfl ?_
        refine g_lvsub (lv' := [(0, rV o0), (1, lV b1), (3, iV a3), (4, iV (0 : Int32))]) [1, 2, 3, 0] rfl ?_
        exact L70 _ _ _ _ _ _ hw
  have L33 : ∀ (fuel33 : Nat) (M : Mem) (o0 : Nat) (b1 : Int64) (a3 : Int32), w_L_digest_L33 n K fuel33 M o0 b1 a3 → G E p l e rmL_digest s m args below meth c 5 n M 0 0 (MQD lw_cs below (PL E n K) args s rmL_digest.cells rmL_digest.slots (Ab E)) 33 [(0, rV o0), (1, lV b1), (3, iV a3)] [] := by
    intro fuel33
    induction fuel33 with
    | zero => intro M o0 b1 a3 hw; exact False.elim hw
    | succ fuel33 ih33 =>
      intro M o0 b1 a3 hw
      unfold w_L_digest_L33 at hw
      refine g_iload_n X dL_digest_33 2 rfl ?_
      refine g_iconst X (3 : Int32) dL_digest_34 (by decide) ?_
      refine g_icmp_ge X 56 dL_digest_35 (by decide) hw (fun hw => ?_) (fun hw => ?_)
      · refine g_iconst X (0 : Int32) dL_digest_56 (by decide) ?_
        refine g_istore_n (lv' := [(3, iV (0 : Int32)), (0, rV o0), (1, lV b1)]) X dL_digest_57 (by decide) rfl ?_
        refine g_lvsub (lv' := [(0, rV o0), (1, lV b1), (3, iV (0 : Int32))]) [1, 2, 0] rfl ?_
        exact L58 _ _ _ _ _ hw
      · refine g_ldcL X (31 : Int64) dL_digest_38 wk_L_11 ?_
        refine g_lload_n X dL_digest_41 1 rfl ?_
        refine g_lmul X dL_digest_42 ?_
        refine g_aload_n X dL_digest_43 0 rfl ?_
        refine g_iload_n X dL_digest_44 2 rfl ?_
        obtain ⟨hk23, hw⟩ := hw
        refine g_calll (pc' := 48) (rest := [lV ((31 : Int64) * b1)]) rfl (fun H locs ls d qR qL => g_runV X cw_L_19 iv_X5_pressureBits ⟨Nat.le_of_ble_eq_true rfl, Nat.le_of_ble_eq_true rfl⟩ dL_digest_45 (c_X5_pressureBits l E n M o0 a3 _ hw) hk23 rfl rfl (Nat.le_of_ble_eq_true rfl) ⟨Nat.le_of_ble_eq_true rfl, Nat.le_of_ble_eq_true rfl⟩ qR qL) (fun y25 M24 hw => ?_)
        refine g_ladd X dL_digest_48 ?_
        refine g_topJ (fun y26 hy26 => ?_)
        have hw := hw y26 hy26
        refine g_lstore_n (lv' := [(1, lV y26), (0, rV o0), (3, iV a3)]) X dL_digest_49 (by decide) rfl ?_
        obtain ⟨x27, hx27⟩ : ∃ y : Int32, y = a3 + (1 : Int32) := ⟨_, rfl⟩
        have hw := hw x27 hx27
        refine g_iinc (lv' := [(3, iV x27), (1, lV y26), (0, rV o0)]) X x27 dL_digest_50 2 rfl (by rw [hx27]; rfl) (by decide) rfl ?_
        refine g_goto X 33 dL_digest_53 (by decide) ?_
        refine g_lvsub (lv' := [(0, rV o0), (1, lV y26), (3, iV x27)]) [2, 1, 0] rfl ?_
        exact ih33 _ _ _ _ hw
  have L6 : ∀ (fuel6 : Nat) (M : Mem) (o0 : Nat) (b1 : Int64) (a3 : Int32), w_L_digest_L6 n K fuel6 M o0 b1 a3 → G E p l e rmL_digest s m args below meth c 5 n M 0 0 (MQD lw_cs below (PL E n K) args s rmL_digest.cells rmL_digest.slots (Ab E)) 6 [(0, rV o0), (1, lV b1), (3, iV a3)] [] := by
    intro fuel6
    induction fuel6 with
    | zero => intro M o0 b1 a3 hw; exact False.elim hw
    | succ fuel6 ih6 =>
      intro M o0 b1 a3 hw
      unfold w_L_digest_L6 at hw
      refine g_iload_n X dL_digest_6 2 rfl ?_
      refine g_bipush X (15 : Int32) dL_digest_7 (by decide) ?_
      refine g_icmp_ge X 31 dL_digest_9 (by decide) hw (fun hw => ?_) (fun hw => ?_)
      · refine g_iconst X (0 : Int32) dL_digest_31 (by decide) ?_
        refine g_istore_n (lv' := [(3, iV (0 : Int32)), (0, rV o0), (1, lV b1)]) X dL_digest_32 (by decide) rfl ?_
        refine g_lvsub (lv' := [(0, rV o0), (1, lV b1), (3, iV (0 : Int32))]) [1, 2, 0] rfl ?_
        exact L33 _ _ _ _ _ hw
      · refine g_ldcL X (31 : Int64) dL_digest_12 wk_L_11 ?_
        refine g_lload_n X dL_digest_15 1 rfl ?_
        refine g_lmul X dL_digest_16 ?_
        refine g_aload_n X dL_digest_17 0 rfl ?_
        refine g_iload_n X dL_digest_18 2 rfl ?_
        obtain ⟨hk28, hw⟩ := hw
        refine g_calli (pc' := 22) (rest := [lV ((31 : Int64) * b1)]) rfl (fun H locs ls d qR qL => g_runV X cw_L_13 iv_X5_count ⟨Nat.le_of_ble_eq_true rfl, Nat.le_of_ble_eq_true rfl⟩ dL_digest_19 (c_X5_count l E n M o0 a3 _ hw) hk28 rfl rfl (Nat.le_of_ble_eq_true rfl) ⟨Nat.le_of_ble_eq_true rfl, Nat.le_of_ble_eq_true rfl⟩ qR qL) (fun x30 M29 hw => ?_)
        refine g_i2l X dL_digest_22 ?_
        refine g_ladd X dL_digest_23 ?_
        refine g_topJ (fun y31 hy31 => ?_)
        have hw := hw y31 hy31
        refine g_lstore_n (lv' := [(1, lV y31), (0, rV o0), (3, iV a3)]) X dL_digest_24 (by decide) rfl ?_
        obtain ⟨x32, hx32⟩ : ∃ y : Int32, y = a3 + (1 : Int32) := ⟨_, rfl⟩
        have hw := hw x32 hx32
        refine g_iinc (lv' := [(3, iV x32), (1, lV y31), (0, rV o0)]) X x32 dL_digest_25 2 rfl (by rw [hx32]; rfl) (by decide) rfl ?_
        refine g_goto X 6 dL_digest_28 (by decide) ?_
        refine g_lvsub (lv' := [(0, rV o0), (1, lV y31), (3, iV x32)]) [2, 1, 0] rfl ?_
        exact ih6 _ _ _ _ hw
  unfold w_L_digest at hw
  refine g_ldcL X (71 : Int64) dL_digest_0 wk_L_9 ?_
  refine g_lstore_n (lv' := [(1, lV (71 : Int64)), (0, rV p1)]) X dL_digest_3 (by decide) rfl ?_
  refine g_iconst X (0 : Int32) dL_digest_4 (by decide) ?_
  refine g_istore_n (lv' := [(3, iV (0 : Int32)), (1, lV (71 : Int64)), (0, rV p1)]) X dL_digest_5 (by decide) rfl ?_
  refine g_lvsub (lv' := [(0, rV p1), (1, lV (71 : Int64)), (3, iV (0 : Int32))]) [2, 1, 0] rfl ?_
  exact L6 _ _ _ _ _ hw
theorem dL_parts_0 : decode cL_parts 0 = .ok (.iconst 4, 1) := by decide +kernel
theorem dL_parts_1 : decode cL_parts 1 = .ok (.newarray .int, 2) := by decide +kernel
theorem dL_parts_3 : decode cL_parts 3 = .ok (.astore_n 1, 1) := by decide +kernel
theorem dL_parts_4 : decode cL_parts 4 = .ok (.bipush 6, 2) := by decide +kernel
theorem dL_parts_6 : decode cL_parts 6 = .ok (.newarray .int, 2) := by decide +kernel
theorem dL_parts_8 : decode cL_parts 8 = .ok (.astore_n 2, 1) := by decide +kernel
theorem dL_parts_9 : decode cL_parts 9 = .ok (.lconst 0, 1) := by decide +kernel
theorem dL_parts_10 : decode cL_parts 10 = .ok (.lstore_n 3, 1) := by decide +kernel
theorem dL_parts_11 : decode cL_parts 11 = .ok (.iconst 0, 1) := by decide +kernel
theorem dL_parts_12 : decode cL_parts 12 = .ok (.istore 5, 2) := by decide +kernel
theorem dL_parts_14 : decode cL_parts 14 = .ok (.aload_n 0, 1) := by decide +kernel
theorem dL_parts_15 : decode cL_parts 15 = .ok (.iconst 2, 1) := by decide +kernel
theorem dL_parts_16 : decode cL_parts 16 = .ok (.invokevirtual 13, 3) := by decide +kernel
theorem dL_parts_19 : decode cL_parts 19 = .ok (.istore 6, 2) := by decide +kernel
theorem dL_parts_21 : decode cL_parts 21 = .ok (.iconst 0, 1) := by decide +kernel
theorem dL_parts_22 : decode cL_parts 22 = .ok (.istore 7, 2) := by decide +kernel
theorem dL_parts_24 : decode cL_parts 24 = .ok (.iload 7, 2) := by decide +kernel
theorem dL_parts_26 : decode cL_parts 26 = .ok (.iload 6, 2) := by decide +kernel
theorem dL_parts_28 : decode cL_parts 28 = .ok (.if_icmp .ge 270, 3) := by decide +kernel
theorem dL_parts_31 : decode cL_parts 31 = .ok (.aload_n 0, 1) := by decide +kernel
theorem dL_parts_32 : decode cL_parts 32 = .ok (.iload 7, 2) := by decide +kernel
theorem dL_parts_34 : decode cL_parts 34 = .ok (.iconst 3, 1) := by decide +kernel
theorem dL_parts_35 : decode cL_parts 35 = .ok (.invokevirtual 30, 3) := by decide +kernel
theorem dL_parts_38 : decode cL_parts 38 = .ok (.istore 8, 2) := by decide +kernel
theorem dL_parts_40 : decode cL_parts 40 = .ok (.aload_n 0, 1) := by decide +kernel
theorem dL_parts_41 : decode cL_parts 41 = .ok (.iload 7, 2) := by decide +kernel
theorem dL_parts_43 : decode cL_parts 43 = .ok (.bipush 8, 2) := by decide +kernel
theorem dL_parts_45 : decode cL_parts 45 = .ok (.invokevirtual 30, 3) := by decide +kernel
theorem dL_parts_48 : decode cL_parts 48 = .ok (.istore 9, 2) := by decide +kernel
theorem dL_parts_50 : decode cL_parts 50 = .ok (.aload_n 0, 1) := by decide +kernel
theorem dL_parts_51 : decode cL_parts 51 = .ok (.iload 7, 2) := by decide +kernel
theorem dL_parts_53 : decode cL_parts 53 = .ok (.bipush 7, 2) := by decide +kernel
theorem dL_parts_55 : decode cL_parts 55 = .ok (.invokevirtual 30, 3) := by decide +kernel
theorem dL_parts_58 : decode cL_parts 58 = .ok (.istore 10, 2) := by decide +kernel
theorem dL_parts_60 : decode cL_parts 60 = .ok (.aload_n 0, 1) := by decide +kernel
theorem dL_parts_61 : decode cL_parts 61 = .ok (.iload 7, 2) := by decide +kernel
theorem dL_parts_63 : decode cL_parts 63 = .ok (.invokevirtual 33, 3) := by decide +kernel
theorem dL_parts_66 : decode cL_parts 66 = .ok (.dstore 11, 2) := by decide +kernel
theorem dL_parts_68 : decode cL_parts 68 = .ok (.aload_n 1, 1) := by decide +kernel
theorem dL_parts_69 : decode cL_parts 69 = .ok (.iload 8, 2) := by decide +kernel
theorem dL_parts_71 : decode cL_parts 71 = .ok (.dup2, 1) := by decide +kernel
theorem dL_parts_72 : decode cL_parts 72 = .ok (.iaload, 1) := by decide +kernel
theorem dL_parts_73 : decode cL_parts 73 = .ok (.iconst 1, 1) := by decide +kernel
theorem dL_parts_74 : decode cL_parts 74 = .ok (.iadd, 1) := by decide +kernel
theorem dL_parts_75 : decode cL_parts 75 = .ok (.iastore, 1) := by decide +kernel
theorem dL_parts_76 : decode cL_parts 76 = .ok (.iload 5, 2) := by decide +kernel
theorem dL_parts_78 : decode cL_parts 78 = .ok (.aload_n 0, 1) := by decide +kernel
theorem dL_parts_79 : decode cL_parts 79 = .ok (.iload 7, 2) := by decide +kernel
theorem dL_parts_81 : decode cL_parts 81 = .ok (.iconst 4, 1) := by decide +kernel
theorem dL_parts_82 : decode cL_parts 82 = .ok (.invokevirtual 30, 3) := by decide +kernel
theorem dL_parts_85 : decode cL_parts 85 = .ok (.iadd, 1) := by decide +kernel
theorem dL_parts_86 : decode cL_parts 86 = .ok (.istore 5, 2) := by decide +kernel
theorem dL_parts_88 : decode cL_parts 88 = .ok (.iload 9, 2) := by decide +kernel
theorem dL_parts_90 : decode cL_parts 90 = .ok (.ifCond .lt 7, 3) := by decide +kernel
theorem dL_parts_93 : decode cL_parts 93 = .ok (.iconst 1, 1) := by decide +kernel
theorem dL_parts_94 : decode cL_parts 94 = .ok (.goto 4, 3) := by decide +kernel
theorem dL_parts_97 : decode cL_parts 97 = .ok (.iconst 0, 1) := by decide +kernel
theorem dL_parts_98 : decode cL_parts 98 = .ok (.iload 8, 2) := by decide +kernel
theorem dL_parts_100 : decode cL_parts 100 = .ok (.ifCond .ne 7, 3) := by decide +kernel
theorem dL_parts_103 : decode cL_parts 103 = .ok (.iconst 1, 1) := by decide +kernel
theorem dL_parts_104 : decode cL_parts 104 = .ok (.goto 4, 3) := by decide +kernel
theorem dL_parts_107 : decode cL_parts 107 = .ok (.iconst 0, 1) := by decide +kernel
theorem dL_parts_108 : decode cL_parts 108 = .ok (.if_icmp .ne 89, 3) := by decide +kernel
theorem dL_parts_111 : decode cL_parts 111 = .ok (.iload 10, 2) := by decide +kernel
theorem dL_parts_113 : decode cL_parts 113 = .ok (.ifCond .le 7, 3) := by decide +kernel
theorem dL_parts_116 : decode cL_parts 116 = .ok (.iconst 1, 1) := by decide +kernel
theorem dL_parts_117 : decode cL_parts 117 = .ok (.goto 4, 3) := by decide +kernel
theorem dL_parts_120 : decode cL_parts 120 = .ok (.iconst 0, 1) := by decide +kernel
theorem dL_parts_121 : decode cL_parts 121 = .ok (.iload 8, 2) := by decide +kernel
theorem dL_parts_123 : decode cL_parts 123 = .ok (.iconst 3, 1) := by decide +kernel
theorem dL_parts_124 : decode cL_parts 124 = .ok (.if_icmp .ne 7, 3) := by decide +kernel
theorem dL_parts_127 : decode cL_parts 127 = .ok (.iconst 1, 1) := by decide +kernel
theorem dL_parts_128 : decode cL_parts 128 = .ok (.goto 4, 3) := by decide +kernel
theorem dL_parts_131 : decode cL_parts 131 = .ok (.iconst 0, 1) := by decide +kernel
theorem dL_parts_132 : decode cL_parts 132 = .ok (.if_icmp .ne 65, 3) := by decide +kernel
theorem dL_parts_135 : decode cL_parts 135 = .ok (.aload_n 0, 1) := by decide +kernel
theorem dL_parts_136 : decode cL_parts 136 = .ok (.iload 7, 2) := by decide +kernel
theorem dL_parts_138 : decode cL_parts 138 = .ok (.bipush 6, 2) := by decide +kernel
theorem dL_parts_140 : decode cL_parts 140 = .ok (.invokevirtual 30, 3) := by decide +kernel
theorem dL_parts_143 : decode cL_parts 143 = .ok (.ifCond .lt 7, 3) := by decide +kernel
theorem dL_parts_146 : decode cL_parts 146 = .ok (.iconst 1, 1) := by decide +kernel
theorem dL_parts_147 : decode cL_parts 147 = .ok (.goto 4, 3) := by decide +kernel
theorem dL_parts_150 : decode cL_parts 150 = .ok (.iconst 0, 1) := by decide +kernel
theorem dL_parts_151 : decode cL_parts 151 = .ok (.aload_n 0, 1) := by decide +kernel
theorem dL_parts_152 : decode cL_parts 152 = .ok (.iload 7, 2) := by decide +kernel
theorem dL_parts_154 : decode cL_parts 154 = .ok (.iconst 4, 1) := by decide +kernel
theorem dL_parts_155 : decode cL_parts 155 = .ok (.invokevirtual 30, 3) := by decide +kernel
theorem dL_parts_158 : decode cL_parts 158 = .ok (.ifCond .le 7, 3) := by decide +kernel
theorem dL_parts_161 : decode cL_parts 161 = .ok (.iconst 1, 1) := by decide +kernel
theorem dL_parts_162 : decode cL_parts 162 = .ok (.goto 4, 3) := by decide +kernel
theorem dL_parts_165 : decode cL_parts 165 = .ok (.iconst 0, 1) := by decide +kernel
theorem dL_parts_166 : decode cL_parts 166 = .ok (.if_icmp .ne 31, 3) := by decide +kernel
theorem dL_parts_169 : decode cL_parts 169 = .ok (.aload_n 0, 1) := by decide +kernel
theorem dL_parts_170 : decode cL_parts 170 = .ok (.iload 7, 2) := by decide +kernel
theorem dL_parts_172 : decode cL_parts 172 = .ok (.iconst 5, 1) := by decide +kernel
theorem dL_parts_173 : decode cL_parts 173 = .ok (.invokevirtual 30, 3) := by decide +kernel
theorem dL_parts_176 : decode cL_parts 176 = .ok (.iconst 2, 1) := by decide +kernel
theorem dL_parts_177 : decode cL_parts 177 = .ok (.if_icmp .gt 20, 3) := by decide +kernel
theorem dL_parts_180 : decode cL_parts 180 = .ok (.aload_n 0, 1) := by decide +kernel
theorem dL_parts_181 : decode cL_parts 181 = .ok (.iload 7, 2) := by decide +kernel
theorem dL_parts_183 : decode cL_parts 183 = .ok (.iconst 5, 1) := by decide +kernel
theorem dL_parts_184 : decode cL_parts 184 = .ok (.invokevirtual 30, 3) := by decide +kernel
theorem dL_parts_187 : decode cL_parts 187 = .ok (.aload_n 0, 1) := by decide +kernel
theorem dL_parts_188 : decode cL_parts 188 = .ok (.iload 7, 2) := by decide +kernel
theorem dL_parts_190 : decode cL_parts 190 = .ok (.iconst 4, 1) := by decide +kernel
theorem dL_parts_191 : decode cL_parts 191 = .ok (.invokevirtual 30, 3) := by decide +kernel
theorem dL_parts_194 : decode cL_parts 194 = .ok (.if_icmp .le 5, 3) := by decide +kernel
theorem dL_parts_197 : decode cL_parts 197 = .ok (.iconst 0, 1) := by decide +kernel
theorem dL_parts_198 : decode cL_parts 198 = .ok (.ireturn, 1) := by decide +kernel
theorem dL_parts_199 : decode cL_parts 199 = .ok (.dload 11, 2) := by decide +kernel
theorem dL_parts_201 : decode cL_parts 201 = .ok (.dload 11, 2) := by decide +kernel
theorem dL_parts_203 : decode cL_parts 203 = .ok (.dcmp .l, 1) := by decide +kernel
theorem dL_parts_204 : decode cL_parts 204 = .ok (.ifCond .eq 7, 3) := by decide +kernel
theorem dL_parts_207 : decode cL_parts 207 = .ok (.iconst 1, 1) := by decide +kernel
theorem dL_parts_208 : decode cL_parts 208 = .ok (.goto 4, 3) := by decide +kernel
theorem dL_parts_211 : decode cL_parts 211 = .ok (.iconst 0, 1) := by decide +kernel
theorem dL_parts_212 : decode cL_parts 212 = .ok (.aload_n 0, 1) := by decide +kernel
theorem dL_parts_213 : decode cL_parts 213 = .ok (.iload 7, 2) := by decide +kernel
theorem dL_parts_215 : decode cL_parts 215 = .ok (.iconst 4, 1) := by decide +kernel
theorem dL_parts_216 : decode cL_parts 216 = .ok (.invokevirtual 30, 3) := by decide +kernel
theorem dL_parts_219 : decode cL_parts 219 = .ok (.ifCond .ne 7, 3) := by decide +kernel
theorem dL_parts_222 : decode cL_parts 222 = .ok (.iconst 1, 1) := by decide +kernel
theorem dL_parts_223 : decode cL_parts 223 = .ok (.goto 4, 3) := by decide +kernel
theorem dL_parts_226 : decode cL_parts 226 = .ok (.iconst 0, 1) := by decide +kernel
theorem dL_parts_227 : decode cL_parts 227 = .ok (.if_icmp .ne 30, 3) := by decide +kernel
theorem dL_parts_230 : decode cL_parts 230 = .ok (.aload_n 0, 1) := by decide +kernel
theorem dL_parts_231 : decode cL_parts 231 = .ok (.iload 7, 2) := by decide +kernel
theorem dL_parts_233 : decode cL_parts 233 = .ok (.iconst 1, 1) := by decide +kernel
theorem dL_parts_234 : decode cL_parts 234 = .ok (.invokevirtual 30, 3) := by decide +kernel
theorem dL_parts_237 : decode cL_parts 237 = .ok (.ifCond .ne 22, 3) := by decide +kernel
theorem dL_parts_240 : decode cL_parts 240 = .ok (.aload_n 0, 1) := by decide +kernel
theorem dL_parts_241 : decode cL_parts 241 = .ok (.iload 7, 2) := by decide +kernel
theorem dL_parts_243 : decode cL_parts 243 = .ok (.iconst 4, 1) := by decide +kernel
theorem dL_parts_244 : decode cL_parts 244 = .ok (.invokevirtual 30, 3) := by decide +kernel
theorem dL_parts_247 : decode cL_parts 247 = .ok (.ifCond .le 12, 3) := by decide +kernel
theorem dL_parts_250 : decode cL_parts 250 = .ok (.dload 11, 2) := by decide +kernel
theorem dL_parts_252 : decode cL_parts 252 = .ok (.dconst 0, 1) := by decide +kernel
theorem dL_parts_253 : decode cL_parts 253 = .ok (.dcmp .l, 1) := by decide +kernel
theorem dL_parts_254 : decode cL_parts 254 = .ok (.ifCond .eq 5, 3) := by decide +kernel
theorem dL_parts_257 : decode cL_parts 257 = .ok (.iconst 0, 1) := by decide +kernel
theorem dL_parts_258 : decode cL_parts 258 = .ok (.ireturn, 1) := by decide +kernel
theorem dL_parts_259 : decode cL_parts 259 = .ok (.lload_n 3, 1) := by decide +kernel
theorem dL_parts_260 : decode cL_parts 260 = .ok (.iload 9, 2) := by decide +kernel
theorem dL_parts_262 : decode cL_parts 262 = .ok (.ifCond .lt 10, 3) := by decide +kernel
theorem dL_parts_265 : decode cL_parts 265 = .ok (.lconst 1, 1) := by decide +kernel
theorem dL_parts_266 : decode cL_parts 266 = .ok (.iload 9, 2) := by decide +kernel
theorem dL_parts_268 : decode cL_parts 268 = .ok (.lshl, 1) := by decide +kernel
theorem dL_parts_269 : decode cL_parts 269 = .ok (.goto 4, 3) := by decide +kernel
theorem dL_parts_272 : decode cL_parts 272 = .ok (.lconst 0, 1) := by decide +kernel
theorem dL_parts_273 : decode cL_parts 273 = .ok (.lor, 1) := by decide +kernel
theorem dL_parts_274 : decode cL_parts 274 = .ok (.lstore_n 3, 1) := by decide +kernel
theorem dL_parts_275 : decode cL_parts 275 = .ok (.aload_n 2, 1) := by decide +kernel
theorem dL_parts_276 : decode cL_parts 276 = .ok (.iload 10, 2) := by decide +kernel
theorem dL_parts_278 : decode cL_parts 278 = .ok (.ifCond .le 8, 3) := by decide +kernel
theorem dL_parts_281 : decode cL_parts 281 = .ok (.iload 10, 2) := by decide +kernel
theorem dL_parts_283 : decode cL_parts 283 = .ok (.goto 4, 3) := by decide +kernel
theorem dL_parts_286 : decode cL_parts 286 = .ok (.iconst 0, 1) := by decide +kernel
theorem dL_parts_287 : decode cL_parts 287 = .ok (.dup2, 1) := by decide +kernel
theorem dL_parts_288 : decode cL_parts 288 = .ok (.iaload, 1) := by decide +kernel
theorem dL_parts_289 : decode cL_parts 289 = .ok (.iconst 1, 1) := by decide +kernel
theorem dL_parts_290 : decode cL_parts 290 = .ok (.iadd, 1) := by decide +kernel
theorem dL_parts_291 : decode cL_parts 291 = .ok (.iastore, 1) := by decide +kernel
theorem dL_parts_292 : decode cL_parts 292 = .ok (.iinc 7 1, 3) := by decide +kernel
theorem dL_parts_295 : decode cL_parts 295 = .ok (.goto (-271), 3) := by decide +kernel
theorem dL_parts_298 : decode cL_parts 298 = .ok (.iconst 1, 1) := by decide +kernel
theorem dL_parts_299 : decode cL_parts 299 = .ok (.istore 7, 2) := by decide +kernel
theorem dL_parts_301 : decode cL_parts 301 = .ok (.iload 7, 2) := by decide +kernel
theorem dL_parts_303 : decode cL_parts 303 = .ok (.bipush 6, 2) := by decide +kernel
theorem dL_parts_305 : decode cL_parts 305 = .ok (.if_icmp .ge 27, 3) := by decide +kernel
theorem dL_parts_308 : decode cL_parts 308 = .ok (.aload_n 0, 1) := by decide +kernel
theorem dL_parts_309 : decode cL_parts 309 = .ok (.bipush 9, 2) := by decide +kernel
theorem dL_parts_311 : decode cL_parts 311 = .ok (.iload 7, 2) := by decide +kernel
theorem dL_parts_313 : decode cL_parts 313 = .ok (.iadd, 1) := by decide +kernel
theorem dL_parts_314 : decode cL_parts 314 = .ok (.invokevirtual 13, 3) := by decide +kernel
theorem dL_parts_317 : decode cL_parts 317 = .ok (.aload_n 2, 1) := by decide +kernel
theorem dL_parts_318 : decode cL_parts 318 = .ok (.iload 7, 2) := by decide +kernel
theorem dL_parts_320 : decode cL_parts 320 = .ok (.iaload, 1) := by decide +kernel
theorem dL_parts_321 : decode cL_parts 321 = .ok (.if_icmp .eq 5, 3) := by decide +kernel
theorem dL_parts_324 : decode cL_parts 324 = .ok (.iconst 0, 1) := by decide +kernel
theorem dL_parts_325 : decode cL_parts 325 = .ok (.ireturn, 1) := by decide +kernel
theorem dL_parts_326 : decode cL_parts 326 = .ok (.iinc 7 1, 3) := by decide +kernel
theorem dL_parts_329 : decode cL_parts 329 = .ok (.goto (-28), 3) := by decide +kernel
theorem dL_parts_332 : decode cL_parts 332 = .ok (.iconst 0, 1) := by decide +kernel
theorem dL_parts_333 : decode cL_parts 333 = .ok (.istore 7, 2) := by decide +kernel
theorem dL_parts_335 : decode cL_parts 335 = .ok (.iload 7, 2) := by decide +kernel
theorem dL_parts_337 : decode cL_parts 337 = .ok (.iconst 4, 1) := by decide +kernel
theorem dL_parts_338 : decode cL_parts 338 = .ok (.if_icmp .ge 26, 3) := by decide +kernel
theorem dL_parts_341 : decode cL_parts 341 = .ok (.aload_n 0, 1) := by decide +kernel
theorem dL_parts_342 : decode cL_parts 342 = .ok (.iconst 3, 1) := by decide +kernel
theorem dL_parts_343 : decode cL_parts 343 = .ok (.iload 7, 2) := by decide +kernel
theorem dL_parts_345 : decode cL_parts 345 = .ok (.iadd, 1) := by decide +kernel
theorem dL_parts_346 : decode cL_parts 346 = .ok (.invokevirtual 13, 3) := by decide +kernel
theorem dL_parts_349 : decode cL_parts 349 = .ok (.aload_n 1, 1) := by decide +kernel
theorem dL_parts_350 : decode cL_parts 350 = .ok (.iload 7, 2) := by decide +kernel
theorem dL_parts_352 : decode cL_parts 352 = .ok (.iaload, 1) := by decide +kernel
theorem dL_parts_353 : decode cL_parts 353 = .ok (.if_icmp .eq 5, 3) := by decide +kernel
theorem dL_parts_356 : decode cL_parts 356 = .ok (.iconst 0, 1) := by decide +kernel
theorem dL_parts_357 : decode cL_parts 357 = .ok (.ireturn, 1) := by decide +kernel
theorem dL_parts_358 : decode cL_parts 358 = .ok (.iinc 7 1, 3) := by decide +kernel
theorem dL_parts_361 : decode cL_parts 361 = .ok (.goto (-26), 3) := by decide +kernel
theorem dL_parts_364 : decode cL_parts 364 = .ok (.iload 5, 2) := by decide +kernel
theorem dL_parts_366 : decode cL_parts 366 = .ok (.aload_n 0, 1) := by decide +kernel
theorem dL_parts_367 : decode cL_parts 367 = .ok (.bipush 7, 2) := by decide +kernel
theorem dL_parts_369 : decode cL_parts 369 = .ok (.invokevirtual 13, 3) := by decide +kernel
theorem dL_parts_372 : decode cL_parts 372 = .ok (.if_icmp .ne 41, 3) := by decide +kernel
theorem dL_parts_375 : decode cL_parts 375 = .ok (.lload_n 3, 1) := by decide +kernel
theorem dL_parts_376 : decode cL_parts 376 = .ok (.lconst 1, 1) := by decide +kernel
theorem dL_parts_377 : decode cL_parts 377 = .ok (.aload_n 1, 1) := by decide +kernel
theorem dL_parts_378 : decode cL_parts 378 = .ok (.iconst 0, 1) := by decide +kernel
theorem dL_parts_379 : decode cL_parts 379 = .ok (.iaload, 1) := by decide +kernel
theorem dL_parts_380 : decode cL_parts 380 = .ok (.lshl, 1) := by decide +kernel
theorem dL_parts_381 : decode cL_parts 381 = .ok (.lconst 1, 1) := by decide +kernel
theorem dL_parts_382 : decode cL_parts 382 = .ok (.lsub, 1) := by decide +kernel
theorem dL_parts_383 : decode cL_parts 383 = .ok (.lcmp, 1) := by decide +kernel
theorem dL_parts_384 : decode cL_parts 384 = .ok (.ifCond .ne 29, 3) := by decide +kernel
theorem dL_parts_387 : decode cL_parts 387 = .ok (.aload_n 0, 1) := by decide +kernel
theorem dL_parts_388 : decode cL_parts 388 = .ok (.iload 6, 2) := by decide +kernel
theorem dL_parts_390 : decode cL_parts 390 = .ok (.iconst 0, 1) := by decide +kernel
theorem dL_parts_391 : decode cL_parts 391 = .ok (.invokevirtual 30, 3) := by decide +kernel
theorem dL_parts_394 : decode cL_parts 394 = .ok (.iconst (-1), 1) := by decide +kernel
theorem dL_parts_395 : decode cL_parts 395 = .ok (.if_icmp .ne 18, 3) := by decide +kernel
theorem dL_parts_398 : decode cL_parts 398 = .ok (.aload_n 0, 1) := by decide +kernel
theorem dL_parts_399 : decode cL_parts 399 = .ok (.bipush 17, 2) := by decide +kernel
theorem dL_parts_401 : decode cL_parts 401 = .ok (.invokevirtual 13, 3) := by decide +kernel
theorem dL_parts_404 : decode cL_parts 404 = .ok (.bipush (-2), 2) := by decide +kernel
theorem dL_parts_406 : decode cL_parts 406 = .ok (.if_icmp .ne 7, 3) := by decide +kernel
theorem dL_parts_409 : decode cL_parts 409 = .ok (.iconst 1, 1) := by decide +kernel
theorem dL_parts_410 : decode cL_parts 410 = .ok (.goto 4, 3) := by decide +kernel
theorem dL_parts_413 : decode cL_parts 413 = .ok (.iconst 0, 1) := by decide +kernel
theorem dL_parts_414 : decode cL_parts 414 = .ok (.ireturn, 1) := by decide +kernel
abbrev rmL_parts : Room := { frames := 2, cells := 2, slots := 10, locals := 47 }
def w_L_parts_L335 (n : Nat) (K : Int32 → Mem → Prop) : Nat → Nat → Mem → Nat → Nat → Int64 → Int32 → Int32 → Int32 → Prop
  | 0, _, _, _, _, _, _, _, _ => False
  | fuel + 1, k, M, o0, o1, b3, a5, a6, a7 => (((4 : Int32) ≤ a7 → ((k - n + rmX5_count.cells ≤ rmL_parts.cells ∧ SL k - SL n + rmX5_count.slots ≤ rmL_parts.slots) ∧ ((o0 ≤ k ∧ kd o0 = (5, 0)) ∧ w_X5_count k M o0 (7 : Int32) (fun x12 M11 => ((¬ a5 = x12 → False) ∧ (a5 = x12 → ((o1 ≤ k ∧ (kd o1).1 = 7 ∧ vp_in (0 : Int32) (kd o1).2) ∧ (∀ x13, x13 = gI M11 o1 (Int32.toNatClampNeg (0 : Int32)) → ((¬ (lg_cmp b3 (((1 : Int64) <<< (Int32.toInt64 x13 &&& 63)) - (1 : Int64))) = 0 → False) ∧ ((lg_cmp b3 (((1 : Int64) <<< (Int32.toInt64 x13 &&& 63)) - (1 : Int64))) = 0 → ((k - n + rmX5_part.cells ≤ rmL_parts.cells ∧ SL k - SL n + rmX5_part.slots ≤ rmL_parts.slots) ∧ w_X5_part k M11 o0 a6 (0 : Int32) (fun x16 M15 => ((¬ x16 = (-1 : Int32) → False) ∧ (x16 = (-1 : Int32) → ((k - n + rmX5_count.cells ≤ rmL_parts.cells ∧ SL k - SL n + rmX5_count.slots ≤ rmL_parts.slots) ∧ w_X5_count k M15 o0 (17 : Int32) (fun x19 M18 => ((¬ x19 = (-2 : Int32) → False) ∧ (x19 = (-2 : Int32) → (k = n + 2 ∧ SL (n + 2) ≤ SL n + 10 ∧ narrow .boolean (.int (1 : Int32)) = .int (1 : Int32) ∧ K (1 : Int32) M18))))))))))))))))))) ∧ (¬ (4 : Int32) ≤ a7 → ((k - n + rmX5_count.cells ≤ rmL_parts.cells ∧ SL k - SL n + rmX5_count.slots ≤ rmL_parts.slots) ∧ ((o0 ≤ k ∧ kd o0 = (5, 0)) ∧ w_X5_count k M o0 ((3 : Int32) + a7) (fun x23 M22 => ((o1 ≤ k ∧ (kd o1).1 = 7 ∧ vp_in a7 (kd o1).2) ∧ (∀ x24, x24 = gI M22 o1 (Int32.toNatClampNeg a7) → ((x23 = x24 → (∀ x25, x25 = a7 + (1 : Int32) → w_L_parts_L335 n K fuel k M22 o0 o1 b3 a5 a6 x25)) ∧ (¬ x23 = x24 → False)))))))))
def w_L_parts_L301 (n : Nat) (K : Int32 → Mem → Prop) : Nat → Nat → Mem → Nat → Nat → Nat → Int64 → Int32 → Int32 → Int32 → Prop
  | 0, _, _, _, _, _, _, _, _, _ => False
  | fuel + 1, k, M, o0, o1, o2, b3, a5, a6, a7 => (((6 : Int32) ≤ a7 → w_L_parts_L335 n K 4000 k M o0 o1 b3 a5 a6 (0 : Int32)) ∧ (¬ (6 : Int32) ≤ a7 → ((k - n + rmX5_count.cells ≤ rmL_parts.cells ∧ SL k - SL n + rmX5_count.slots ≤ rmL_parts.slots) ∧ ((o0 ≤ k ∧ kd o0 = (5, 0)) ∧ w_X5_count k M o0 ((9 : Int32) + a7) (fun x29 M28 => ((o2 ≤ k ∧ (kd o2).1 = 7 ∧ vp_in a7 (kd o2).2) ∧ (∀ x30, x30 = gI M28 o2 (Int32.toNatClampNeg a7) → ((x29 = x30 → (∀ x31, x31 = a7 + (1 : Int32) → w_L_parts_L301 n K fuel k M28 o0 o1 o2 b3 a5 a6 x31)) ∧ (¬ x29 = x30 → False)))))))))
def w_L_parts_L24 (n : Nat) (K : Int32 → Mem → Prop) : Nat → Nat → Mem → Nat → Nat → Nat → Int64 → Int32 → Int32 → Int32 → Prop
  | 0, _, _, _, _, _, _, _, _, _ => False
  | fuel + 1, k, M, o0, o1, o2, b3, a5, a6, a7 => ((a6 ≤ a7 → w_L_parts_L301 n K 4000 k M o0 o1 o2 b3 a5 a6 (1 : Int32)) ∧ (¬ a6 ≤ a7 → ((k - n + rmX5_part.cells ≤ rmL_parts.cells ∧ SL k - SL n + rmX5_part.slots ≤ rmL_parts.slots) ∧ ((o0 ≤ k ∧ kd o0 = (5, 0)) ∧ w_X5_part k M o0 a7 (3 : Int32) (fun x35 M34 => ((k - n + rmX5_part.cells ≤ rmL_parts.cells ∧ SL k - SL n + rmX5_part.slots ≤ rmL_parts.slots) ∧ w_X5_part k M34 o0 a7 (8 : Int32) (fun x38 M37 => ((k - n + rmX5_part.cells ≤ rmL_parts.cells ∧ SL k - SL n + rmX5_part.slots ≤ rmL_parts.slots) ∧ w_X5_part k M37 o0 a7 (7 : Int32) (fun x41 M40 => ((k - n + rmX5_value.cells ≤ rmL_parts.cells ∧ SL k - SL n + rmX5_value.slots ≤ rmL_parts.slots) ∧ w_X5_value k M40 o0 a7 (fun z44 M43 => ((o1 ≤ k ∧ (kd o1).1 = 7 ∧ vp_in x35 (kd o1).2) ∧ (∀ x45, x45 = gI M43 o1 (Int32.toNatClampNeg x35) → ((o1 ≤ k ∧ (kd o1).1 = 7 ∧ vp_in x35 (kd o1).2) ∧ (∀ M46, M46 = sI M43 o1 (Int32.toNatClampNeg x35) (x45 + (1 : Int32)) → ((k - n + rmX5_part.cells ≤ rmL_parts.cells ∧ SL k - SL n + rmX5_part.slots ≤ rmL_parts.slots) ∧ w_X5_part k M46 o0 a7 (4 : Int32) (fun x49 M48 => (∀ x50, x50 = a5 + x49 → (∀ x51 : Int32, x51 = (if x38 < 0 then (0 : Int32) else (1 : Int32)) → (∀ x52 : Int32, x52 = (if x35 = 0 then (1 : Int32) else (0 : Int32)) → ((¬ x51 = x52 → False) ∧ (x51 = x52 → (∀ x53 : Int32, x53 = (if x41 ≤ 0 then (0 : Int32) else (1 : Int32)) → (∀ x54 : Int32, x54 = (if x35 = (3 : Int32) then (1 : Int32) else (0 : Int32)) → ((¬ x53 = x54 → False) ∧ (x53 = x54 → ((k - n + rmX5_part.cells ≤ rmL_parts.cells ∧ SL k - SL n + rmX5_part.slots ≤ rmL_parts.slots) ∧ w_X5_part k M48 o0 a7 (6 : Int32) (fun x57 M56 => (∀ x58 : Int32, x58 = (if x57 < 0 then (0 : Int32) else (1 : Int32)) → ((k - n + rmX5_part.cells ≤ rmL_parts.cells ∧ SL k - SL n + rmX5_part.slots ≤ rmL_parts.slots) ∧ w_X5_part k M56 o0 a7 (4 : Int32) (fun x61 M60 => (∀ x62 : Int32, x62 = (if x61 ≤ 0 then (0 : Int32) else (1 : Int32)) → ((¬ x58 = x62 → False) ∧ (x58 = x62 → ((k - n + rmX5_part.cells ≤ rmL_parts.cells ∧ SL k - SL n + rmX5_part.slots ≤ rmL_parts.slots) ∧ w_X5_part k M60 o0 a7 (5 : Int32) (fun x65 M64 => (((2 : Int32) < x65 → False) ∧ (¬ (2 : Int32) < x65 → ((k - n + rmX5_part.cells ≤ rmL_parts.cells ∧ SL k - SL n + rmX5_part.slots ≤ rmL_parts.slots) ∧ w_X5_part k M64 o0 a7 (5 : Int32) (fun x68 M67 => ((k - n + rmX5_part.cells ≤ rmL_parts.cells ∧ SL k - SL n + rmX5_part.slots ≤ rmL_parts.slots) ∧ w_X5_part k M67 o0 a7 (4 : Int32) (fun x71 M70 => ((x68 ≤ x71 → (∀ x72 : Int32, x72 = (if (Op.cmpValue (FP.dcmp z44 z44) CmpOp.l) = 0 then (0 : Int32) else (1 : Int32)) → ((k - n + rmX5_part.cells ≤ rmL_parts.cells ∧ SL k - SL n + rmX5_part.slots ≤ rmL_parts.slots) ∧ w_X5_part k M70 o0 a7 (4 : Int32) (fun x75 M74 => (∀ x76 : Int32, x76 = (if x75 = 0 then (1 : Int32) else (0 : Int32)) → ((¬ x72 = x76 → False) ∧ (x72 = x76 → ((k - n + rmX5_part.cells ≤ rmL_parts.cells ∧ SL k - SL n + rmX5_part.slots ≤ rmL_parts.slots) ∧ w_X5_part k M74 o0 a7 (1 : Int32) (fun x79 M78 => ((¬ x79 = 0 → (∀ y80 : Int64, y80 = (if x38 < 0 then (0 : Int64) else ((1 : Int64) <<< (Int32.toInt64 x38 &&& 63))) → (∀ y81, y81 = b3 ||| y80 → (∀ x82 : Int32, x82 = (if x41 ≤ 0 then (0 : Int32) else x41) → ((o2 ≤ k ∧ (kd o2).1 = 7 ∧ vp_in x82 (kd o2).2) ∧ (∀ x83, x83 = gI M78 o2 (Int32.toNatClampNeg x82) → ((o2 ≤ k ∧ (kd o2).1 = 7 ∧ vp_in x82 (kd o2).2) ∧ (∀ M84, M84 = sI M78 o2 (Int32.toNatClampNeg x82) (x83 + (1 : Int32)) → (∀ x85, x85 = a7 + (1 : Int32) → w_L_parts_L24 n K fuel k M84 o0 o1 o2 y81 x50 a6 x85))))))))) ∧ (x79 = 0 → ((k - n + rmX5_part.cells ≤ rmL_parts.cells ∧ SL k - SL n + rmX5_part.slots ≤ rmL_parts.slots) ∧ w_X5_part k M78 o0 a7 (4 : Int32) (fun x88 M87 => ((x88 ≤ 0 → (∀ y89 : Int64, y89 = (if x38 < 0 then (0 : Int64) else ((1 : Int64) <<< (Int32.toInt64 x38 &&& 63))) → (∀ y90, y90 = b3 ||| y89 → (∀ x91 : Int32, x91 = (if x41 ≤ 0 then (0 : Int32) else x41) → ((o2 ≤ k ∧ (kd o2).1 = 7 ∧ vp_in x91 (kd o2).2) ∧ (∀ x92, x92 = gI M87 o2 (Int32.toNatClampNeg x91) → ((o2 ≤ k ∧ (kd o2).1 = 7 ∧ vp_in x91 (kd o2).2) ∧ (∀ M93, M93 = sI M87 o2 (Int32.toNatClampNeg x91) (x92 + (1 : Int32)) → (∀ x94, x94 = a7 + (1 : Int32) → w_L_parts_L24 n K fuel k M93 o0 o1 o2 y90 x50 a6 x94))))))))) ∧ (¬ x88 ≤ 0 → (((Op.cmpValue (FP.dcmp z44 FP.dconst0) CmpOp.l) = 0 → (∀ y95 : Int64, y95 = (if x38 < 0 then (0 : Int64) else ((1 : Int64) <<< (Int32.toInt64 x38 &&& 63))) → (∀ y96, y96 = b3 ||| y95 → (∀ x97 : Int32, x97 = (if x41 ≤ 0 then (0 : Int32) else x41) → ((o2 ≤ k ∧ (kd o2).1 = 7 ∧ vp_in x97 (kd o2).2) ∧ (∀ x98, x98 = gI M87 o2 (Int32.toNatClampNeg x97) → ((o2 ≤ k ∧ (kd o2).1 = 7 ∧ vp_in x97 (kd o2).2) ∧ (∀ M99, M99 = sI M87 o2 (Int32.toNatClampNeg x97) (x98 + (1 : Int32)) → (∀ x100, x100 = a7 + (1 : Int32) → w_L_parts_L24 n K fuel k M99 o0 o1 o2 y96 x50 a6 x100))))))))) ∧ (¬ (Op.cmpValue (FP.dcmp z44 FP.dconst0) CmpOp.l) = 0 → False))))))))))))))))) ∧ (¬ x68 ≤ x71 → False))))))))))))))))))))))))))))))))))))))))))))
def w_L_parts (n : Nat) (M : Mem) (p1 : Nat) (K : Int32 → Mem → Prop) : Prop := ((kd (n + 1) = (7, 4) ∧ Al rmL_parts n n) ∧ (∀ M1, M1 = zr M (n + 1) → (∀ r2, r2 = (n + 1) → ((kd (n + 1 + 1) = (7, 6) ∧ Al rmL_parts n (n + 1)) ∧ (∀ M3, M3 = zr M1 (n + 1 + 1) → (∀ r4, r4 = (n + 1 + 1) → (((n + 1 + 1) - n + rmX5_count.cells ≤ rmL_parts.cells ∧ SL (n + 1 + 1) - SL n + rmX5_count.slots ≤ rmL_parts.slots) ∧ ((p1 ≤ (n + 1 + 1) ∧ kd p1 = (5, 0)) ∧ w_X5_count (n + 1 + 1) M3 p1 (2 : Int32) (fun x8 M7 => w_L_parts_L24 n K 4000 (n + 1 + 1) M7 p1 r2 r4 (0 : Int64) (0 : Int32) x8 (0 : Int32))))))))))
set_option maxHeartbeats 4000000 in
set_option maxRecDepth 20000 in
theorem c_L_parts (l : Launch) (E : Gl) (n : Nat) (M : Mem) (p1 : Nat) (K : Int32 → Mem → Prop) (hw : w_L_parts n M p1 K) : CT E l yL_parts cL_parts 13 (some .boolean) rmL_parts n M [rV p1] (PI E (n + 2) K) := by
  refine g_met l (by decide) (Nat.le_of_ble_eq_true rfl) ?_
  intro p e s m args below meth c X hr hlk hnm hSz hOld
  change CX E p s m c _ _ RL at X
  have L335 : ∀ (fuel335 : Nat) (k : Nat) (M : Mem) (o0 : Nat) (o1 : Nat) (b3 : Int64) (a5 : Int32) (a6 : Int32) (a7 : Int32), w_L_parts_L335 n K fuel335 k M o0 o1 b3 a5 a6 a7 → G E p l e rmL_parts s m args below meth c 13 k M (k - n) (SL k - SL n) (MQD lw_cs below (PI E (n + 2) K) args s rmL_parts.cells rmL_parts.slots (Ab E)) 335 [(0, rV o0), (1, rV o1), (3, lV b3), (5, iV a5), (6, iV a6), (7, iV a7)] [] := by
    intro fuel335
    induction fuel335 with
    | zero => intro k M o0 o1 b3 a5 a6 a7 hw; exact False.elim hw
    | succ fuel335 ih335 =>
      intro k M o0 o1 b3 a5 a6 a7 hw
      unfold w_L_parts_L335 at hw
      refine g_iload X dL_parts_335 5 rfl ?_
      refine g_iconst X (4 : Int32) dL_parts_337 (by decide) ?_
      refine g_icmp_ge X 364 dL_parts_338 (by decide) hw (fun hw => ?_) (fun hw => ?_)
      · refine g_iload X dL_parts_364 3 rfl ?_
        refine g_aload_n X dL_parts_366 0 rfl ?_
        refine g_bipush X (7 : Int32) dL_parts_367 (by decide) ?_
        obtain ⟨hA9, hw⟩ := hw
        obtain ⟨hk10, hw⟩ := hw
        refine g_calli (pc' := 372) (rest := [iV a5]) rfl (fun H locs ls d qR qL => g_runV X cw_L_13 iv_X5_count ⟨Nat.le_of_ble_eq_true rfl, Nat.le_of_ble_eq_true rfl⟩ dL_parts_369 (c_X5_count l E k M o0 (7 : Int32) _ hw) hk10 rfl rfl (Nat.le_of_ble_eq_true rfl) hA9 qR qL) (fun x12 M11 hw => ?_)
        refine g_widen (k := k - n) (z := SL k - SL n) (Nat.le_of_eq (Nat.add_zero _)) (Nat.le_of_eq (Nat.add_zero _)) ?_
        refine g_icmp_ne X 413 dL_parts_372 (by decide) hw (fun hw => ?_) (fun hw => ?_)
        · refine g_iconst X (0 : Int32) dL_parts_413 (by decide) ?_
          exact hw.elim
        · refine g_lload_n X dL_parts_375 2 rfl ?_
          refine g_lconst X (1 : Int64) dL_parts_376 (by decide) ?_
          refine g_aload_n X dL_parts_377 1 rfl ?_
          refine g_iconst X (0 : Int32) dL_parts_378 (by decide) ?_
          refine g_iald X dL_parts_379 hw (fun hw => ?_)
          refine g_topI (fun x13 hx13 => ?_)
          have hw := hw x13 hx13
          refine g_lshl X dL_parts_380 ?_
          refine g_lconst X (1 : Int64) dL_parts_381 (by decide) ?_
          refine g_lsub X dL_parts_382 ?_
          refine g_lcmp X dL_parts_383 ?_
          refine g_if_ne X 413 dL_parts_384 (by decide) hw (fun hw => ?_) (fun hw => ?_)
          · refine g_iconst X (0 : Int32) dL_parts_413 (by decide) ?_
            exact hw.elim
          · refine g_aload_n X dL_parts_387 0 rfl ?_
            refine g_iload X dL_parts_388 4 rfl ?_
            refine g_iconst X (0 : Int32) dL_parts_390 (by decide) ?_
            obtain ⟨hA14, hw⟩ := hw
            refine g_calli (pc' := 394) (rest := []) rfl (fun H locs ls d qR qL => g_runV X cw_L_30 iv_X5_part ⟨Nat.le_of_ble_eq_true rfl, Nat.le_of_ble_eq_true rfl⟩ dL_parts_391 (c_X5_part l E k M11 o0 a6 (0 : Int32) _ hw) hk10 rfl rfl (Nat.le_of_ble_eq_true rfl) hA14 qR qL) (fun x16 M15 hw => ?_)
            refine g_widen (k := k - n) (z := SL k - SL n) (Nat.le_of_eq (Nat.add_zero _)) (Nat.le_of_eq (Nat.add_zero _)) ?_
            refine g_iconst X (-1 : Int32) dL_parts_394 (by decide) ?_
            refine g_icmp_ne X 413 dL_parts_395 (by decide) hw (fun hw => ?_) (fun hw => ?_)
            · refine g_iconst X (0 : Int32) dL_parts_413 (by decide) ?_
              exact hw.elim
            · refine g_aload_n X dL_parts_398 0 rfl ?_
              refine g_bipush X (17 : Int32) dL_parts_399 (by decide) ?_
              obtain ⟨hA17, hw⟩ := hw
              refine g_calli (pc' := 404) (rest := []) rfl (fun H locs ls d qR qL => g_runV X cw_L_13 iv_X5_count ⟨Nat.le_of_ble_eq_true rfl, Nat.le_of_ble_eq_true rfl⟩ dL_parts_401 (c_X5_count l E k M15 o0 (17 : Int32) _ hw) hk10 rfl rfl (Nat.le_of_ble_eq_true rfl) hA17 qR qL) (fun x19 M18 hw => ?_)
              refine g_widen (k := k - n) (z := SL k - SL n) (Nat.le_of_eq (Nat.add_zero _)) (Nat.le_of_eq (Nat.add_zero _)) ?_
              refine g_bipush X (-2 : Int32) dL_parts_404 (by decide) ?_
              refine g_icmp_ne X 413 dL_parts_406 (by decide) hw (fun hw => ?_) (fun hw => ?_)
              · refine g_iconst X (0 : Int32) dL_parts_413 (by decide) ?_
                exact hw.elim
              · refine g_iconst X (1 : Int32) dL_parts_409 (by decide) ?_
                refine g_goto X 414 dL_parts_410 (by decide) ?_
                obtain ⟨he, hs, hw⟩ := hw
                rw [he]
                refine g_widen (k := rmL_parts.cells) (z := rmL_parts.slots) (by show n + 2 - n ≤ 2; omega) (by show SL (n + 2) - SL n ≤ 10; omega) ?_
                exact g_zret (n := n) X hr hlk hSz hOld (Nat.le_add_right _ _) dL_parts_414 hw
      · refine g_aload_n X dL_parts_341 0 rfl ?_
        refine g_iconst X (3 : Int32) dL_parts_342 (by decide) ?_
        refine g_iload X dL_parts_343 5 rfl ?_
        refine g_iadd X dL_parts_345 ?_
        obtain ⟨hA20, hw⟩ := hw
        obtain ⟨hk21, hw⟩ := hw
        refine g_calli (pc' := 349) (rest := []) rfl (fun H locs ls d qR qL => g_runV X cw_L_13 iv_X5_count ⟨Nat.le_of_ble_eq_true rfl, Nat.le_of_ble_eq_true rfl⟩ dL_parts_346 (c_X5_count l E k M o0 ((3 : Int32) + a7) _ hw) hk21 rfl rfl (Nat.le_of_ble_eq_true rfl) hA20 qR qL) (fun x23 M22 hw => ?_)
        refine g_widen (k := k - n) (z := SL k - SL n) (Nat.le_of_eq (Nat.add_zero _)) (Nat.le_of_eq (Nat.add_zero _)) ?_
        refine g_aload_n X dL_parts_349 1 rfl ?_
        refine g_iload X dL_parts_350 5 rfl ?_
        refine g_iald X dL_parts_352 hw (fun hw => ?_)
        refine g_topI (fun x24 hx24 => ?_)
        have hw := hw x24 hx24
        refine g_icmp_eq X 358 dL_parts_353 (by decide) hw (fun hw => ?_) (fun hw => ?_)
        · obtain ⟨x25, hx25⟩ : ∃ y : Int32, y = a7 + (1 : Int32) := ⟨_, rfl⟩
          have hw := hw x25 hx25
          refine g_iinc (lv' := [(7, iV x25), (0, rV o0), (1, rV o1), (3, lV b3), (5, iV a5), (6, iV a6)]) X x25 dL_parts_358 5 rfl (by rw [hx25]; rfl) (by decide) rfl ?_
          refine g_goto X 335 dL_parts_361 (by decide) ?_
          refine g_lvsub (lv' := [(0, rV o0), (1, rV o1), (3, lV b3), (5, iV a5), (6, iV a6), (7, iV x25)]) [1, 2, 3, 4, 5, 0] rfl ?_
          exact ih335 _ _ _ _ _ _ _ _ hw
        · refine g_iconst X (0 : Int32) dL_parts_356 (by decide) ?_
          exact hw.elim
  have L301 : ∀ (fuel301 : Nat) (k : Nat) (M : Mem) (o0 : Nat) (o1 : Nat) (o2 : Nat) (b3 : Int64) (a5 : Int32) (a6 : Int32) (a7 : Int32), w_L_parts_L301 n K fuel301 k M o0 o1 o2 b3 a5 a6 a7 → G E p l e rmL_parts s m args below meth c 13 k M (k - n) (SL k - SL n) (MQD lw_cs below (PI E (n + 2) K) args s rmL_parts.cells rmL_parts.slots (Ab E)) 301 [(0, rV o0), (1, rV o1), (2, rV o2), (3, lV b3), (5, iV a5), (6, iV a6), (7, iV a7)] [] := by
    intro fuel301
    induction fuel301 with
    | zero => intro k M o0 o1 o2 b3 a5 a6 a7 hw; exact False.elim hw
    | succ fuel301 ih301 =>
      intro k M o0 o1 o2 b3 a5 a6 a7 hw
      unfold w_L_parts_L301 at hw
      refine g_iload X dL_parts_301 6 rfl ?_
      refine g_bipush X (6 : Int32) dL_parts_303 (by decide) ?_
      refine g_icmp_ge X 332 dL_parts_305 (by decide) hw (fun hw => ?_) (fun hw => ?_)
      · refine g_iconst X (0 : Int32) dL_parts_332 (by decide) ?_
        refine g_istore (lv' := [(7, iV (0 : Int32)), (0, rV o0), (1, rV o1), (2, rV o2), (3, lV b3), (5, iV a5), (6, iV a6)]) X dL_parts_333 (by decide) rfl ?_
        refine g_lvsub (lv' := [(0, rV o0), (1, rV o1), (3, lV b3), (5, iV a5), (6, iV a6), (7, iV (0 : Int32))]) [1, 2, 4, 5, 6, 0] rfl ?_
        exact L335 _ _ _ _ _ _ _ _ _ hw
      · refine g_aload_n X dL_parts_308 0 rfl ?_
        refine g_bipush X (9 : Int32) dL_parts_309 (by decide) ?_
        refine g_iload X dL_parts_311 6 rfl ?_
        refine g_iadd X dL_parts_313 ?_
        obtain ⟨hA26, hw⟩ := hw
        obtain ⟨hk27, hw⟩ := hw
        refine g_calli (pc' := 317) (rest := []) rfl (fun H locs ls d qR qL => g_runV X cw_L_13 iv_X5_count ⟨Nat.le_of_ble_eq_true rfl, Nat.le_of_ble_eq_true rfl⟩ dL_parts_314 (c_X5_count l E k M o0 ((9 : Int32) + a7) _ hw) hk27 rfl rfl (Nat.le_of_ble_eq_true rfl) hA26 qR qL) (fun x29 M28 hw => ?_)
        refine g_widen (k := k - n) (z := SL k - SL n) (Nat.le_of_eq (Nat.add_zero _)) (Nat.le_of_eq (Nat.add_zero _)) ?_
        refine g_aload_n X dL_parts_317 2 rfl ?_
        refine g_iload X dL_parts_318 6 rfl ?_
        refine g_iald X dL_parts_320 hw (fun hw => ?_)
        refine g_topI (fun x30 hx30 => ?_)
        have hw := hw x30 hx30
        refine g_icmp_eq X 326 dL_parts_321 (by decide) hw (fun hw => ?_) (fun hw => ?_)
        · obtain ⟨x31, hx31⟩ : ∃ y : Int32, y = a7 + (1 : Int32) := ⟨_, rfl⟩
          have hw := hw x31 hx31
          refine g_iinc (lv' := [(7, iV x31), (0, rV o0), (1, rV o1), (2, rV o2), (3, lV b3), (5, iV a5), (6, iV a6)]) X x31 dL_parts_326 6 rfl (by rw [hx31]; rfl) (by decide) rfl ?_
          refine g_goto X 301 dL_parts_329 (by decide) ?_
          refine g_lvsub (lv' := [(0, rV o0), (1, rV o1), (2, rV o2), (3, lV b3), (5, iV a5), (6, iV a6), (7, iV x31)]) [1, 2, 3, 4, 5, 6, 0] rfl ?_
          exact ih301 _ _ _ _ _ _ _ _ _ hw
        · refine g_iconst X (0 : Int32) dL_parts_324 (by decide) ?_
          exact hw.elim
  have L24 : ∀ (fuel24 : Nat) (k : Nat) (M : Mem) (o0 : Nat) (o1 : Nat) (o2 : Nat) (b3 : Int64) (a5 : Int32) (a6 : Int32) (a7 : Int32), w_L_parts_L24 n K fuel24 k M o0 o1 o2 b3 a5 a6 a7 → G E p l e rmL_parts s m args below meth c 13 k M (k - n) (SL k - SL n) (MQD lw_cs below (PI E (n + 2) K) args s rmL_parts.cells rmL_parts.slots (Ab E)) 24 [(0, rV o0), (1, rV o1), (2, rV o2), (3, lV b3), (5, iV a5), (6, iV a6), (7, iV a7)] [] := by
    intro fuel24
    induction fuel24 with
    | zero => intro k M o0 o1 o2 b3 a5 a6 a7 hw; exact False.elim hw
    | succ fuel24 ih24 =>
      intro k M o0 o1 o2 b3 a5 a6 a7 hw
      unfold w_L_parts_L24 at hw
      refine g_iload X dL_parts_24 6 rfl ?_
      refine g_iload X dL_parts_26 5 rfl ?_
      refine g_icmp_ge X 298 dL_parts_28 (by decide) hw (fun hw => ?_) (fun hw => ?_)
      · refine g_iconst X (1 : Int32) dL_parts_298 (by decide) ?_
        refine g_istore (lv' := [(7, iV (1 : Int32)), (0, rV o0), (1, rV o1), (2, rV o2), (3, lV b3), (5, iV a5), (6, iV a6)]) X dL_parts_299 (by decide) rfl ?_
        refine g_lvsub (lv' := [(0, rV o0), (1, rV o1), (2, rV o2), (3, lV b3), (5, iV a5), (6, iV a6), (7, iV (1 : Int32))]) [1, 2, 3, 4, 5, 6, 0] rfl ?_
        exact L301 _ _ _ _ _ _ _ _ _ _ hw
      · refine g_aload_n X dL_parts_31 0 rfl ?_
        refine g_iload X dL_parts_32 6 rfl ?_
        refine g_iconst X (3 : Int32) dL_parts_34 (by decide) ?_
        obtain ⟨hA32, hw⟩ := hw
        obtain ⟨hk33, hw⟩ := hw
        refine g_calli (pc' := 38) (rest := []) rfl (fun H locs ls d qR qL => g_runV X cw_L_30 iv_X5_part ⟨Nat.le_of_ble_eq_true rfl, Nat.le_of_ble_eq_true rfl⟩ dL_parts_35 (c_X5_part l E k M o0 a7 (3 : Int32) _ hw) hk33 rfl rfl (Nat.le_of_ble_eq_true rfl) hA32 qR qL) (fun x35 M34 hw => ?_)
        refine g_widen (k := k - n) (z := SL k - SL n) (Nat.le_of_eq (Nat.add_zero _)) (Nat.le_of_eq (Nat.add_zero _)) ?_
        refine g_istore (lv' := [(8, iV x35), (0, rV o0), (1, rV o1), (2, rV o2), (3, lV b3), (5, iV a5), (6, iV a6), (7, iV a7)]) X dL_parts_38 (by decide) rfl ?_
        refine g_aload_n X dL_parts_40 1 rfl ?_
        refine g_iload X dL_parts_41 7 rfl ?_
        refine g_bipush X (8 : Int32) dL_parts_43 (by decide) ?_
        obtain ⟨hA36, hw⟩ := hw
        refine g_calli (pc' := 48) (rest := []) rfl (fun H locs ls d qR qL => g_runV X cw_L_30 iv_X5_part ⟨Nat.le_of_ble_eq_true rfl, Nat.le_of_ble_eq_true rfl⟩ dL_parts_45 (c_X5_part l E k M34 o0 a7 (8 : Int32) _ hw) hk33 rfl rfl (Nat.le_of_ble_eq_true rfl) hA36 qR qL) (fun x38 M37 hw => ?_)
        refine g_widen (k := k - n) (z := SL k - SL n) (Nat.le_of_eq (Nat.add_zero _)) (Nat.le_of_eq (Nat.add_zero _)) ?_
        refine g_istore (lv' := [(9, iV x38), (8, iV x35), (0, rV o0), (1, rV o1), (2, rV o2), (3, lV b3), (5, iV a5), (6, iV a6), (7, iV a7)]) X dL_parts_48 (by decide) rfl ?_
        refine g_aload_n X dL_parts_50 2 rfl ?_
        refine g_iload X dL_parts_51 8 rfl ?_
        refine g_bipush X (7 : Int32) dL_parts_53 (by decide) ?_
        obtain ⟨hA39, hw⟩ := hw
        refine g_calli (pc' := 58) (rest := []) rfl (fun H locs ls d qR qL => g_runV X cw_L_30 iv_X5_part ⟨Nat.le_of_ble_eq_true rfl, Nat.le_of_ble_eq_true rfl⟩ dL_parts_55 (c_X5_part l E k M37 o0 a7 (7 : Int32) _ hw) hk33 rfl rfl (Nat.le_of_ble_eq_true rfl) hA39 qR qL) (fun x41 M40 hw => ?_)
        refine g_widen (k := k - n) (z := SL k - SL n) (Nat.le_of_eq (Nat.add_zero _)) (Nat.le_of_eq (Nat.add_zero _)) ?_
        refine g_istore (lv' := [(10, iV x41), (9, iV x38), (8, iV x35), (0, rV o0), (1, rV o1), (2, rV o2), (3, lV b3), (5, iV a5), (6, iV a6), (7, iV a7)]) X dL_parts_58 (by decide) rfl ?_
        refine g_aload_n X dL_parts_60 3 rfl ?_
        refine g_iload X dL_parts_61 9 rfl ?_
        obtain ⟨hA42, hw⟩ := hw
        refine g_calld (pc' := 66) (rest := []) rfl (fun H locs ls d qR qL => g_runV X cw_L_33 iv_X5_value ⟨Nat.le_of_ble_eq_true rfl, Nat.le_of_ble_eq_true rfl⟩ dL_parts_63 (c_X5_value l E k M40 o0 a7 _ hw) hk33 rfl rfl (Nat.le_of_ble_eq_true rfl) hA42 qR qL) (fun z44 M43 hw => ?_)
        refine g_widen (k := k - n) (z := SL k - SL n) (Nat.le_of_eq (Nat.add_zero _)) (Nat.le_of_eq (Nat.add_zero _)) ?_
        refine g_dstore (lv' := [(11, dV z44), (10, iV x41), (9, iV x38), (8, iV x35), (0, rV o0), (1, rV o1), (2, rV o2), (3, lV b3), (5, iV a5), (6, iV a6), (7, iV a7)]) X dL_parts_66 (by decide) rfl ?_
        refine g_aload_n X dL_parts_68 5 rfl ?_
        refine g_iload X dL_parts_69 3 rfl ?_
        refine g_dup2 X dL_parts_71 rfl rfl ?_
        refine g_iald X dL_parts_72 hw (fun hw => ?_)
        refine g_topI (fun x45 hx45 => ?_)
        have hw := hw x45 hx45
        refine g_iconst X (1 : Int32) dL_parts_73 (by decide) ?_
        refine g_iadd X dL_parts_74 ?_
        refine g_iast X dL_parts_75 hw (fun hw => ?_)
        refine g_topM (fun M46 hM46 => ?_)
        have hw := hw M46 hM46
        refine g_iload X dL_parts_76 8 rfl ?_
        refine g_aload_n X dL_parts_78 4 rfl ?_
        refine g_iload X dL_parts_79 10 rfl ?_
        refine g_iconst X (4 : Int32) dL_parts_81 (by decide) ?_
        obtain ⟨hA47, hw⟩ := hw
        refine g_calli (pc' := 85) (rest := [iV a5]) rfl (fun H locs ls d qR qL => g_runV X cw_L_30 iv_X5_part ⟨Nat.le_of_ble_eq_true rfl, Nat.le_of_ble_eq_true rfl⟩ dL_parts_82 (c_X5_part l E k M46 o0 a7 (4 : Int32) _ hw) hk33 rfl rfl (Nat.le_of_ble_eq_true rfl) hA47 qR qL) (fun x49 M48 hw => ?_)
        refine g_widen (k := k - n) (z := SL k - SL n) (Nat.le_of_eq (Nat.add_zero _)) (Nat.le_of_eq (Nat.add_zero _)) ?_
        refine g_iadd X dL_parts_85 ?_
        refine g_topI (fun x50 hx50 => ?_)
        have hw := hw x50 hx50
        refine g_istore (lv' := [(5, iV x50), (11, dV z44), (10, iV x41), (9, iV x38), (8, iV x35), (0, rV o0), (1, rV o1), (2, rV o2), (3, lV b3), (6, iV a6), (7, iV a7)]) X dL_parts_86 (by decide) rfl ?_
        refine g_iload X dL_parts_88 3 rfl ?_
        suffices kk : ∀ x51 : Int32, x51 = (if x38 < 0 then (0 : Int32) else (1 : Int32)) → G E p l e rmL_parts s m args below meth c 13 k M48 (k - n) (SL k - SL n) (MQD lw_cs below (PI E (n + 2) K) args s rmL_parts.cells rmL_parts.slots (Ab E)) 98 [(5, iV x50), (11, dV z44), (10, iV x41), (9, iV x38), (8, iV x35), (0, rV o0), (1, rV o1), (2, rV o2), (3, lV b3), (6, iV a6), (7, iV a7)] [iV x51] by
          refine g_if_lt X 97 dL_parts_90 (by decide) ⟨fun h => h, fun h => h⟩ (fun hc => ?_) (fun hc => ?_)
          · refine g_iconst X (0 : Int32) dL_parts_97 (by decide) ?_
            exact kk _ (if_pos hc).symm
          · refine g_iconst X (1 : Int32) dL_parts_93 (by decide) ?_
            refine g_goto X 98 dL_parts_94 (by decide) ?_
            exact kk _ (if_neg hc).symm
        intro x51 hx51
        have hw := hw x51 hx51
        refine g_iload X dL_parts_98 4 rfl ?_
        suffices kk : ∀ x52 : Int32, x52 = (if x35 = 0 then (1 : Int32) else (0 : Int32)) → G E p l e rmL_parts s m args below meth c 13 k M48 (k - n) (SL k - SL n) (MQD lw_cs below (PI E (n + 2) K) args s rmL_parts.cells rmL_parts.slots (Ab E)) 108 [(5, iV x50), (11, dV z44), (10, iV x41), (9, iV x38), (8, iV x35), (0, rV o0), (1, rV o1), (2, rV o2), (3, lV b3), (6, iV a6), (7, iV a7)] [iV x52, iV x51] by
          refine g_if_ne X 107 dL_parts_100 (by decide) ⟨fun h => h, fun h => h⟩ (fun hc => ?_) (fun hc => ?_)
          · refine g_iconst X (0 : Int32) dL_parts_107 (by decide) ?_
            exact kk _ (if_neg hc).symm
          · refine g_iconst X (1 : Int32) dL_parts_103 (by decide) ?_
            refine g_goto X 108 dL_parts_104 (by decide) ?_
            exact kk _ (if_pos hc).symm
        intro x52 hx52
        have hw := hw x52 hx52
        refine g_icmp_ne X 197 dL_parts_108 (by decide) hw (fun hw => ?_) (fun hw => ?_)
        · refine g_iconst X (0 : Int32) dL_parts_197 (by decide) ?_
          exact hw.elim
        · refine g_iload X dL_parts_111 2 rfl ?_
          suffices kk : ∀ x53 : Int32, x53 = (if x41 ≤ 0 then (0 : Int32) else (1 : Int32)) → G E p l e rmL_parts s m args below meth c 13 k M48 (k - n) (SL k - SL n) (MQD lw_cs below (PI E (n + 2) K) args s rmL_parts.cells rmL_parts.slots (Ab E)) 121 [(5, iV x50), (11, dV z44), (10, iV x41), (9, iV x38), (8, iV x35), (0, rV o0), (1, rV o1), (2, rV o2), (3, lV b3), (6, iV a6), (7, iV a7)] [iV x53] by
            refine g_if_le X 120 dL_parts_113 (by decide) ⟨fun h => h, fun h => h⟩ (fun hc => ?_) (fun hc => ?_)
            · refine g_iconst X (0 : Int32) dL_parts_120 (by decide) ?_
              exact kk _ (if_pos hc).symm
            · refine g_iconst X (1 : Int32) dL_parts_116 (by decide) ?_
              refine g_goto X 121 dL_parts_117 (by decide) ?_
              exact kk _ (if_neg hc).symm
          intro x53 hx53
          have hw := hw x53 hx53
          refine g_iload X dL_parts_121 4 rfl ?_
          refine g_iconst X (3 : Int32) dL_parts_123 (by decide) ?_
          suffices kk : ∀ x54 : Int32, x54 = (if x35 = (3 : Int32) then (1 : Int32) else (0 : Int32)) → G E p l e rmL_parts s m args below meth c 13 k M48 (k - n) (SL k - SL n) (MQD lw_cs below (PI E (n + 2) K) args s rmL_parts.cells rmL_parts.slots (Ab E)) 132 [(5, iV x50), (11, dV z44), (10, iV x41), (9, iV x38), (8, iV x35), (0, rV o0), (1, rV o1), (2, rV o2), (3, lV b3), (6, iV a6), (7, iV a7)] [iV x54, iV x53] by
            refine g_icmp_ne X 131 dL_parts_124 (by decide) ⟨fun h => h, fun h => h⟩ (fun hc => ?_) (fun hc => ?_)
            · refine g_iconst X (0 : Int32) dL_parts_131 (by decide) ?_
              exact kk _ (if_neg hc).symm
            · refine g_iconst X (1 : Int32) dL_parts_127 (by decide) ?_
              refine g_goto X 132 dL_parts_128 (by decide) ?_
              exact kk _ (if_pos hc).symm
          intro x54 hx54
          have hw := hw x54 hx54
          refine g_icmp_ne X 197 dL_parts_132 (by decide) hw (fun hw => ?_) (fun hw => ?_)
          · refine g_iconst X (0 : Int32) dL_parts_197 (by decide) ?_
            exact hw.elim
          · refine g_aload_n X dL_parts_135 5 rfl ?_
            refine g_iload X dL_parts_136 10 rfl ?_
            refine g_bipush X (6 : Int32) dL_parts_138 (by decide) ?_
            obtain ⟨hA55, hw⟩ := hw
            refine g_calli (pc' := 143) (rest := []) rfl (fun H locs ls d qR qL => g_runV X cw_L_30 iv_X5_part ⟨Nat.le_of_ble_eq_true rfl, Nat.le_of_ble_eq_true rfl⟩ dL_parts_140 (c_X5_part l E k M48 o0 a7 (6 : Int32) _ hw) hk33 rfl rfl (Nat.le_of_ble_eq_true rfl) hA55 qR qL) (fun x57 M56 hw => ?_)
            refine g_widen (k := k - n) (z := SL k - SL n) (Nat.le_of_eq (Nat.add_zero _)) (Nat.le_of_eq (Nat.add_zero _)) ?_
            suffices kk : ∀ x58 : Int32, x58 = (if x57 < 0 then (0 : Int32) else (1 : Int32)) → G E p l e rmL_parts s m args below meth c 13 k M56 (k - n) (SL k - SL n) (MQD lw_cs below (PI E (n + 2) K) args s rmL_parts.cells rmL_parts.slots (Ab E)) 151 [(5, iV x50), (11, dV z44), (10, iV x41), (9, iV x38), (8, iV x35), (0, rV o0), (1, rV o1), (2, rV o2), (3, lV b3), (6, iV a6), (7, iV a7)] [iV x58] by
              refine g_if_lt X 150 dL_parts_143 (by decide) ⟨fun h => h, fun h => h⟩ (fun hc => ?_) (fun hc => ?_)
              · refine g_iconst X (0 : Int32) dL_parts_150 (by decide) ?_
                exact kk _ (if_pos hc).symm
              · refine g_iconst X (1 : Int32) dL_parts_146 (by decide) ?_
                refine g_goto X 151 dL_parts_147 (by decide) ?_
                exact kk _ (if_neg hc).symm
            intro x58 hx58
            have hw := hw x58 hx58
            refine g_aload_n X dL_parts_151 5 rfl ?_
            refine g_iload X dL_parts_152 10 rfl ?_
            refine g_iconst X (4 : Int32) dL_parts_154 (by decide) ?_
            obtain ⟨hA59, hw⟩ := hw
            refine g_calli (pc' := 158) (rest := [iV x58]) rfl (fun H locs ls d qR qL => g_runV X cw_L_30 iv_X5_part ⟨Nat.le_of_ble_eq_true rfl, Nat.le_of_ble_eq_true rfl⟩ dL_parts_155 (c_X5_part l E k M56 o0 a7 (4 : Int32) _ hw) hk33 rfl rfl (Nat.le_of_ble_eq_true rfl) hA59 qR qL) (fun x61 M60 hw => ?_)
            refine g_widen (k := k - n) (z := SL k - SL n) (Nat.le_of_eq (Nat.add_zero _)) (Nat.le_of_eq (Nat.add_zero _)) ?_
            suffices kk : ∀ x62 : Int32, x62 = (if x61 ≤ 0 then (0 : Int32) else (1 : Int32)) → G E p l e rmL_parts s m args below meth c 13 k M60 (k - n) (SL k - SL n) (MQD lw_cs below (PI E (n + 2) K) args s rmL_parts.cells rmL_parts.slots (Ab E)) 166 [(5, iV x50), (11, dV z44), (10, iV x41), (9, iV x38), (8, iV x35), (0, rV o0), (1, rV o1), (2, rV o2), (3, lV b3), (6, iV a6), (7, iV a7)] [iV x62, iV x58] by
              refine g_if_le X 165 dL_parts_158 (by decide) ⟨fun h => h, fun h => h⟩ (fun hc => ?_) (fun hc => ?_)
              · refine g_iconst X (0 : Int32) dL_parts_165 (by decide) ?_
                exact kk _ (if_pos hc).symm
              · refine g_iconst X (1 : Int32) dL_parts_161 (by decide) ?_
                refine g_goto X 166 dL_parts_162 (by decide) ?_
                exact kk _ (if_neg hc).symm
            intro x62 hx62
            have hw := hw x62 hx62
            refine g_icmp_ne X 197 dL_parts_166 (by decide) hw (fun hw => ?_) (fun hw => ?_)
            · refine g_iconst X (0 : Int32) dL_parts_197 (by decide) ?_
              exact hw.elim
            · refine g_aload_n X dL_parts_169 5 rfl ?_
              refine g_iload X dL_parts_170 10 rfl ?_
              refine g_iconst X (5 : Int32) dL_parts_172 (by decide) ?_
              obtain ⟨hA63, hw⟩ := hw
              refine g_calli (pc' := 176) (rest := []) rfl (fun H locs ls d qR qL => g_runV X cw_L_30 iv_X5_part ⟨Nat.le_of_ble_eq_true rfl, Nat.le_of_ble_eq_true rfl⟩ dL_parts_173 (c_X5_part l E k M60 o0 a7 (5 : Int32) _ hw) hk33 rfl rfl (Nat.le_of_ble_eq_true rfl) hA63 qR qL) (fun x65 M64 hw => ?_)
              refine g_widen (k := k - n) (z := SL k - SL n) (Nat.le_of_eq (Nat.add_zero _)) (Nat.le_of_eq (Nat.add_zero _)) ?_
              refine g_iconst X (2 : Int32) dL_parts_176 (by decide) ?_
              refine g_icmp_gt X 197 dL_parts_177 (by decide) hw (fun hw => ?_) (fun hw => ?_)
              · refine g_iconst X (0 : Int32) dL_parts_197 (by decide) ?_
                exact hw.elim
              · refine g_aload_n X dL_parts_180 5 rfl ?_
                refine g_iload X dL_parts_181 10 rfl ?_
                refine g_iconst X (5 : Int32) dL_parts_183 (by decide) ?_
                obtain ⟨hA66, hw⟩ := hw
                refine g_calli (pc' := 187) (rest := []) rfl (fun H locs ls d qR qL => g_runV X cw_L_30 iv_X5_part ⟨Nat.le_of_ble_eq_true rfl, Nat.le_of_ble_eq_true rfl⟩ dL_parts_184 (c_X5_part l E k M64 o0 a7 (5 : Int32) _ hw) hk33 rfl rfl (Nat.le_of_ble_eq_true rfl) hA66 qR qL) (fun x68 M67 hw => ?_)
                refine g_widen (k := k - n) (z := SL k - SL n) (Nat.le_of_eq (Nat.add_zero _)) (Nat.le_of_eq (Nat.add_zero _)) ?_
                refine g_aload_n X dL_parts_187 5 rfl ?_
                refine g_iload X dL_parts_188 10 rfl ?_
                refine g_iconst X (4 : Int32) dL_parts_190 (by decide) ?_
                obtain ⟨hA69, hw⟩ := hw
                refine g_calli (pc' := 194) (rest := [iV x68]) rfl (fun H locs ls d qR qL => g_runV X cw_L_30 iv_X5_part ⟨Nat.le_of_ble_eq_true rfl, Nat.le_of_ble_eq_true rfl⟩ dL_parts_191 (c_X5_part l E k M67 o0 a7 (4 : Int32) _ hw) hk33 rfl rfl (Nat.le_of_ble_eq_true rfl) hA69 qR qL) (fun x71 M70 hw => ?_)
                refine g_widen (k := k - n) (z := SL k - SL n) (Nat.le_of_eq (Nat.add_zero _)) (Nat.le_of_eq (Nat.add_zero _)) ?_
                refine g_icmp_le X 199 dL_parts_194 (by decide) hw (fun hw => ?_) (fun hw => ?_)
                · refine g_dload X dL_parts_199 1 rfl ?_
                  refine g_dload X dL_parts_201 1 rfl ?_
                  refine g_dcmp X dL_parts_203 ?_
                  suffices kk : ∀ x72 : Int32, x72 = (if (Op.cmpValue (FP.dcmp z44 z44) CmpOp.l) = 0 then (0 : Int32) else (1 : Int32)) → G E p l e rmL_parts s m args below meth c 13 k M70 (k - n) (SL k - SL n) (MQD lw_cs below (PI E (n + 2) K) args s rmL_parts.cells rmL_parts.slots (Ab E)) 212 [(5, iV x50), (11, dV z44), (10, iV x41), (9, iV x38), (8, iV x35), (0, rV o0), (1, rV o1), (2, rV o2), (3, lV b3), (6, iV a6), (7, iV a7)] [iV x72] by
                    refine g_if_eq X 211 dL_parts_204 (by decide) ⟨fun h => h, fun h => h⟩ (fun hc => ?_) (fun hc => ?_)
                    · refine g_iconst X (0 : Int32) dL_parts_211 (by decide) ?_
                      exact kk _ (if_pos hc).symm
                    · refine g_iconst X (1 : Int32) dL_parts_207 (by decide) ?_
                      refine g_goto X 212 dL_parts_208 (by decide) ?_
                      exact kk _ (if_neg hc).symm
                  intro x72 hx72
                  have hw := hw x72 hx72
                  refine g_aload_n X dL_parts_212 5 rfl ?_
                  refine g_iload X dL_parts_213 10 rfl ?_
                  refine g_iconst X (4 : Int32) dL_parts_215 (by decide) ?_
                  obtain ⟨hA73, hw⟩ := hw
                  refine g_calli (pc' := 219) (rest := [iV x72]) rfl (fun H locs ls d qR qL => g_runV X cw_L_30 iv_X5_part ⟨Nat.le_of_ble_eq_true rfl, Nat.le_of_ble_eq_true rfl⟩ dL_parts_216 (c_X5_part l E k M70 o0 a7 (4 : Int32) _ hw) hk33 rfl rfl (Nat.le_of_ble_eq_true rfl) hA73 qR qL) (fun x75 M74 hw => ?_)
                  refine g_widen (k := k - n) (z := SL k - SL n) (Nat.le_of_eq (Nat.add_zero _)) (Nat.le_of_eq (Nat.add_zero _)) ?_
                  suffices kk : ∀ x76 : Int32, x76 = (if x75 = 0 then (1 : Int32) else (0 : Int32)) → G E p l e rmL_parts s m args below meth c 13 k M74 (k - n) (SL k - SL n) (MQD lw_cs below (PI E (n + 2) K) args s rmL_parts.cells rmL_parts.slots (Ab E)) 227 [(5, iV x50), (11, dV z44), (10, iV x41), (9, iV x38), (8, iV x35), (0, rV o0), (1, rV o1), (2, rV o2), (3, lV b3), (6, iV a6), (7, iV a7)] [iV x76, iV x72] by
                    refine g_if_ne X 226 dL_parts_219 (by decide) ⟨fun h => h, fun h => h⟩ (fun hc => ?_) (fun hc => ?_)
                    · refine g_iconst X (0 : Int32) dL_parts_226 (by decide) ?_
                      exact kk _ (if_neg hc).symm
                    · refine g_iconst X (1 : Int32) dL_parts_222 (by decide) ?_
                      refine g_goto X 227 dL_parts_223 (by decide) ?_
                      exact kk _ (if_pos hc).symm
                  intro x76 hx76
                  have hw := hw x76 hx76
                  refine g_icmp_ne X 257 dL_parts_227 (by decide) hw (fun hw => ?_) (fun hw => ?_)
                  · refine g_iconst X (0 : Int32) dL_parts_257 (by decide) ?_
                    exact hw.elim
                  · refine g_aload_n X dL_parts_230 5 rfl ?_
                    refine g_iload X dL_parts_231 10 rfl ?_
                    refine g_iconst X (1 : Int32) dL_parts_233 (by decide) ?_
                    obtain ⟨hA77, hw⟩ := hw
                    refine g_calli (pc' := 237) (rest := []) rfl (fun H locs ls d qR qL => g_runV X cw_L_30 iv_X5_part ⟨Nat.le_of_ble_eq_true rfl, Nat.le_of_ble_eq_true rfl⟩ dL_parts_234 (c_X5_part l E k M74 o0 a7 (1 : Int32) _ hw) hk33 rfl rfl (Nat.le_of_ble_eq_true rfl) hA77 qR qL) (fun x79 M78 hw => ?_)
                    refine g_widen (k := k - n) (z := SL k - SL n) (Nat.le_of_eq (Nat.add_zero _)) (Nat.le_of_eq (Nat.add_zero _)) ?_
                    refine g_if_ne X 259 dL_parts_237 (by decide) hw (fun hw => ?_) (fun hw => ?_)
                    · refine g_lload_n X dL_parts_259 8 rfl ?_
                      refine g_iload X dL_parts_260 3 rfl ?_
                      suffices kk : ∀ y80 : Int64, y80 = (if x38 < 0 then (0 : Int64) else ((1 : Int64) <<< (Int32.toInt64 x38 &&& 63))) → G E p l e rmL_parts s m args below meth c 13 k M78 (k - n) (SL k - SL n) (MQD lw_cs below (PI E (n + 2) K) args s rmL_parts.cells rmL_parts.slots (Ab E)) 273 [(5, iV x50), (11, dV z44), (10, iV x41), (9, iV x38), (8, iV x35), (0, rV o0), (1, rV o1), (2, rV o2), (3, lV b3), (6, iV a6), (7, iV a7)] [lV y80, lV b3] by
                        refine g_if_lt X 272 dL_parts_262 (by decide) ⟨fun h => h, fun h => h⟩ (fun hc => ?_) (fun hc => ?_)
                        · refine g_lconst X (0 : Int64) dL_parts_272 (by decide) ?_
                          exact kk _ (if_pos hc).symm
                        · refine g_lconst X (1 : Int64) dL_parts_265 (by decide) ?_
                          refine g_iload X dL_parts_266 3 rfl ?_
                          refine g_lshl X dL_parts_268 ?_
                          refine g_goto X 273 dL_parts_269 (by decide) ?_
                          exact kk _ (if_neg hc).symm
                      intro y80 hy80
                      have hw := hw y80 hy80
                      refine g_lor X dL_parts_273 ?_
                      refine g_topJ (fun y81 hy81 => ?_)
                      have hw := hw y81 hy81
                      refine g_lstore_n (lv' := [(3, lV y81), (5, iV x50), (11, dV z44), (10, iV x41), (9, iV x38), (8, iV x35), (0, rV o0), (1, rV o1), (2, rV o2), (6, iV a6), (7, iV a7)]) X dL_parts_274 (by decide) rfl ?_
                      refine g_aload_n X dL_parts_275 8 rfl ?_
                      refine g_iload X dL_parts_276 3 rfl ?_
                      suffices kk : ∀ x82 : Int32, x82 = (if x41 ≤ 0 then (0 : Int32) else x41) → G E p l e rmL_parts s m args below meth c 13 k M78 (k - n) (SL k - SL n) (MQD lw_cs below (PI E (n + 2) K) args s rmL_parts.cells rmL_parts.slots (Ab E)) 287 [(3, lV y81), (5, iV x50), (11, dV z44), (10, iV x41), (9, iV x38), (8, iV x35), (0, rV o0), (1, rV o1), (2, rV o2), (6, iV a6), (7, iV a7)] [iV x82, rV o2] by
                        refine g_if_le X 286 dL_parts_278 (by decide) ⟨fun h => h, fun h => h⟩ (fun hc => ?_) (fun hc => ?_)
                        · refine g_iconst X (0 : Int32) dL_parts_286 (by decide) ?_
                          exact kk _ (if_pos hc).symm
                        · refine g_iload X dL_parts_281 3 rfl ?_
                          refine g_goto X 287 dL_parts_283 (by decide) ?_
                          exact kk _ (if_neg hc).symm
                      intro x82 hx82
                      have hw := hw x82 hx82
                      refine g_dup2 X dL_parts_287 rfl rfl ?_
                      refine g_iald X dL_parts_288 hw (fun hw => ?_)
                      refine g_topI (fun x83 hx83 => ?_)
                      have hw := hw x83 hx83
                      refine g_iconst X (1 : Int32) dL_parts_289 (by decide) ?_
                      refine g_iadd X dL_parts_290 ?_
                      refine g_iast X dL_parts_291 hw (fun hw => ?_)
                      refine g_topM (fun M84 hM84 => ?_)
                      have hw := hw M84 hM84
                      obtain ⟨x85, hx85⟩ : ∃ y : Int32, y = a7 + (1 : Int32) := ⟨_, rfl⟩
                      have hw := hw x85 hx85
                      refine g_iinc (lv' := [(7, iV x85), (3, lV y81), (5, iV x50), (11, dV z44), (10, iV x41), (9, iV x38), (8, iV x35), (0, rV o0), (1, rV o1), (2, rV o2), (6, iV a6)]) X x85 dL_parts_292 10 rfl (by rw [hx85]; rfl) (by decide) rfl ?_
                      refine g_goto X 24 dL_parts_295 (by decide) ?_
                      refine g_lvsub (lv' := [(0, rV o0), (1, rV o1), (2, rV o2), (3, lV y81), (5, iV x50), (6, iV a6), (7, iV x85)]) [7, 8, 9, 1, 2, 10, 0] rfl ?_
                      exact ih24 _ _ _ _ _ _ _ _ _ hw
                    · refine g_aload_n X dL_parts_240 5 rfl ?_
                      refine g_iload X dL_parts_241 10 rfl ?_
                      refine g_iconst X (4 : Int32) dL_parts_243 (by decide) ?_
                      obtain ⟨hA86, hw⟩ := hw
                      refine g_calli (pc' := 247) (rest := []) rfl (fun H locs ls d qR qL => g_runV X cw_L_30 iv_X5_part ⟨Nat.le_of_ble_eq_true rfl, Nat.le_of_ble_eq_true rfl⟩ dL_parts_244 (c_X5_part l E k M78 o0 a7 (4 : Int32) _ hw) hk33 rfl rfl (Nat.le_of_ble_eq_true rfl) hA86 qR qL) (fun x88 M87 hw => ?_)
                      refine g_widen (k := k - n) (z := SL k - SL n) (Nat.le_of_eq (Nat.add_zero _)) (Nat.le_of_eq (Nat.add_zero _)) ?_
                      refine g_if_le X 259 dL_parts_247 (by decide) hw (fun hw => ?_) (fun hw => ?_)
                      · refine g_lload_n X dL_parts_259 8 rfl ?_
                        refine g_iload X dL_parts_260 3 rfl ?_
                        suffices kk : ∀ y89 : Int64, y89 = (if x38 < 0 then (0 : Int64) else ((1 : Int64) <<< (Int32.toInt64 x38 &&& 63))) → G E p l e rmL_parts s m args below meth c 13 k M87 (k - n) (SL k - SL n) (MQD lw_cs below (PI E (n + 2) K) args s rmL_parts.cells rmL_parts.slots (Ab E)) 273 [(5, iV x50), (11, dV z44), (10, iV x41), (9, iV x38), (8, iV x35), (0, rV o0), (1, rV o1), (2, rV o2), (3, lV b3), (6, iV a6), (7, iV a7)] [lV y89, lV b3] by
                          refine g_if_lt X 272 dL_parts_262 (by decide) ⟨fun h => h, fun h => h⟩ (fun hc => ?_) (fun hc => ?_)
                          · refine g_lconst X (0 : Int64) dL_parts_272 (by decide) ?_
                            exact kk _ (if_pos hc).symm
                          · refine g_lconst X (1 : Int64) dL_parts_265 (by decide) ?_
                            refine g_iload X dL_parts_266 3 rfl ?_
                            refine g_lshl X dL_parts_268 ?_
                            refine g_goto X 273 dL_parts_269 (by decide) ?_
                            exact kk _ (if_neg hc).symm
                        intro y89 hy89
                        have hw := hw y89 hy89
                        refine g_lor X dL_parts_273 ?_
                        refine g_topJ (fun y90 hy90 => ?_)
                        have hw := hw y90 hy90
                        refine g_lstore_n (lv' := [(3, lV y90), (5, iV x50), (11, dV z44), (10, iV x41), (9, iV x38), (8, iV x35), (0, rV o0), (1, rV o1), (2, rV o2), (6, iV a6), (7, iV a7)]) X dL_parts_274 (by decide) rfl ?_
                        refine g_aload_n X dL_parts_275 8 rfl ?_
                        refine g_iload X dL_parts_276 3 rfl ?_
                        suffices kk : ∀ x91 : Int32, x91 = (if x41 ≤ 0 then (0 : Int32) else x41) → G E p l e rmL_parts s m args below meth c 13 k M87 (k - n) (SL k - SL n) (MQD lw_cs below (PI E (n + 2) K) args s rmL_parts.cells rmL_parts.slots (Ab E)) 287 [(3, lV y90), (5, iV x50), (11, dV z44), (10, iV x41), (9, iV x38), (8, iV x35), (0, rV o0), (1, rV o1), (2, rV o2), (6, iV a6), (7, iV a7)] [iV x91, rV o2] by
                          refine g_if_le X 286 dL_parts_278 (by decide) ⟨fun h => h, fun h => h⟩ (fun hc => ?_) (fun hc => ?_)
                          · refine g_iconst X (0 : Int32) dL_parts_286 (by decide) ?_
                            exact kk _ (if_pos hc).symm
                          · refine g_iload X dL_parts_281 3 rfl ?_
                            refine g_goto X 287 dL_parts_283 (by decide) ?_
                            exact kk _ (if_neg hc).symm
                        intro x91 hx91
                        have hw := hw x91 hx91
                        refine g_dup2 X dL_parts_287 rfl rfl ?_
                        refine g_iald X dL_parts_288 hw (fun hw => ?_)
                        refine g_topI (fun x92 hx92 => ?_)
                        have hw := hw x92 hx92
                        refine g_iconst X (1 : Int32) dL_parts_289 (by decide) ?_
                        refine g_iadd X dL_parts_290 ?_
                        refine g_iast X dL_parts_291 hw (fun hw => ?_)
                        refine g_topM (fun M93 hM93 => ?_)
                        have hw := hw M93 hM93
                        obtain ⟨x94, hx94⟩ : ∃ y : Int32, y = a7 + (1 : Int32) := ⟨_, rfl⟩
                        have hw := hw x94 hx94
                        refine g_iinc (lv' := [(7, iV x94), (3, lV y90), (5, iV x50), (11, dV z44), (10, iV x41), (9, iV x38), (8, iV x35), (0, rV o0), (1, rV o1), (2, rV o2), (6, iV a6)]) X x94 dL_parts_292 10 rfl (by rw [hx94]; rfl) (by decide) rfl ?_
                        refine g_goto X 24 dL_parts_295 (by decide) ?_
                        refine g_lvsub (lv' := [(0, rV o0), (1, rV o1), (2, rV o2), (3, lV y90), (5, iV x50), (6, iV a6), (7, iV x94)]) [7, 8, 9, 1, 2, 10, 0] rfl ?_
                        exact ih24 _ _ _ _ _ _ _ _ _ hw
                      · refine g_dload X dL_parts_250 1 rfl ?_
                        refine g_dconst0 X dL_parts_252 ?_
                        refine g_dcmp X dL_parts_253 ?_
                        refine g_if_eq X 259 dL_parts_254 (by decide) hw (fun hw => ?_) (fun hw => ?_)
                        · refine g_lload_n X dL_parts_259 8 rfl ?_
                          refine g_iload X dL_parts_260 3 rfl ?_
                          suffices kk : ∀ y95 : Int64, y95 = (if x38 < 0 then (0 : Int64) else ((1 : Int64) <<< (Int32.toInt64 x38 &&& 63))) → G E p l e rmL_parts s m args below meth c 13 k M87 (k - n) (SL k - SL n) (MQD lw_cs below (PI E (n + 2) K) args s rmL_parts.cells rmL_parts.slots (Ab E)) 273 [(5, iV x50), (11, dV z44), (10, iV x41), (9, iV x38), (8, iV x35), (0, rV o0), (1, rV o1), (2, rV o2), (3, lV b3), (6, iV a6), (7, iV a7)] [lV y95, lV b3] by
                            refine g_if_lt X 272 dL_parts_262 (by decide) ⟨fun h => h, fun h => h⟩ (fun hc => ?_) (fun hc => ?_)
                            · refine g_lconst X (0 : Int64) dL_parts_272 (by decide) ?_
                              exact kk _ (if_pos hc).symm
                            · refine g_lconst X (1 : Int64) dL_parts_265 (by decide) ?_
                              refine g_iload X dL_parts_266 3 rfl ?_
                              refine g_lshl X dL_parts_268 ?_
                              refine g_goto X 273 dL_parts_269 (by decide) ?_
                              exact kk _ (if_neg hc).symm
                          intro y95 hy95
                          have hw := hw y95 hy95
                          refine g_lor X dL_parts_273 ?_
                          refine g_topJ (fun y96 hy96 => ?_)
                          have hw := hw y96 hy96
                          refine g_lstore_n (lv' := [(3, lV y96), (5, iV x50), (11, dV z44), (10, iV x41), (9, iV x38), (8, iV x35), (0, rV o0), (1, rV o1), (2, rV o2), (6, iV a6), (7, iV a7)]) X dL_parts_274 (by decide) rfl ?_
                          refine g_aload_n X dL_parts_275 8 rfl ?_
                          refine g_iload X dL_parts_276 3 rfl ?_
                          suffices kk : ∀ x97 : Int32, x97 = (if x41 ≤ 0 then (0 : Int32) else x41) → G E p l e rmL_parts s m args below meth c 13 k M87 (k - n) (SL k - SL n) (MQD lw_cs below (PI E (n + 2) K) args s rmL_parts.cells rmL_parts.slots (Ab E)) 287 [(3, lV y96), (5, iV x50), (11, dV z44), (10, iV x41), (9, iV x38), (8, iV x35), (0, rV o0), (1, rV o1), (2, rV o2), (6, iV a6), (7, iV a7)] [iV x97, rV o2] by
                            refine g_if_le X 286 dL_parts_278 (by decide) ⟨fun h => h, fun h => h⟩ (fun hc => ?_) (fun hc => ?_)
                            · refine g_iconst X (0 : Int32) dL_parts_286 (by decide) ?_
                              exact kk _ (if_pos hc).symm
                            · refine g_iload X dL_parts_281 3 rfl ?_
                              refine g_goto X 287 dL_parts_283 (by decide) ?_
                              exact kk _ (if_neg hc).symm
                          intro x97 hx97
                          have hw := hw x97 hx97
                          refine g_dup2 X dL_parts_287 rfl rfl ?_
                          refine g_iald X dL_parts_288 hw (fun hw => ?_)
                          refine g_topI (fun x98 hx98 => ?_)
                          have hw := hw x98 hx98
                          refine g_iconst X (1 : Int32) dL_parts_289 (by decide) ?_
                          refine g_iadd X dL_parts_290 ?_
                          refine g_iast X dL_parts_291 hw (fun hw => ?_)
                          refine g_topM (fun M99 hM99 => ?_)
                          have hw := hw M99 hM99
                          obtain ⟨x100, hx100⟩ : ∃ y : Int32, y = a7 + (1 : Int32) := ⟨_, rfl⟩
                          have hw := hw x100 hx100
                          refine g_iinc (lv' := [(7, iV x100), (3, lV y96), (5, iV x50), (11, dV z44), (10, iV x41), (9, iV x38), (8, iV x35), (0, rV o0), (1, rV o1), (2, rV o2), (6, iV a6)]) X x100 dL_parts_292 10 rfl (by rw [hx100]; rfl) (by decide) rfl ?_
                          refine g_goto X 24 dL_parts_295 (by decide) ?_
                          refine g_lvsub (lv' := [(0, rV o0), (1, rV o1), (2, rV o2), (3, lV y96), (5, iV x50), (6, iV a6), (7, iV x100)]) [7, 8, 9, 1, 2, 10, 0] rfl ?_
                          exact ih24 _ _ _ _ _ _ _ _ _ hw
                        · refine g_iconst X (0 : Int32) dL_parts_257 (by decide) ?_
                          exact hw.elim
                · refine g_iconst X (0 : Int32) dL_parts_197 (by decide) ?_
                  exact hw.elim
  refine g_widen (k := n - n) (z := SL n - SL n) (Nat.zero_le _) (Nat.zero_le _) ?_
  unfold w_L_parts at hw
  refine g_iconst X (4 : Int32) dL_parts_0 (by decide) ?_
  refine g_newa X 7 4 dL_parts_1 (by decide) wa_int ⟨by decide, by decide⟩ hw (fun hw => ?_)
  refine g_topM (fun M1 hM1 => ?_)
  have hw := hw M1 hM1
  refine g_topR (fun r2 hr2 => ?_)
  have hw := hw r2 hr2
  refine g_astore_n (lv' := [(1, rV r2), (0, rV p1)]) X dL_parts_3 (by decide) rfl ?_
  refine g_bipush X (6 : Int32) dL_parts_4 (by decide) ?_
  refine g_newa X 7 6 dL_parts_6 (by decide) wa_int ⟨by decide, by decide⟩ hw (fun hw => ?_)
  refine g_topM (fun M3 hM3 => ?_)
  have hw := hw M3 hM3
  refine g_topR (fun r4 hr4 => ?_)
  have hw := hw r4 hr4
  refine g_astore_n (lv' := [(2, rV r4), (1, rV r2), (0, rV p1)]) X dL_parts_8 (by decide) rfl ?_
  refine g_lconst X (0 : Int64) dL_parts_9 (by decide) ?_
  refine g_lstore_n (lv' := [(3, lV (0 : Int64)), (2, rV r4), (1, rV r2), (0, rV p1)]) X dL_parts_10 (by decide) rfl ?_
  refine g_iconst X (0 : Int32) dL_parts_11 (by decide) ?_
  refine g_istore (lv' := [(5, iV (0 : Int32)), (3, lV (0 : Int64)), (2, rV r4), (1, rV r2), (0, rV p1)]) X dL_parts_12 (by decide) rfl ?_
  refine g_aload_n X dL_parts_14 4 rfl ?_
  refine g_iconst X (2 : Int32) dL_parts_15 (by decide) ?_
  obtain ⟨hA5, hw⟩ := hw
  obtain ⟨hk6, hw⟩ := hw
  refine g_calli (pc' := 19) (rest := []) rfl (fun H locs ls d qR qL => g_runV X cw_L_13 iv_X5_count ⟨Nat.le_of_ble_eq_true rfl, Nat.le_of_ble_eq_true rfl⟩ dL_parts_16 (c_X5_count l E (n + 1 + 1) M3 p1 (2 : Int32) _ hw) hk6 rfl rfl (Nat.le_of_ble_eq_true rfl) hA5 qR qL) (fun x8 M7 hw => ?_)
  refine g_widen (k := (n + 1 + 1) - n) (z := SL (n + 1 + 1) - SL n) (Nat.le_of_eq (Nat.add_zero _)) (Nat.le_of_eq (Nat.add_zero _)) ?_
  refine g_istore (lv' := [(6, iV x8), (5, iV (0 : Int32)), (3, lV (0 : Int64)), (2, rV r4), (1, rV r2), (0, rV p1)]) X dL_parts_19 (by decide) rfl ?_
  refine g_iconst X (0 : Int32) dL_parts_21 (by decide) ?_
  refine g_istore (lv' := [(7, iV (0 : Int32)), (6, iV x8), (5, iV (0 : Int32)), (3, lV (0 : Int64)), (2, rV r4), (1, rV r2), (0, rV p1)]) X dL_parts_22 (by decide) rfl ?_
  refine g_lvsub (lv' := [(0, rV p1), (1, rV r2), (2, rV r4), (3, lV (0 : Int64)), (5, iV (0 : Int32)), (6, iV x8), (7, iV (0 : Int32))]) [6, 5, 4, 3, 2, 1, 0] rfl ?_
  exact L24 _ _ _ _ _ _ _ _ _ _ hw
theorem dL_traces_0 : decode cL_traces 0 = .ok (.aload_n 0, 1) := by decide +kernel
theorem dL_traces_1 : decode cL_traces 1 = .ok (.iload_n 1, 1) := by decide +kernel
theorem dL_traces_2 : decode cL_traces 2 = .ok (.iconst 3, 1) := by decide +kernel
theorem dL_traces_3 : decode cL_traces 3 = .ok (.invokevirtual 23, 3) := by decide +kernel
theorem dL_traces_6 : decode cL_traces 6 = .ok (.istore_n 2, 1) := by decide +kernel
theorem dL_traces_7 : decode cL_traces 7 = .ok (.aload_n 0, 1) := by decide +kernel
theorem dL_traces_8 : decode cL_traces 8 = .ok (.iconst 0, 1) := by decide +kernel
theorem dL_traces_9 : decode cL_traces 9 = .ok (.invokevirtual 13, 3) := by decide +kernel
theorem dL_traces_12 : decode cL_traces 12 = .ok (.istore_n 3, 1) := by decide +kernel
theorem dL_traces_13 : decode cL_traces 13 = .ok (.aload_n 0, 1) := by decide +kernel
theorem dL_traces_14 : decode cL_traces 14 = .ok (.iload_n 1, 1) := by decide +kernel
theorem dL_traces_15 : decode cL_traces 15 = .ok (.bipush 8, 2) := by decide +kernel
theorem dL_traces_17 : decode cL_traces 17 = .ok (.invokevirtual 23, 3) := by decide +kernel
theorem dL_traces_20 : decode cL_traces 20 = .ok (.istore 4, 2) := by decide +kernel
theorem dL_traces_22 : decode cL_traces 22 = .ok (.aload_n 0, 1) := by decide +kernel
theorem dL_traces_23 : decode cL_traces 23 = .ok (.iload_n 1, 1) := by decide +kernel
theorem dL_traces_24 : decode cL_traces 24 = .ok (.iconst 0, 1) := by decide +kernel
theorem dL_traces_25 : decode cL_traces 25 = .ok (.invokevirtual 37, 3) := by decide +kernel
theorem dL_traces_28 : decode cL_traces 28 = .ok (.dstore 5, 2) := by decide +kernel
theorem dL_traces_30 : decode cL_traces 30 = .ok (.iload 4, 2) := by decide +kernel
theorem dL_traces_32 : decode cL_traces 32 = .ok (.iload_n 1, 1) := by decide +kernel
theorem dL_traces_33 : decode cL_traces 33 = .ok (.bipush 64, 2) := by decide +kernel
theorem dL_traces_35 : decode cL_traces 35 = .ok (.iload_n 3, 1) := by decide +kernel
theorem dL_traces_36 : decode cL_traces 36 = .ok (.imul, 1) := by decide +kernel
theorem dL_traces_37 : decode cL_traces 37 = .ok (.iadd, 1) := by decide +kernel
theorem dL_traces_38 : decode cL_traces 38 = .ok (.aload_n 0, 1) := by decide +kernel
theorem dL_traces_39 : decode cL_traces 39 = .ok (.iconst 1, 1) := by decide +kernel
theorem dL_traces_40 : decode cL_traces 40 = .ok (.invokevirtual 13, 3) := by decide +kernel
theorem dL_traces_43 : decode cL_traces 43 = .ok (.iload_n 3, 1) := by decide +kernel
theorem dL_traces_44 : decode cL_traces 44 = .ok (.irem, 1) := by decide +kernel
theorem dL_traces_45 : decode cL_traces 45 = .ok (.isub, 1) := by decide +kernel
theorem dL_traces_46 : decode cL_traces 46 = .ok (.iload_n 3, 1) := by decide +kernel
theorem dL_traces_47 : decode cL_traces 47 = .ok (.irem, 1) := by decide +kernel
theorem dL_traces_48 : decode cL_traces 48 = .ok (.if_icmp .eq 5, 3) := by decide +kernel
theorem dL_traces_51 : decode cL_traces 51 = .ok (.iconst 0, 1) := by decide +kernel
theorem dL_traces_52 : decode cL_traces 52 = .ok (.ireturn, 1) := by decide +kernel
theorem dL_traces_53 : decode cL_traces 53 = .ok (.iload_n 2, 1) := by decide +kernel
theorem dL_traces_54 : decode cL_traces 54 = .ok (.ifCond .ge 43, 3) := by decide +kernel
theorem dL_traces_57 : decode cL_traces 57 = .ok (.aload_n 0, 1) := by decide +kernel
theorem dL_traces_58 : decode cL_traces 58 = .ok (.iload_n 1, 1) := by decide +kernel
theorem dL_traces_59 : decode cL_traces 59 = .ok (.iconst 3, 1) := by decide +kernel
theorem dL_traces_60 : decode cL_traces 60 = .ok (.invokevirtual 41, 3) := by decide +kernel
theorem dL_traces_63 : decode cL_traces 63 = .ok (.dstore 7, 2) := by decide +kernel
theorem dL_traces_65 : decode cL_traces 65 = .ok (.dload 5, 2) := by decide +kernel
theorem dL_traces_67 : decode cL_traces 67 = .ok (.dload 5, 2) := by decide +kernel
theorem dL_traces_69 : decode cL_traces 69 = .ok (.dcmp .l, 1) := by decide +kernel
theorem dL_traces_70 : decode cL_traces 70 = .ok (.ifCond .eq 25, 3) := by decide +kernel
theorem dL_traces_73 : decode cL_traces 73 = .ok (.dload 7, 2) := by decide +kernel
theorem dL_traces_75 : decode cL_traces 75 = .ok (.dload 7, 2) := by decide +kernel
theorem dL_traces_77 : decode cL_traces 77 = .ok (.dcmp .l, 1) := by decide +kernel
theorem dL_traces_78 : decode cL_traces 78 = .ok (.ifCond .eq 17, 3) := by decide +kernel
theorem dL_traces_81 : decode cL_traces 81 = .ok (.aload_n 0, 1) := by decide +kernel
theorem dL_traces_82 : decode cL_traces 82 = .ok (.iload_n 1, 1) := by decide +kernel
theorem dL_traces_83 : decode cL_traces 83 = .ok (.invokevirtual 27, 3) := by decide +kernel
theorem dL_traces_86 : decode cL_traces 86 = .ok (.bipush (-5), 2) := by decide +kernel
theorem dL_traces_88 : decode cL_traces 88 = .ok (.if_icmp .ne 7, 3) := by decide +kernel
theorem dL_traces_91 : decode cL_traces 91 = .ok (.iconst 1, 1) := by decide +kernel
theorem dL_traces_92 : decode cL_traces 92 = .ok (.goto 4, 3) := by decide +kernel
theorem dL_traces_95 : decode cL_traces 95 = .ok (.iconst 0, 1) := by decide +kernel
theorem dL_traces_96 : decode cL_traces 96 = .ok (.ireturn, 1) := by decide +kernel
theorem dL_traces_97 : decode cL_traces 97 = .ok (.aload_n 0, 1) := by decide +kernel
theorem dL_traces_98 : decode cL_traces 98 = .ok (.iload_n 2, 1) := by decide +kernel
theorem dL_traces_99 : decode cL_traces 99 = .ok (.iconst 1, 1) := by decide +kernel
theorem dL_traces_100 : decode cL_traces 100 = .ok (.invokevirtual 30, 3) := by decide +kernel
theorem dL_traces_103 : decode cL_traces 103 = .ok (.istore 7, 2) := by decide +kernel
theorem dL_traces_105 : decode cL_traces 105 = .ok (.ldc2_w 44, 3) := by decide +kernel
theorem dL_traces_108 : decode cL_traces 108 = .ok (.aload_n 0, 1) := by decide +kernel
theorem dL_traces_109 : decode cL_traces 109 = .ok (.iload_n 2, 1) := by decide +kernel
theorem dL_traces_110 : decode cL_traces 110 = .ok (.iconst 2, 1) := by decide +kernel
theorem dL_traces_111 : decode cL_traces 111 = .ok (.invokevirtual 30, 3) := by decide +kernel
theorem dL_traces_114 : decode cL_traces 114 = .ok (.i2d, 1) := by decide +kernel
theorem dL_traces_115 : decode cL_traces 115 = .ok (.dmul, 1) := by decide +kernel
theorem dL_traces_116 : decode cL_traces 116 = .ok (.dstore 8, 2) := by decide +kernel
theorem dL_traces_118 : decode cL_traces 118 = .ok (.aload_n 0, 1) := by decide +kernel
theorem dL_traces_119 : decode cL_traces 119 = .ok (.iload_n 1, 1) := by decide +kernel
theorem dL_traces_120 : decode cL_traces 120 = .ok (.iconst 2, 1) := by decide +kernel
theorem dL_traces_121 : decode cL_traces 121 = .ok (.invokevirtual 41, 3) := by decide +kernel
theorem dL_traces_124 : decode cL_traces 124 = .ok (.dstore 10, 2) := by decide +kernel
theorem dL_traces_126 : decode cL_traces 126 = .ok (.aload_n 0, 1) := by decide +kernel
theorem dL_traces_127 : decode cL_traces 127 = .ok (.iload_n 2, 1) := by decide +kernel
theorem dL_traces_128 : decode cL_traces 128 = .ok (.iconst 3, 1) := by decide +kernel
theorem dL_traces_129 : decode cL_traces 129 = .ok (.invokevirtual 30, 3) := by decide +kernel
theorem dL_traces_132 : decode cL_traces 132 = .ok (.iconst 1, 1) := by decide +kernel
theorem dL_traces_133 : decode cL_traces 133 = .ok (.if_icmp .ne 21, 3) := by decide +kernel
theorem dL_traces_136 : decode cL_traces 136 = .ok (.dload 5, 2) := by decide +kernel
theorem dL_traces_138 : decode cL_traces 138 = .ok (.dload 10, 2) := by decide +kernel
theorem dL_traces_140 : decode cL_traces 140 = .ok (.dcmp .l, 1) := by decide +kernel
theorem dL_traces_141 : decode cL_traces 141 = .ok (.ifCond .ne 13, 3) := by decide +kernel
theorem dL_traces_144 : decode cL_traces 144 = .ok (.aload_n 0, 1) := by decide +kernel
theorem dL_traces_145 : decode cL_traces 145 = .ok (.iload_n 1, 1) := by decide +kernel
theorem dL_traces_146 : decode cL_traces 146 = .ok (.invokevirtual 27, 3) := by decide +kernel
theorem dL_traces_149 : decode cL_traces 149 = .ok (.bipush (-5), 2) := by decide +kernel
theorem dL_traces_151 : decode cL_traces 151 = .ok (.if_icmp .ne 5, 3) := by decide +kernel
theorem dL_traces_154 : decode cL_traces 154 = .ok (.iconst 0, 1) := by decide +kernel
theorem dL_traces_155 : decode cL_traces 155 = .ok (.ireturn, 1) := by decide +kernel
theorem dL_traces_156 : decode cL_traces 156 = .ok (.iconst 1, 1) := by decide +kernel
theorem dL_traces_157 : decode cL_traces 157 = .ok (.istore 12, 2) := by decide +kernel
theorem dL_traces_159 : decode cL_traces 159 = .ok (.iload 12, 2) := by decide +kernel
theorem dL_traces_161 : decode cL_traces 161 = .ok (.iload_n 3, 1) := by decide +kernel
theorem dL_traces_162 : decode cL_traces 162 = .ok (.iload 4, 2) := by decide +kernel
theorem dL_traces_164 : decode cL_traces 164 = .ok (.isub, 1) := by decide +kernel
theorem dL_traces_165 : decode cL_traces 165 = .ok (.if_icmp .ge 53, 3) := by decide +kernel
theorem dL_traces_168 : decode cL_traces 168 = .ok (.dload 10, 2) := by decide +kernel
theorem dL_traces_170 : decode cL_traces 170 = .ok (.dload 10, 2) := by decide +kernel
theorem dL_traces_172 : decode cL_traces 172 = .ok (.iload 7, 2) := by decide +kernel
theorem dL_traces_174 : decode cL_traces 174 = .ok (.i2d, 1) := by decide +kernel
theorem dL_traces_175 : decode cL_traces 175 = .ok (.dmul, 1) := by decide +kernel
theorem dL_traces_176 : decode cL_traces 176 = .ok (.dload 8, 2) := by decide +kernel
theorem dL_traces_178 : decode cL_traces 178 = .ok (.ddiv, 1) := by decide +kernel
theorem dL_traces_179 : decode cL_traces 179 = .ok (.dsub, 1) := by decide +kernel
theorem dL_traces_180 : decode cL_traces 180 = .ok (.dstore 10, 2) := by decide +kernel
theorem dL_traces_182 : decode cL_traces 182 = .ok (.dload 10, 2) := by decide +kernel
theorem dL_traces_184 : decode cL_traces 184 = .ok (.dconst 0, 1) := by decide +kernel
theorem dL_traces_185 : decode cL_traces 185 = .ok (.dcmp .g, 1) := by decide +kernel
theorem dL_traces_186 : decode cL_traces 186 = .ok (.ifCond .ge 7, 3) := by decide +kernel
theorem dL_traces_189 : decode cL_traces 189 = .ok (.dconst 0, 1) := by decide +kernel
theorem dL_traces_190 : decode cL_traces 190 = .ok (.goto 5, 3) := by decide +kernel
theorem dL_traces_193 : decode cL_traces 193 = .ok (.dload 10, 2) := by decide +kernel
theorem dL_traces_195 : decode cL_traces 195 = .ok (.dstore 10, 2) := by decide +kernel
theorem dL_traces_197 : decode cL_traces 197 = .ok (.aload_n 0, 1) := by decide +kernel
theorem dL_traces_198 : decode cL_traces 198 = .ok (.iload_n 1, 1) := by decide +kernel
theorem dL_traces_199 : decode cL_traces 199 = .ok (.iload 12, 2) := by decide +kernel
theorem dL_traces_201 : decode cL_traces 201 = .ok (.invokevirtual 37, 3) := by decide +kernel
theorem dL_traces_204 : decode cL_traces 204 = .ok (.dload 10, 2) := by decide +kernel
theorem dL_traces_206 : decode cL_traces 206 = .ok (.dcmp .l, 1) := by decide +kernel
theorem dL_traces_207 : decode cL_traces 207 = .ok (.ifCond .eq 5, 3) := by decide +kernel
theorem dL_traces_210 : decode cL_traces 210 = .ok (.iconst 0, 1) := by decide +kernel
theorem dL_traces_211 : decode cL_traces 211 = .ok (.ireturn, 1) := by decide +kernel
theorem dL_traces_212 : decode cL_traces 212 = .ok (.iinc 12 1, 3) := by decide +kernel
theorem dL_traces_215 : decode cL_traces 215 = .ok (.goto (-56), 3) := by decide +kernel
theorem dL_traces_218 : decode cL_traces 218 = .ok (.aload_n 0, 1) := by decide +kernel
theorem dL_traces_219 : decode cL_traces 219 = .ok (.iload_n 1, 1) := by decide +kernel
theorem dL_traces_220 : decode cL_traces 220 = .ok (.iload_n 3, 1) := by decide +kernel
theorem dL_traces_221 : decode cL_traces 221 = .ok (.iload 4, 2) := by decide +kernel
theorem dL_traces_223 : decode cL_traces 223 = .ok (.isub, 1) := by decide +kernel
theorem dL_traces_224 : decode cL_traces 224 = .ok (.invokevirtual 37, 3) := by decide +kernel
theorem dL_traces_227 : decode cL_traces 227 = .ok (.dstore 12, 2) := by decide +kernel
theorem dL_traces_229 : decode cL_traces 229 = .ok (.aload_n 0, 1) := by decide +kernel
theorem dL_traces_230 : decode cL_traces 230 = .ok (.iload_n 1, 1) := by decide +kernel
theorem dL_traces_231 : decode cL_traces 231 = .ok (.iconst (-1), 1) := by decide +kernel
theorem dL_traces_232 : decode cL_traces 232 = .ok (.invokevirtual 37, 3) := by decide +kernel
theorem dL_traces_235 : decode cL_traces 235 = .ok (.dstore 14, 2) := by decide +kernel
theorem dL_traces_237 : decode cL_traces 237 = .ok (.dload 10, 2) := by decide +kernel
theorem dL_traces_239 : decode cL_traces 239 = .ok (.aload_n 0, 1) := by decide +kernel
theorem dL_traces_240 : decode cL_traces 240 = .ok (.iload_n 1, 1) := by decide +kernel
theorem dL_traces_241 : decode cL_traces 241 = .ok (.iconst 3, 1) := by decide +kernel
theorem dL_traces_242 : decode cL_traces 242 = .ok (.invokevirtual 41, 3) := by decide +kernel
theorem dL_traces_245 : decode cL_traces 245 = .ok (.dcmp .l, 1) := by decide +kernel
theorem dL_traces_246 : decode cL_traces 246 = .ok (.ifCond .ne 23, 3) := by decide +kernel
theorem dL_traces_249 : decode cL_traces 249 = .ok (.dload 12, 2) := by decide +kernel
theorem dL_traces_251 : decode cL_traces 251 = .ok (.dload 12, 2) := by decide +kernel
theorem dL_traces_253 : decode cL_traces 253 = .ok (.dcmp .l, 1) := by decide +kernel
theorem dL_traces_254 : decode cL_traces 254 = .ok (.ifCond .eq 15, 3) := by decide +kernel
theorem dL_traces_257 : decode cL_traces 257 = .ok (.dload 14, 2) := by decide +kernel
theorem dL_traces_259 : decode cL_traces 259 = .ok (.dload 14, 2) := by decide +kernel
theorem dL_traces_261 : decode cL_traces 261 = .ok (.dcmp .l, 1) := by decide +kernel
theorem dL_traces_262 : decode cL_traces 262 = .ok (.ifCond .eq 7, 3) := by decide +kernel
theorem dL_traces_265 : decode cL_traces 265 = .ok (.iconst 1, 1) := by decide +kernel
theorem dL_traces_266 : decode cL_traces 266 = .ok (.goto 4, 3) := by decide +kernel
theorem dL_traces_269 : decode cL_traces 269 = .ok (.iconst 0, 1) := by decide +kernel
theorem dL_traces_270 : decode cL_traces 270 = .ok (.ireturn, 1) := by decide +kernel
abbrev rmL_traces : Room := { frames := 2, cells := 0, slots := 0, locals := 53 }
def w_L_traces_L159 (n : Nat) (K : Int32 → Mem → Prop) : Nat → Mem → Nat → Int32 → Int32 → Int32 → Int32 → UInt64 → UInt64 → Int32 → Prop
  | 0, _, _, _, _, _, _, _, _, _ => False
  | fuel + 1, M, o0, a1, a3, a4, a7, g8, g10, a12 => (((a3 - a4) ≤ a12 → ((o0 ≤ n ∧ kd o0 = (5, 0)) ∧ w_X5_trace n M o0 a1 (a3 - a4) (fun z27 M26 => w_X5_trace n M26 o0 a1 (-1 : Int32) (fun z29 M28 => w_X5_gauge n M28 o0 a1 (3 : Int32) (fun z31 M30 => ((¬ (Op.cmpValue (FP.dcmp g10 z31) CmpOp.l) = 0 → K (0 : Int32) M30) ∧ ((Op.cmpValue (FP.dcmp g10 z31) CmpOp.l) = 0 → (((Op.cmpValue (FP.dcmp z27 z27) CmpOp.l) = 0 → K (0 : Int32) M30) ∧ (¬ (Op.cmpValue (FP.dcmp z27 z27) CmpOp.l) = 0 → (((Op.cmpValue (FP.dcmp z29 z29) CmpOp.l) = 0 → K (0 : Int32) M30) ∧ (¬ (Op.cmpValue (FP.dcmp z29 z29) CmpOp.l) = 0 → K (1 : Int32) M30))))))))))) ∧ (¬ (a3 - a4) ≤ a12 → (vf_n64 (FP.dmul g10 (FP.i2d a7)) ∧ (∀ z32, z32 = FP.dmul g10 (FP.i2d a7) → (vf_n64 (FP.ddiv z32 g8) ∧ (∀ z33, z33 = FP.ddiv z32 g8 → (vf_n64 (FP.dsub g10 z33) ∧ (∀ z34, z34 = FP.dsub g10 z33 → (∀ z35 : UInt64, z35 = (if 0 ≤ (Op.cmpValue (FP.dcmp z34 FP.dconst0) CmpOp.g) then z34 else FP.dconst0) → ((o0 ≤ n ∧ kd o0 = (5, 0)) ∧ w_X5_trace n M o0 a1 a12 (fun z38 M37 => (((Op.cmpValue (FP.dcmp z38 z35) CmpOp.l) = 0 → (∀ x39, x39 = a12 + (1 : Int32) → w_L_traces_L159 n K fuel M37 o0 a1 a3 a4 a7 g8 z35 x39)) ∧ (¬ (Op.cmpValue (FP.dcmp z38 z35) CmpOp.l) = 0 → K (0 : Int32) M37)))))))))))))
def w_L_traces (n : Nat) (M : Mem) (p1 : Nat) (p2 : Int32) (K : Int32 → Mem → Prop) : Prop := ((p1 ≤ n ∧ kd p1 = (5, 0)) ∧ w_X5_head n M p1 p2 (3 : Int32) (fun x3 M2 => w_X5_count n M2 p1 (0 : Int32) (fun x5 M4 => w_X5_head n M4 p1 p2 (8 : Int32) (fun x7 M6 => w_X5_trace n M6 p1 p2 (0 : Int32) (fun z9 M8 => w_X5_count n M8 p1 (1 : Int32) (fun x11 M10 => (¬ x5 = 0 ∧ (∀ x12, x12 = x11 - x11 / x5 * x5 → (¬ x5 = 0 ∧ (∀ x13, x13 = ((p2 + ((64 : Int32) * x5)) - x12) - ((p2 + ((64 : Int32) * x5)) - x12) / x5 * x5 → ((x7 = x13 → ((0 ≤ x3 → w_X5_part n M10 p1 x3 (1 : Int32) (fun x15 M14 => w_X5_part n M14 p1 x3 (2 : Int32) (fun x17 M16 => (vf_n64 (FP.dmul (4652007308841189376 : UInt64) (FP.i2d x17)) ∧ (∀ z18, z18 = FP.dmul (4652007308841189376 : UInt64) (FP.i2d x17) → w_X5_gauge n M16 p1 p2 (2 : Int32) (fun z20 M19 => w_X5_part n M19 p1 x3 (3 : Int32) (fun x22 M21 => ((¬ x22 = (1 : Int32) → K (0 : Int32) M21) ∧ (x22 = (1 : Int32) → ((¬ (Op.cmpValue (FP.dcmp z9 z20) CmpOp.l) = 0 → K (0 : Int32) M21) ∧ ((Op.cmpValue (FP.dcmp z9 z20) CmpOp.l) = 0 → w_X5_display n M21 p1 p2 (fun x24 M23 => ((¬ x24 = (-5 : Int32) → w_L_traces_L159 n K 4000 M23 p1 p2 x5 x7 x15 z18 z20 (1 : Int32)) ∧ (x24 = (-5 : Int32) → K (0 : Int32) M23)))))))))))))) ∧ (¬ 0 ≤ x3 → w_X5_gauge n M10 p1 p2 (3 : Int32) (fun z41 M40 => (((Op.cmpValue (FP.dcmp z9 z9) CmpOp.l) = 0 → K (0 : Int32) M40) ∧ (¬ (Op.cmpValue (FP.dcmp z9 z9) CmpOp.l) = 0 → (((Op.cmpValue (FP.dcmp z41 z41) CmpOp.l) = 0 → K (0 : Int32) M40) ∧ (¬ (Op.cmpValue (FP.dcmp z41 z41) CmpOp.l) = 0 → w_X5_display n M40 p1 p2 (fun x43 M42 => ((¬ x43 = (-5 : Int32) → K (0 : Int32) M42) ∧ (x43 = (-5 : Int32) → K (1 : Int32) M42))))))))))) ∧ (¬ x7 = x13 → K (0 : Int32) M10))))))))))))
set_option maxHeartbeats 4000000 in
set_option maxRecDepth 20000 in
theorem c_L_traces (l : Launch) (E : Gl) (n : Nat) (M : Mem) (p1 : Nat) (p2 : Int32) (K : Int32 → Mem → Prop) (hw : w_L_traces n M p1 p2 K) : CT E l yL_traces cL_traces 16 (some .boolean) rmL_traces n M [rV p1, iV p2] (PI E n K) := by
  refine g_met l (by decide) (Nat.le_of_ble_eq_true rfl) ?_
  intro p e s m args below meth c X hr hlk hnm hSz hOld
  change CX E p s m c _ _ RL at X
  have L159 : ∀ (fuel159 : Nat) (M : Mem) (o0 : Nat) (a1 : Int32) (a3 : Int32) (a4 : Int32) (a7 : Int32) (g8 : UInt64) (g10 : UInt64) (a12 : Int32), w_L_traces_L159 n K fuel159 M o0 a1 a3 a4 a7 g8 g10 a12 → G E p l e rmL_traces s m args below meth c 16 n M 0 0 (MQD lw_cs below (PI E n K) args s rmL_traces.cells rmL_traces.slots (Ab E)) 159 [(0, rV o0), (1, iV a1), (3, iV a3), (4, iV a4), (7, iV a7), (8, dV g8), (10, dV g10), (12, iV a12)] [] := by
    intro fuel159
    induction fuel159 with
    | zero => intro M o0 a1 a3 a4 a7 g8 g10 a12 hw; exact False.elim hw
    | succ fuel159 ih159 =>
      intro M o0 a1 a3 a4 a7 g8 g10 a12 hw
      unfold w_L_traces_L159 at hw
      refine g_iload X dL_traces_159 7 rfl ?_
      refine g_iload_n X dL_traces_161 2 rfl ?_
      refine g_iload X dL_traces_162 3 rfl ?_
      refine g_isub X dL_traces_164 ?_
      refine g_icmp_ge X 218 dL_traces_165 (by decide) hw (fun hw => ?_) (fun hw => ?_)
      · refine g_aload_n X dL_traces_218 0 rfl ?_
        refine g_iload_n X dL_traces_219 1 rfl ?_
        refine g_iload_n X dL_traces_220 2 rfl ?_
        refine g_iload X dL_traces_221 3 rfl ?_
        refine g_isub X dL_traces_223 ?_
        obtain ⟨hk25, hw⟩ := hw
        refine g_calld (pc' := 227) (rest := []) rfl (fun H locs ls d qR qL => g_runV X cw_L_37 iv_X5_trace ⟨Nat.le_of_ble_eq_true rfl, Nat.le_of_ble_eq_true rfl⟩ dL_traces_224 (c_X5_trace l E n M o0 a1 (a3 - a4) _ hw) hk25 rfl rfl (Nat.le_of_ble_eq_true rfl) ⟨Nat.le_of_ble_eq_true rfl, Nat.le_of_ble_eq_true rfl⟩ qR qL) (fun z27 M26 hw => ?_)
        refine g_dstore (lv' := [(12, dV z27), (0, rV o0), (1, iV a1), (3, iV a3), (4, iV a4), (7, iV a7), (8, dV g8), (10, dV g10)]) X dL_traces_227 (by decide) rfl ?_
        refine g_aload_n X dL_traces_229 1 rfl ?_
        refine g_iload_n X dL_traces_230 2 rfl ?_
        refine g_iconst X (-1 : Int32) dL_traces_231 (by decide) ?_
        refine g_calld (pc' := 235) (rest := []) rfl (fun H locs ls d qR qL => g_runV X cw_L_37 iv_X5_trace ⟨Nat.le_of_ble_eq_true rfl, Nat.le_of_ble_eq_true rfl⟩ dL_traces_232 (c_X5_trace l E n M26 o0 a1 (-1 : Int32) _ hw) hk25 rfl rfl (Nat.le_of_ble_eq_true rfl) ⟨Nat.le_of_ble_eq_true rfl, Nat.le_of_ble_eq_true rfl⟩ qR qL) (fun z29 M28 hw => ?_)
        refine g_dstore (lv' := [(14, dV z29), (12, dV z27), (0, rV o0), (1, iV a1), (3, iV a3), (4, iV a4), (7, iV a7), (8, dV g8), (10, dV g10)]) X dL_traces_235 (by decide) rfl ?_
        refine g_dload X dL_traces_237 8 rfl ?_
        refine g_aload_n X dL_traces_239 2 rfl ?_
        refine g_iload_n X dL_traces_240 3 rfl ?_
        refine g_iconst X (3 : Int32) dL_traces_241 (by decide) ?_
        refine g_calld (pc' := 245) (rest := [dV g10]) rfl (fun H locs ls d qR qL => g_runV X cw_L_41 iv_X5_gauge ⟨Nat.le_of_ble_eq_true rfl, Nat.le_of_ble_eq_true rfl⟩ dL_traces_242 (c_X5_gauge l E n M28 o0 a1 (3 : Int32) _ hw) hk25 rfl rfl (Nat.le_of_ble_eq_true rfl) ⟨Nat.le_of_ble_eq_true rfl, Nat.le_of_ble_eq_true rfl⟩ qR qL) (fun z31 M30 hw => ?_)
        refine g_dcmp X dL_traces_245 ?_
        refine g_if_ne X 269 dL_traces_246 (by decide) hw (fun hw => ?_) (fun hw => ?_)
        · refine g_iconst X (0 : Int32) dL_traces_269 (by decide) ?_
          exact g_zret X hr hlk hSz hOld (Nat.le_refl _) dL_traces_270 ⟨rfl, hw⟩
        · refine g_dload X dL_traces_249 1 rfl ?_
          refine g_dload X dL_traces_251 1 rfl ?_
          refine g_dcmp X dL_traces_253 ?_
          refine g_if_eq X 269 dL_traces_254 (by decide) hw (fun hw => ?_) (fun hw => ?_)
          · refine g_iconst X (0 : Int32) dL_traces_269 (by decide) ?_
            exact g_zret X hr hlk hSz hOld (Nat.le_refl _) dL_traces_270 ⟨rfl, hw⟩
          · refine g_dload X dL_traces_257 0 rfl ?_
            refine g_dload X dL_traces_259 0 rfl ?_
            refine g_dcmp X dL_traces_261 ?_
            refine g_if_eq X 269 dL_traces_262 (by decide) hw (fun hw => ?_) (fun hw => ?_)
            · refine g_iconst X (0 : Int32) dL_traces_269 (by decide) ?_
              exact g_zret X hr hlk hSz hOld (Nat.le_refl _) dL_traces_270 ⟨rfl, hw⟩
            · refine g_iconst X (1 : Int32) dL_traces_265 (by decide) ?_
              refine g_goto X 270 dL_traces_266 (by decide) ?_
              exact g_zret X hr hlk hSz hOld (Nat.le_refl _) dL_traces_270 ⟨rfl, hw⟩
      · refine g_dload X dL_traces_168 6 rfl ?_
        refine g_dload X dL_traces_170 6 rfl ?_
        refine g_iload X dL_traces_172 4 rfl ?_
        refine g_i2d X dL_traces_174 ?_
        refine g_dmul X dL_traces_175 hw (fun hw => ?_)
        refine g_topD (fun z32 hz32 => ?_)
        have hw := hw z32 hz32
        refine g_dload X dL_traces_176 5 rfl ?_
        refine g_ddiv X dL_traces_178 hw (fun hw => ?_)
        refine g_topD (fun z33 hz33 => ?_)
        have hw := hw z33 hz33
        refine g_dsub X dL_traces_179 hw (fun hw => ?_)
        refine g_topD (fun z34 hz34 => ?_)
        have hw := hw z34 hz34
        refine g_dstore (lv' := [(10, dV z34), (0, rV o0), (1, iV a1), (3, iV a3), (4, iV a4), (7, iV a7), (8, dV g8), (12, iV a12)]) X dL_traces_180 (by decide) rfl ?_
        refine g_dload X dL_traces_182 0 rfl ?_
        refine g_dconst0 X dL_traces_184 ?_
        refine g_dcmp X dL_traces_185 ?_
        suffices kk : ∀ z35 : UInt64, z35 = (if 0 ≤ (Op.cmpValue (FP.dcmp z34 FP.dconst0) CmpOp.g) then z34 else FP.dconst0) → G E p l e rmL_traces s m args below meth c 16 n M 0 0 (MQD lw_cs below (PI E n K) args s rmL_traces.cells rmL_traces.slots (Ab E)) 195 [(10, dV z34), (0, rV o0), (1, iV a1), (3, iV a3), (4, iV a4), (7, iV a7), (8, dV g8), (12, iV a12)] [dV z35] by
          refine g_if_ge X 193 dL_traces_186 (by decide) ⟨fun h => h, fun h => h⟩ (fun hc => ?_) (fun hc => ?_)
          · refine g_dload X dL_traces_193 0 rfl ?_
            exact kk _ (if_pos hc).symm
          · refine g_dconst0 X dL_traces_189 ?_
            refine g_goto X 195 dL_traces_190 (by decide) ?_
            exact kk _ (if_neg hc).symm
        intro z35 hz35
        have hw := hw z35 hz35
        refine g_dstore (lv' := [(10, dV z35), (0, rV o0), (1, iV a1), (3, iV a3), (4, iV a4), (7, iV a7), (8, dV g8), (12, iV a12)]) X dL_traces_195 (by decide) rfl ?_
        refine g_aload_n X dL_traces_197 1 rfl ?_
        refine g_iload_n X dL_traces_198 2 rfl ?_
        refine g_iload X dL_traces_199 7 rfl ?_
        obtain ⟨hk36, hw⟩ := hw
        refine g_calld (pc' := 204) (rest := []) rfl (fun H locs ls d qR qL => g_runV X cw_L_37 iv_X5_trace ⟨Nat.le_of_ble_eq_true rfl, Nat.le_of_ble_eq_true rfl⟩ dL_traces_201 (c_X5_trace l E n M o0 a1 a12 _ hw) hk36 rfl rfl (Nat.le_of_ble_eq_true rfl) ⟨Nat.le_of_ble_eq_true rfl, Nat.le_of_ble_eq_true rfl⟩ qR qL) (fun z38 M37 hw => ?_)
        refine g_dload X dL_traces_204 0 rfl ?_
        refine g_dcmp X dL_traces_206 ?_
        refine g_if_eq X 212 dL_traces_207 (by decide) hw (fun hw => ?_) (fun hw => ?_)
        · obtain ⟨x39, hx39⟩ : ∃ y : Int32, y = a12 + (1 : Int32) := ⟨_, rfl⟩
          have hw := hw x39 hx39
          refine g_iinc (lv' := [(12, iV x39), (10, dV z35), (0, rV o0), (1, iV a1), (3, iV a3), (4, iV a4), (7, iV a7), (8, dV g8)]) X x39 dL_traces_212 7 rfl (by rw [hx39]; rfl) (by decide) rfl ?_
          refine g_goto X 159 dL_traces_215 (by decide) ?_
          refine g_lvsub (lv' := [(0, rV o0), (1, iV a1), (3, iV a3), (4, iV a4), (7, iV a7), (8, dV g8), (10, dV z35), (12, iV x39)]) [2, 3, 4, 5, 6, 7, 1, 0] rfl ?_
          exact ih159 _ _ _ _ _ _ _ _ _ hw
        · refine g_iconst X (0 : Int32) dL_traces_210 (by decide) ?_
          exact g_zret X hr hlk hSz hOld (Nat.le_refl _) dL_traces_211 ⟨rfl, hw⟩
  unfold w_L_traces at hw
  refine g_aload_n X dL_traces_0 0 rfl ?_
  refine g_iload_n X dL_traces_1 1 rfl ?_
  refine g_iconst X (3 : Int32) dL_traces_2 (by decide) ?_
  obtain ⟨hk1, hw⟩ := hw
  refine g_calli (pc' := 6) (rest := []) rfl (fun H locs ls d qR qL => g_runV X cw_L_23 iv_X5_head ⟨Nat.le_of_ble_eq_true rfl, Nat.le_of_ble_eq_true rfl⟩ dL_traces_3 (c_X5_head l E n M p1 p2 (3 : Int32) _ hw) hk1 rfl rfl (Nat.le_of_ble_eq_true rfl) ⟨Nat.le_of_ble_eq_true rfl, Nat.le_of_ble_eq_true rfl⟩ qR qL) (fun x3 M2 hw => ?_)
  refine g_istore_n (lv' := [(2, iV x3), (0, rV p1), (1, iV p2)]) X dL_traces_6 (by decide) rfl ?_
  refine g_aload_n X dL_traces_7 1 rfl ?_
  refine g_iconst X (0 : Int32) dL_traces_8 (by decide) ?_
  refine g_calli (pc' := 12) (rest := []) rfl (fun H locs ls d qR qL => g_runV X cw_L_13 iv_X5_count ⟨Nat.le_of_ble_eq_true rfl, Nat.le_of_ble_eq_true rfl⟩ dL_traces_9 (c_X5_count l E n M2 p1 (0 : Int32) _ hw) hk1 rfl rfl (Nat.le_of_ble_eq_true rfl) ⟨Nat.le_of_ble_eq_true rfl, Nat.le_of_ble_eq_true rfl⟩ qR qL) (fun x5 M4 hw => ?_)
  refine g_istore_n (lv' := [(3, iV x5), (2, iV x3), (0, rV p1), (1, iV p2)]) X dL_traces_12 (by decide) rfl ?_
  refine g_aload_n X dL_traces_13 2 rfl ?_
  refine g_iload_n X dL_traces_14 3 rfl ?_
  refine g_bipush X (8 : Int32) dL_traces_15 (by decide) ?_
  refine g_calli (pc' := 20) (rest := []) rfl (fun H locs ls d qR qL => g_runV X cw_L_23 iv_X5_head ⟨Nat.le_of_ble_eq_true rfl, Nat.le_of_ble_eq_true rfl⟩ dL_traces_17 (c_X5_head l E n M4 p1 p2 (8 : Int32) _ hw) hk1 rfl rfl (Nat.le_of_ble_eq_true rfl) ⟨Nat.le_of_ble_eq_true rfl, Nat.le_of_ble_eq_true rfl⟩ qR qL) (fun x7 M6 hw => ?_)
  refine g_istore (lv' := [(4, iV x7), (3, iV x5), (2, iV x3), (0, rV p1), (1, iV p2)]) X dL_traces_20 (by decide) rfl ?_
  refine g_aload_n X dL_traces_22 3 rfl ?_
  refine g_iload_n X dL_traces_23 4 rfl ?_
  refine g_iconst X (0 : Int32) dL_traces_24 (by decide) ?_
  refine g_calld (pc' := 28) (rest := []) rfl (fun H locs ls d qR qL => g_runV X cw_L_37 iv_X5_trace ⟨Nat.le_of_ble_eq_true rfl, Nat.le_of_ble_eq_true rfl⟩ dL_traces_25 (c_X5_trace l E n M6 p1 p2 (0 : Int32) _ hw) hk1 rfl rfl (Nat.le_of_ble_eq_true rfl) ⟨Nat.le_of_ble_eq_true rfl, Nat.le_of_ble_eq_true rfl⟩ qR qL) (fun z9 M8 hw => ?_)
  refine g_dstore (lv' := [(5, dV z9), (4, iV x7), (3, iV x5), (2, iV x3), (0, rV p1), (1, iV p2)]) X dL_traces_28 (by decide) rfl ?_
  refine g_iload X dL_traces_30 1 rfl ?_
  refine g_iload_n X dL_traces_32 5 rfl ?_
  refine g_bipush X (64 : Int32) dL_traces_33 (by decide) ?_
  refine g_iload_n X dL_traces_35 2 rfl ?_
  refine g_imul X dL_traces_36 ?_
  refine g_iadd X dL_traces_37 ?_
  refine g_aload_n X dL_traces_38 4 rfl ?_
  refine g_iconst X (1 : Int32) dL_traces_39 (by decide) ?_
  refine g_calli (pc' := 43) (rest := [iV (p2 + ((64 : Int32) * x5)), iV x7]) rfl (fun H locs ls d qR qL => g_runV X cw_L_13 iv_X5_count ⟨Nat.le_of_ble_eq_true rfl, Nat.le_of_ble_eq_true rfl⟩ dL_traces_40 (c_X5_count l E n M8 p1 (1 : Int32) _ hw) hk1 rfl rfl (Nat.le_of_ble_eq_true rfl) ⟨Nat.le_of_ble_eq_true rfl, Nat.le_of_ble_eq_true rfl⟩ qR qL) (fun x11 M10 hw => ?_)
  refine g_iload_n X dL_traces_43 2 rfl ?_
  refine g_irem X dL_traces_44 hw (fun hw => ?_)
  refine g_topI (fun x12 hx12 => ?_)
  have hw := hw x12 hx12
  refine g_isub X dL_traces_45 ?_
  refine g_iload_n X dL_traces_46 2 rfl ?_
  refine g_irem X dL_traces_47 hw (fun hw => ?_)
  refine g_topI (fun x13 hx13 => ?_)
  have hw := hw x13 hx13
  refine g_icmp_eq X 53 dL_traces_48 (by decide) hw (fun hw => ?_) (fun hw => ?_)
  · refine g_iload_n X dL_traces_53 3 rfl ?_
    refine g_if_ge X 97 dL_traces_54 (by decide) hw (fun hw => ?_) (fun hw => ?_)
    · refine g_aload_n X dL_traces_97 4 rfl ?_
      refine g_iload_n X dL_traces_98 3 rfl ?_
      refine g_iconst X (1 : Int32) dL_traces_99 (by decide) ?_
      refine g_calli (pc' := 103) (rest := []) rfl (fun H locs ls d qR qL => g_runV X cw_L_30 iv_X5_part ⟨Nat.le_of_ble_eq_true rfl, Nat.le_of_ble_eq_true rfl⟩ dL_traces_100 (c_X5_part l E n M10 p1 x3 (1 : Int32) _ hw) hk1 rfl rfl (Nat.le_of_ble_eq_true rfl) ⟨Nat.le_of_ble_eq_true rfl, Nat.le_of_ble_eq_true rfl⟩ qR qL) (fun x15 M14 hw => ?_)
      refine g_istore (lv' := [(7, iV x15), (5, dV z9), (4, iV x7), (3, iV x5), (2, iV x3), (0, rV p1), (1, iV p2)]) X dL_traces_103 (by decide) rfl ?_
      refine g_ldcD X (4652007308841189376 : UInt64) dL_traces_105 wk_L_44 ?_
      refine g_aload_n X dL_traces_108 5 rfl ?_
      refine g_iload_n X dL_traces_109 4 rfl ?_
      refine g_iconst X (2 : Int32) dL_traces_110 (by decide) ?_
      refine g_calli (pc' := 114) (rest := [dV (4652007308841189376 : UInt64)]) rfl (fun H locs ls d qR qL => g_runV X cw_L_30 iv_X5_part ⟨Nat.le_of_ble_eq_true rfl, Nat.le_of_ble_eq_true rfl⟩ dL_traces_111 (c_X5_part l E n M14 p1 x3 (2 : Int32) _ hw) hk1 rfl rfl (Nat.le_of_ble_eq_true rfl) ⟨Nat.le_of_ble_eq_true rfl, Nat.le_of_ble_eq_true rfl⟩ qR qL) (fun x17 M16 hw => ?_)
      refine g_i2d X dL_traces_114 ?_
      refine g_dmul X dL_traces_115 hw (fun hw => ?_)
      refine g_topD (fun z18 hz18 => ?_)
      have hw := hw z18 hz18
      refine g_dstore (lv' := [(8, dV z18), (7, iV x15), (5, dV z9), (4, iV x7), (3, iV x5), (2, iV x3), (0, rV p1), (1, iV p2)]) X dL_traces_116 (by decide) rfl ?_
      refine g_aload_n X dL_traces_118 6 rfl ?_
      refine g_iload_n X dL_traces_119 7 rfl ?_
      refine g_iconst X (2 : Int32) dL_traces_120 (by decide) ?_
      refine g_calld (pc' := 124) (rest := []) rfl (fun H locs ls d qR qL => g_runV X cw_L_41 iv_X5_gauge ⟨Nat.le_of_ble_eq_true rfl, Nat.le_of_ble_eq_true rfl⟩ dL_traces_121 (c_X5_gauge l E n M16 p1 p2 (2 : Int32) _ hw) hk1 rfl rfl (Nat.le_of_ble_eq_true rfl) ⟨Nat.le_of_ble_eq_true rfl, Nat.le_of_ble_eq_true rfl⟩ qR qL) (fun z20 M19 hw => ?_)
      refine g_dstore (lv' := [(10, dV z20), (8, dV z18), (7, iV x15), (5, dV z9), (4, iV x7), (3, iV x5), (2, iV x3), (0, rV p1), (1, iV p2)]) X dL_traces_124 (by decide) rfl ?_
      refine g_aload_n X dL_traces_126 7 rfl ?_
      refine g_iload_n X dL_traces_127 6 rfl ?_
      refine g_iconst X (3 : Int32) dL_traces_128 (by decide) ?_
      refine g_calli (pc' := 132) (rest := []) rfl (fun H locs ls d qR qL => g_runV X cw_L_30 iv_X5_part ⟨Nat.le_of_ble_eq_true rfl, Nat.le_of_ble_eq_true rfl⟩ dL_traces_129 (c_X5_part l E n M19 p1 x3 (3 : Int32) _ hw) hk1 rfl rfl (Nat.le_of_ble_eq_true rfl) ⟨Nat.le_of_ble_eq_true rfl, Nat.le_of_ble_eq_true rfl⟩ qR qL) (fun x22 M21 hw => ?_)
      refine g_iconst X (1 : Int32) dL_traces_132 (by decide) ?_
      refine g_icmp_ne X 154 dL_traces_133 (by decide) hw (fun hw => ?_) (fun hw => ?_)
      · refine g_iconst X (0 : Int32) dL_traces_154 (by decide) ?_
        exact g_zret X hr hlk hSz hOld (Nat.le_refl _) dL_traces_155 ⟨rfl, hw⟩
      · refine g_dload X dL_traces_136 3 rfl ?_
        refine g_dload X dL_traces_138 0 rfl ?_
        refine g_dcmp X dL_traces_140 ?_
        refine g_if_ne X 154 dL_traces_141 (by decide) hw (fun hw => ?_) (fun hw => ?_)
        · refine g_iconst X (0 : Int32) dL_traces_154 (by decide) ?_
          exact g_zret X hr hlk hSz hOld (Nat.le_refl _) dL_traces_155 ⟨rfl, hw⟩
        · refine g_aload_n X dL_traces_144 7 rfl ?_
          refine g_iload_n X dL_traces_145 8 rfl ?_
          refine g_calli (pc' := 149) (rest := []) rfl (fun H locs ls d qR qL => g_runV X cw_L_27 iv_X5_display ⟨Nat.le_of_ble_eq_true rfl, Nat.le_of_ble_eq_true rfl⟩ dL_traces_146 (c_X5_display l E n M21 p1 p2 _ hw) hk1 rfl rfl (Nat.le_of_ble_eq_true rfl) ⟨Nat.le_of_ble_eq_true rfl, Nat.le_of_ble_eq_true rfl⟩ qR qL) (fun x24 M23 hw => ?_)
          refine g_bipush X (-5 : Int32) dL_traces_149 (by decide) ?_
          refine g_icmp_ne X 156 dL_traces_151 (by decide) hw (fun hw => ?_) (fun hw => ?_)
          · refine g_iconst X (1 : Int32) dL_traces_156 (by decide) ?_
            refine g_istore (lv' := [(12, iV (1 : Int32)), (10, dV z20), (8, dV z18), (7, iV x15), (5, dV z9), (4, iV x7), (3, iV x5), (2, iV x3), (0, rV p1), (1, iV p2)]) X dL_traces_157 (by decide) rfl ?_
            refine g_lvsub (lv' := [(0, rV p1), (1, iV p2), (3, iV x5), (4, iV x7), (7, iV x15), (8, dV z18), (10, dV z20), (12, iV (1 : Int32))]) [8, 9, 6, 5, 3, 2, 1, 0] rfl ?_
            exact L159 _ _ _ _ _ _ _ _ _ _ hw
          · refine g_iconst X (0 : Int32) dL_traces_154 (by decide) ?_
            exact g_zret X hr hlk hSz hOld (Nat.le_refl _) dL_traces_155 ⟨rfl, hw⟩
    · refine g_aload_n X dL_traces_57 4 rfl ?_
      refine g_iload_n X dL_traces_58 5 rfl ?_
      refine g_iconst X (3 : Int32) dL_traces_59 (by decide) ?_
      refine g_calld (pc' := 63) (rest := []) rfl (fun H locs ls d qR qL => g_runV X cw_L_41 iv_X5_gauge ⟨Nat.le_of_ble_eq_true rfl, Nat.le_of_ble_eq_true rfl⟩ dL_traces_60 (c_X5_gauge l E n M10 p1 p2 (3 : Int32) _ hw) hk1 rfl rfl (Nat.le_of_ble_eq_true rfl) ⟨Nat.le_of_ble_eq_true rfl, Nat.le_of_ble_eq_true rfl⟩ qR qL) (fun z41 M40 hw => ?_)
      refine g_dstore (lv' := [(7, dV z41), (5, dV z9), (4, iV x7), (3, iV x5), (2, iV x3), (0, rV p1), (1, iV p2)]) X dL_traces_63 (by decide) rfl ?_
      refine g_dload X dL_traces_65 1 rfl ?_
      refine g_dload X dL_traces_67 1 rfl ?_
      refine g_dcmp X dL_traces_69 ?_
      refine g_if_eq X 95 dL_traces_70 (by decide) hw (fun hw => ?_) (fun hw => ?_)
      · refine g_iconst X (0 : Int32) dL_traces_95 (by decide) ?_
        exact g_zret X hr hlk hSz hOld (Nat.le_refl _) dL_traces_96 ⟨rfl, hw⟩
      · refine g_dload X dL_traces_73 0 rfl ?_
        refine g_dload X dL_traces_75 0 rfl ?_
        refine g_dcmp X dL_traces_77 ?_
        refine g_if_eq X 95 dL_traces_78 (by decide) hw (fun hw => ?_) (fun hw => ?_)
        · refine g_iconst X (0 : Int32) dL_traces_95 (by decide) ?_
          exact g_zret X hr hlk hSz hOld (Nat.le_refl _) dL_traces_96 ⟨rfl, hw⟩
        · refine g_aload_n X dL_traces_81 5 rfl ?_
          refine g_iload_n X dL_traces_82 6 rfl ?_
          refine g_calli (pc' := 86) (rest := []) rfl (fun H locs ls d qR qL => g_runV X cw_L_27 iv_X5_display ⟨Nat.le_of_ble_eq_true rfl, Nat.le_of_ble_eq_true rfl⟩ dL_traces_83 (c_X5_display l E n M40 p1 p2 _ hw) hk1 rfl rfl (Nat.le_of_ble_eq_true rfl) ⟨Nat.le_of_ble_eq_true rfl, Nat.le_of_ble_eq_true rfl⟩ qR qL) (fun x43 M42 hw => ?_)
          refine g_bipush X (-5 : Int32) dL_traces_86 (by decide) ?_
          refine g_icmp_ne X 95 dL_traces_88 (by decide) hw (fun hw => ?_) (fun hw => ?_)
          · refine g_iconst X (0 : Int32) dL_traces_95 (by decide) ?_
            exact g_zret X hr hlk hSz hOld (Nat.le_refl _) dL_traces_96 ⟨rfl, hw⟩
          · refine g_iconst X (1 : Int32) dL_traces_91 (by decide) ?_
            refine g_goto X 96 dL_traces_92 (by decide) ?_
            exact g_zret X hr hlk hSz hOld (Nat.le_refl _) dL_traces_96 ⟨rfl, hw⟩
  · refine g_iconst X (0 : Int32) dL_traces_51 (by decide) ?_
    exact g_zret X hr hlk hSz hOld (Nat.le_refl _) dL_traces_52 ⟨rfl, hw⟩
theorem dL_heads_0 : decode cL_heads 0 = .ok (.iconst 0, 1) := by decide +kernel
theorem dL_heads_1 : decode cL_heads 1 = .ok (.istore_n 1, 1) := by decide +kernel
theorem dL_heads_2 : decode cL_heads 2 = .ok (.iconst 0, 1) := by decide +kernel
theorem dL_heads_3 : decode cL_heads 3 = .ok (.istore_n 2, 1) := by decide +kernel
theorem dL_heads_4 : decode cL_heads 4 = .ok (.iconst 0, 1) := by decide +kernel
theorem dL_heads_5 : decode cL_heads 5 = .ok (.istore_n 3, 1) := by decide +kernel
theorem dL_heads_6 : decode cL_heads 6 = .ok (.iconst 0, 1) := by decide +kernel
theorem dL_heads_7 : decode cL_heads 7 = .ok (.istore 4, 2) := by decide +kernel
theorem dL_heads_9 : decode cL_heads 9 = .ok (.iconst 0, 1) := by decide +kernel
theorem dL_heads_10 : decode cL_heads 10 = .ok (.istore 5, 2) := by decide +kernel
theorem dL_heads_12 : decode cL_heads 12 = .ok (.iconst 0, 1) := by decide +kernel
theorem dL_heads_13 : decode cL_heads 13 = .ok (.istore 6, 2) := by decide +kernel
theorem dL_heads_15 : decode cL_heads 15 = .ok (.iload 6, 2) := by decide +kernel
theorem dL_heads_17 : decode cL_heads 17 = .ok (.aload_n 0, 1) := by decide +kernel
theorem dL_heads_18 : decode cL_heads 18 = .ok (.iconst 0, 1) := by decide +kernel
theorem dL_heads_19 : decode cL_heads 19 = .ok (.invokevirtual 13, 3) := by decide +kernel
theorem dL_heads_22 : decode cL_heads 22 = .ok (.if_icmp .ge 101, 3) := by decide +kernel
theorem dL_heads_25 : decode cL_heads 25 = .ok (.iload_n 1, 1) := by decide +kernel
theorem dL_heads_26 : decode cL_heads 26 = .ok (.aload_n 0, 1) := by decide +kernel
theorem dL_heads_27 : decode cL_heads 27 = .ok (.iload 6, 2) := by decide +kernel
theorem dL_heads_29 : decode cL_heads 29 = .ok (.iconst 4, 1) := by decide +kernel
theorem dL_heads_30 : decode cL_heads 30 = .ok (.invokevirtual 23, 3) := by decide +kernel
theorem dL_heads_33 : decode cL_heads 33 = .ok (.iadd, 1) := by decide +kernel
theorem dL_heads_34 : decode cL_heads 34 = .ok (.istore_n 1, 1) := by decide +kernel
theorem dL_heads_35 : decode cL_heads 35 = .ok (.iload_n 2, 1) := by decide +kernel
theorem dL_heads_36 : decode cL_heads 36 = .ok (.aload_n 0, 1) := by decide +kernel
theorem dL_heads_37 : decode cL_heads 37 = .ok (.iload 6, 2) := by decide +kernel
theorem dL_heads_39 : decode cL_heads 39 = .ok (.iconst 5, 1) := by decide +kernel
theorem dL_heads_40 : decode cL_heads 40 = .ok (.invokevirtual 23, 3) := by decide +kernel
theorem dL_heads_43 : decode cL_heads 43 = .ok (.iadd, 1) := by decide +kernel
theorem dL_heads_44 : decode cL_heads 44 = .ok (.istore_n 2, 1) := by decide +kernel
theorem dL_heads_45 : decode cL_heads 45 = .ok (.iload_n 3, 1) := by decide +kernel
theorem dL_heads_46 : decode cL_heads 46 = .ok (.aload_n 0, 1) := by decide +kernel
theorem dL_heads_47 : decode cL_heads 47 = .ok (.iload 6, 2) := by decide +kernel
theorem dL_heads_49 : decode cL_heads 49 = .ok (.bipush 6, 2) := by decide +kernel
theorem dL_heads_51 : decode cL_heads 51 = .ok (.invokevirtual 23, 3) := by decide +kernel
theorem dL_heads_54 : decode cL_heads 54 = .ok (.iadd, 1) := by decide +kernel
theorem dL_heads_55 : decode cL_heads 55 = .ok (.istore_n 3, 1) := by decide +kernel
theorem dL_heads_56 : decode cL_heads 56 = .ok (.iload 4, 2) := by decide +kernel
theorem dL_heads_58 : decode cL_heads 58 = .ok (.aload_n 0, 1) := by decide +kernel
theorem dL_heads_59 : decode cL_heads 59 = .ok (.iload 6, 2) := by decide +kernel
theorem dL_heads_61 : decode cL_heads 61 = .ok (.bipush 7, 2) := by decide +kernel
theorem dL_heads_63 : decode cL_heads 63 = .ok (.invokevirtual 23, 3) := by decide +kernel
theorem dL_heads_66 : decode cL_heads 66 = .ok (.iadd, 1) := by decide +kernel
theorem dL_heads_67 : decode cL_heads 67 = .ok (.istore 4, 2) := by decide +kernel
theorem dL_heads_69 : decode cL_heads 69 = .ok (.iload 5, 2) := by decide +kernel
theorem dL_heads_71 : decode cL_heads 71 = .ok (.aload_n 0, 1) := by decide +kernel
theorem dL_heads_72 : decode cL_heads 72 = .ok (.iload 6, 2) := by decide +kernel
theorem dL_heads_74 : decode cL_heads 74 = .ok (.iconst 3, 1) := by decide +kernel
theorem dL_heads_75 : decode cL_heads 75 = .ok (.invokevirtual 23, 3) := by decide +kernel
theorem dL_heads_78 : decode cL_heads 78 = .ok (.ifCond .lt 7, 3) := by decide +kernel
theorem dL_heads_81 : decode cL_heads 81 = .ok (.iconst 1, 1) := by decide +kernel
theorem dL_heads_82 : decode cL_heads 82 = .ok (.goto 4, 3) := by decide +kernel
theorem dL_heads_85 : decode cL_heads 85 = .ok (.iconst 0, 1) := by decide +kernel
theorem dL_heads_86 : decode cL_heads 86 = .ok (.iadd, 1) := by decide +kernel
theorem dL_heads_87 : decode cL_heads 87 = .ok (.istore 5, 2) := by decide +kernel
theorem dL_heads_89 : decode cL_heads 89 = .ok (.aload_n 0, 1) := by decide +kernel
theorem dL_heads_90 : decode cL_heads 90 = .ok (.iload 6, 2) := by decide +kernel
theorem dL_heads_92 : decode cL_heads 92 = .ok (.invokestatic 46, 3) := by decide +kernel
theorem dL_heads_95 : decode cL_heads 95 = .ok (.ifCond .eq 20, 3) := by decide +kernel
theorem dL_heads_98 : decode cL_heads 98 = .ok (.aload_n 0, 1) := by decide +kernel
theorem dL_heads_99 : decode cL_heads 99 = .ok (.iload 6, 2) := by decide +kernel
theorem dL_heads_101 : decode cL_heads 101 = .ok (.iconst 2, 1) := by decide +kernel
theorem dL_heads_102 : decode cL_heads 102 = .ok (.invokevirtual 23, 3) := by decide +kernel
theorem dL_heads_105 : decode cL_heads 105 = .ok (.aload_n 0, 1) := by decide +kernel
theorem dL_heads_106 : decode cL_heads 106 = .ok (.iload 6, 2) := by decide +kernel
theorem dL_heads_108 : decode cL_heads 108 = .ok (.iconst 4, 1) := by decide +kernel
theorem dL_heads_109 : decode cL_heads 109 = .ok (.invokevirtual 23, 3) := by decide +kernel
theorem dL_heads_112 : decode cL_heads 112 = .ok (.if_icmp .le 5, 3) := by decide +kernel
theorem dL_heads_115 : decode cL_heads 115 = .ok (.iconst 0, 1) := by decide +kernel
theorem dL_heads_116 : decode cL_heads 116 = .ok (.ireturn, 1) := by decide +kernel
theorem dL_heads_117 : decode cL_heads 117 = .ok (.iinc 6 1, 3) := by decide +kernel
theorem dL_heads_120 : decode cL_heads 120 = .ok (.goto (-105), 3) := by decide +kernel
theorem dL_heads_123 : decode cL_heads 123 = .ok (.iload_n 1, 1) := by decide +kernel
theorem dL_heads_124 : decode cL_heads 124 = .ok (.aload_n 0, 1) := by decide +kernel
theorem dL_heads_125 : decode cL_heads 125 = .ok (.bipush 7, 2) := by decide +kernel
theorem dL_heads_127 : decode cL_heads 127 = .ok (.invokevirtual 13, 3) := by decide +kernel
theorem dL_heads_130 : decode cL_heads 130 = .ok (.if_icmp .ne 87, 3) := by decide +kernel
theorem dL_heads_133 : decode cL_heads 133 = .ok (.iload 4, 2) := by decide +kernel
theorem dL_heads_135 : decode cL_heads 135 = .ok (.aload_n 0, 1) := by decide +kernel
theorem dL_heads_136 : decode cL_heads 136 = .ok (.bipush 8, 2) := by decide +kernel
theorem dL_heads_138 : decode cL_heads 138 = .ok (.invokevirtual 13, 3) := by decide +kernel
theorem dL_heads_141 : decode cL_heads 141 = .ok (.if_icmp .ne 76, 3) := by decide +kernel
theorem dL_heads_144 : decode cL_heads 144 = .ok (.iload_n 2, 1) := by decide +kernel
theorem dL_heads_145 : decode cL_heads 145 = .ok (.aload_n 0, 1) := by decide +kernel
theorem dL_heads_146 : decode cL_heads 146 = .ok (.iconst 5, 1) := by decide +kernel
theorem dL_heads_147 : decode cL_heads 147 = .ok (.invokevirtual 13, 3) := by decide +kernel
theorem dL_heads_150 : decode cL_heads 150 = .ok (.if_icmp .ne 67, 3) := by decide +kernel
theorem dL_heads_153 : decode cL_heads 153 = .ok (.iload_n 3, 1) := by decide +kernel
theorem dL_heads_154 : decode cL_heads 154 = .ok (.aload_n 0, 1) := by decide +kernel
theorem dL_heads_155 : decode cL_heads 155 = .ok (.bipush 6, 2) := by decide +kernel
theorem dL_heads_157 : decode cL_heads 157 = .ok (.invokevirtual 13, 3) := by decide +kernel
theorem dL_heads_160 : decode cL_heads 160 = .ok (.aload_n 0, 1) := by decide +kernel
theorem dL_heads_161 : decode cL_heads 161 = .ok (.bipush 14, 2) := by decide +kernel
theorem dL_heads_163 : decode cL_heads 163 = .ok (.invokevirtual 13, 3) := by decide +kernel
theorem dL_heads_166 : decode cL_heads 166 = .ok (.isub, 1) := by decide +kernel
theorem dL_heads_167 : decode cL_heads 167 = .ok (.if_icmp .ne 50, 3) := by decide +kernel
theorem dL_heads_170 : decode cL_heads 170 = .ok (.iload_n 1, 1) := by decide +kernel
theorem dL_heads_171 : decode cL_heads 171 = .ok (.iload_n 2, 1) := by decide +kernel
theorem dL_heads_172 : decode cL_heads 172 = .ok (.iload_n 3, 1) := by decide +kernel
theorem dL_heads_173 : decode cL_heads 173 = .ok (.iadd, 1) := by decide +kernel
theorem dL_heads_174 : decode cL_heads 174 = .ok (.iload 4, 2) := by decide +kernel
theorem dL_heads_176 : decode cL_heads 176 = .ok (.iadd, 1) := by decide +kernel
theorem dL_heads_177 : decode cL_heads 177 = .ok (.if_icmp .ne 40, 3) := by decide +kernel
theorem dL_heads_180 : decode cL_heads 180 = .ok (.iload 5, 2) := by decide +kernel
theorem dL_heads_182 : decode cL_heads 182 = .ok (.aload_n 0, 1) := by decide +kernel
theorem dL_heads_183 : decode cL_heads 183 = .ok (.iconst 4, 1) := by decide +kernel
theorem dL_heads_184 : decode cL_heads 184 = .ok (.invokevirtual 13, 3) := by decide +kernel
theorem dL_heads_187 : decode cL_heads 187 = .ok (.if_icmp .ne 30, 3) := by decide +kernel
theorem dL_heads_190 : decode cL_heads 190 = .ok (.aload_n 0, 1) := by decide +kernel
theorem dL_heads_191 : decode cL_heads 191 = .ok (.aload_n 0, 1) := by decide +kernel
theorem dL_heads_192 : decode cL_heads 192 = .ok (.iconst 0, 1) := by decide +kernel
theorem dL_heads_193 : decode cL_heads 193 = .ok (.invokevirtual 13, 3) := by decide +kernel
theorem dL_heads_196 : decode cL_heads 196 = .ok (.iconst 0, 1) := by decide +kernel
theorem dL_heads_197 : decode cL_heads 197 = .ok (.invokevirtual 23, 3) := by decide +kernel
theorem dL_heads_200 : decode cL_heads 200 = .ok (.iconst (-1), 1) := by decide +kernel
theorem dL_heads_201 : decode cL_heads 201 = .ok (.if_icmp .ne 16, 3) := by decide +kernel
theorem dL_heads_204 : decode cL_heads 204 = .ok (.aload_n 0, 1) := by decide +kernel
theorem dL_heads_205 : decode cL_heads 205 = .ok (.iconst (-1), 1) := by decide +kernel
theorem dL_heads_206 : decode cL_heads 206 = .ok (.invokevirtual 27, 3) := by decide +kernel
theorem dL_heads_209 : decode cL_heads 209 = .ok (.iconst (-1), 1) := by decide +kernel
theorem dL_heads_210 : decode cL_heads 210 = .ok (.if_icmp .ne 7, 3) := by decide +kernel
theorem dL_heads_213 : decode cL_heads 213 = .ok (.iconst 1, 1) := by decide +kernel
theorem dL_heads_214 : decode cL_heads 214 = .ok (.goto 4, 3) := by decide +kernel
theorem dL_heads_217 : decode cL_heads 217 = .ok (.iconst 0, 1) := by decide +kernel
theorem dL_heads_218 : decode cL_heads 218 = .ok (.ireturn, 1) := by decide +kernel
abbrev rmL_heads : Room := { frames := 3, cells := 0, slots := 0, locals := 88 }
def w_L_heads_L15 (n : Nat) (K : Int32 → Mem → Prop) : Nat → Mem → Nat → Int32 → Int32 → Int32 → Int32 → Int32 → Int32 → Prop
  | 0, _, _, _, _, _, _, _, _ => False
  | fuel + 1, M, o0, a1, a2, a3, a4, a5, a6 => ((o0 ≤ n ∧ kd o0 = (5, 0)) ∧ w_X5_count n M o0 (0 : Int32) (fun x3 M2 => ((x3 ≤ a6 → w_X5_count n M2 o0 (7 : Int32) (fun x5 M4 => ((¬ a1 = x5 → K (0 : Int32) M4) ∧ (a1 = x5 → w_X5_count n M4 o0 (8 : Int32) (fun x7 M6 => ((¬ a4 = x7 → K (0 : Int32) M6) ∧ (a4 = x7 → w_X5_count n M6 o0 (5 : Int32) (fun x9 M8 => ((¬ a2 = x9 → K (0 : Int32) M8) ∧ (a2 = x9 → w_X5_count n M8 o0 (6 : Int32) (fun x11 M10 => w_X5_count n M10 o0 (14 : Int32) (fun x13 M12 => ((¬ a3 = (x11 - x13) → K (0 : Int32) M12) ∧ (a3 = (x11 - x13) → ((¬ a1 = ((a2 + a3) + a4) → K (0 : Int32) M12) ∧ (a1 = ((a2 + a3) + a4) → w_X5_count n M12 o0 (4 : Int32) (fun x15 M14 => ((¬ a5 = x15 → K (0 : Int32) M14) ∧ (a5 = x15 → w_X5_count n M14 o0 (0 : Int32) (fun x17 M16 => w_X5_head n M16 o0 x17 (0 : Int32) (fun x19 M18 => ((¬ x19 = (-1 : Int32) → K (0 : Int32) M18) ∧ (x19 = (-1 : Int32) → w_X5_display n M18 o0 (-1 : Int32) (fun x21 M20 => ((¬ x21 = (-1 : Int32) → K (0 : Int32) M20) ∧ (x21 = (-1 : Int32) → K (1 : Int32) M20)))))))))))))))))))))))))) ∧ (¬ x3 ≤ a6 → w_X5_head n M2 o0 a6 (4 : Int32) (fun x23 M22 => (∀ x24, x24 = a1 + x23 → w_X5_head n M22 o0 a6 (5 : Int32) (fun x26 M25 => (∀ x27, x27 = a2 + x26 → w_X5_head n M25 o0 a6 (6 : Int32) (fun x29 M28 => (∀ x30, x30 = a3 + x29 → w_X5_head n M28 o0 a6 (7 : Int32) (fun x32 M31 => (∀ x33, x33 = a4 + x32 → w_X5_head n M31 o0 a6 (3 : Int32) (fun x35 M34 => (∀ x36 : Int32, x36 = (if x35 < 0 then (0 : Int32) else (1 : Int32)) → (∀ x37, x37 = a5 + x36 → w_L_traces n M34 o0 a6 (fun x39 M38 => ((x39 = 0 → K (0 : Int32) M38) ∧ (¬ x39 = 0 → w_X5_head n M38 o0 a6 (2 : Int32) (fun x41 M40 => w_X5_head n M40 o0 a6 (4 : Int32) (fun x43 M42 => ((x41 ≤ x43 → (∀ x44, x44 = a6 + (1 : Int32) → w_L_heads_L15 n K fuel M42 o0 x24 x27 x30 x33 x37 x44)) ∧ (¬ x41 ≤ x43 → K (0 : Int32) M42))))))))))))))))))))))
def w_L_heads (n : Nat) (M : Mem) (p1 : Nat) (K : Int32 → Mem → Prop) : Prop := w_L_heads_L15 n K 4000 M p1 (0 : Int32) (0 : Int32) (0 : Int32) (0 : Int32) (0 : Int32) (0 : Int32)
set_option maxHeartbeats 4000000 in
set_option maxRecDepth 20000 in
theorem c_L_heads (l : Launch) (E : Gl) (n : Nat) (M : Mem) (p1 : Nat) (K : Int32 → Mem → Prop) (hw : w_L_heads n M p1 K) : CT E l yL_heads cL_heads 7 (some .boolean) rmL_heads n M [rV p1] (PI E n K) := by
  refine g_met l (by decide) (Nat.le_of_ble_eq_true rfl) ?_
  intro p e s m args below meth c X hr hlk hnm hSz hOld
  change CX E p s m c _ _ RL at X
  have L15 : ∀ (fuel15 : Nat) (M : Mem) (o0 : Nat) (a1 : Int32) (a2 : Int32) (a3 : Int32) (a4 : Int32) (a5 : Int32) (a6 : Int32), w_L_heads_L15 n K fuel15 M o0 a1 a2 a3 a4 a5 a6 → G E p l e rmL_heads s m args below meth c 7 n M 0 0 (MQD lw_cs below (PI E n K) args s rmL_heads.cells rmL_heads.slots (Ab E)) 15 [(0, rV o0), (1, iV a1), (2, iV a2), (3, iV a3), (4, iV a4), (5, iV a5), (6, iV a6)] [] := by
    intro fuel15
    induction fuel15 with
    | zero => intro M o0 a1 a2 a3 a4 a5 a6 hw; exact False.elim hw
    | succ fuel15 ih15 =>
      intro M o0 a1 a2 a3 a4 a5 a6 hw
      unfold w_L_heads_L15 at hw
      refine g_iload X dL_heads_15 6 rfl ?_
      refine g_aload_n X dL_heads_17 0 rfl ?_
      refine g_iconst X (0 : Int32) dL_heads_18 (by decide) ?_
      obtain ⟨hk1, hw⟩ := hw
      refine g_calli (pc' := 22) (rest := [iV a6]) rfl (fun H locs ls d qR qL => g_runV X cw_L_13 iv_X5_count ⟨Nat.le_of_ble_eq_true rfl, Nat.le_of_ble_eq_true rfl⟩ dL_heads_19 (c_X5_count l E n M o0 (0 : Int32) _ hw) hk1 rfl rfl (Nat.le_of_ble_eq_true rfl) ⟨Nat.le_of_ble_eq_true rfl, Nat.le_of_ble_eq_true rfl⟩ qR qL) (fun x3 M2 hw => ?_)
      refine g_icmp_ge X 123 dL_heads_22 (by decide) hw (fun hw => ?_) (fun hw => ?_)
      · refine g_iload_n X dL_heads_123 1 rfl ?_
        refine g_aload_n X dL_heads_124 0 rfl ?_
        refine g_bipush X (7 : Int32) dL_heads_125 (by decide) ?_
        refine g_calli (pc' := 130) (rest := [iV a1]) rfl (fun H locs ls d qR qL => g_runV X cw_L_13 iv_X5_count ⟨Nat.le_of_ble_eq_true rfl, Nat.le_of_ble_eq_true rfl⟩ dL_heads_127 (c_X5_count l E n M2 o0 (7 : Int32) _ hw) hk1 rfl rfl (Nat.le_of_ble_eq_true rfl) ⟨Nat.le_of_ble_eq_true rfl, Nat.le_of_ble_eq_true rfl⟩ qR qL) (fun x5 M4 hw => ?_)
        refine g_icmp_ne X 217 dL_heads_130 (by decide) hw (fun hw => ?_) (fun hw => ?_)
        · refine g_iconst X (0 : Int32) dL_heads_217 (by decide) ?_
          exact g_zret X hr hlk hSz hOld (Nat.le_refl _) dL_heads_218 ⟨rfl, hw⟩
        · refine g_iload X dL_heads_133 4 rfl ?_
          refine g_aload_n X dL_heads_135 0 rfl ?_
          refine g_bipush X (8 : Int32) dL_heads_136 (by decide) ?_
          refine g_calli (pc' := 141) (rest := [iV a4]) rfl (fun H locs ls d qR qL => g_runV X cw_L_13 iv_X5_count ⟨Nat.le_of_ble_eq_true rfl, Nat.le_of_ble_eq_true rfl⟩ dL_heads_138 (c_X5_count l E n M4 o0 (8 : Int32) _ hw) hk1 rfl rfl (Nat.le_of_ble_eq_true rfl) ⟨Nat.le_of_ble_eq_true rfl, Nat.le_of_ble_eq_true rfl⟩ qR qL) (fun x7 M6 hw => ?_)
          refine g_icmp_ne X 217 dL_heads_141 (by decide) hw (fun hw => ?_) (fun hw => ?_)
          · refine g_iconst X (0 : Int32) dL_heads_217 (by decide) ?_
            exact g_zret X hr hlk hSz hOld (Nat.le_refl _) dL_heads_218 ⟨rfl, hw⟩
          · refine g_iload_n X dL_heads_144 2 rfl ?_
            refine g_aload_n X dL_heads_145 0 rfl ?_
            refine g_iconst X (5 : Int32) dL_heads_146 (by decide) ?_
            refine g_calli (pc' := 150) (rest := [iV a2]) rfl (fun H locs ls d qR qL => g_runV X cw_L_13 iv_X5_count ⟨Nat.le_of_ble_eq_true rfl, Nat.le_of_ble_eq_true rfl⟩ dL_heads_147 (c_X5_count l E n M6 o0 (5 : Int32) _ hw) hk1 rfl rfl (Nat.le_of_ble_eq_true rfl) ⟨Nat.le_of_ble_eq_true rfl, Nat.le_of_ble_eq_true rfl⟩ qR qL) (fun x9 M8 hw => ?_)
            refine g_icmp_ne X 217 dL_heads_150 (by decide) hw (fun hw => ?_) (fun hw => ?_)
            · refine g_iconst X (0 : Int32) dL_heads_217 (by decide) ?_
              exact g_zret X hr hlk hSz hOld (Nat.le_refl _) dL_heads_218 ⟨rfl, hw⟩
            · refine g_iload_n X dL_heads_153 3 rfl ?_
              refine g_aload_n X dL_heads_154 0 rfl ?_
              refine g_bipush X (6 : Int32) dL_heads_155 (by decide) ?_
              refine g_calli (pc' := 160) (rest := [iV a3]) rfl (fun H locs ls d qR qL => g_runV X cw_L_13 iv_X5_count ⟨Nat.le_of_ble_eq_true rfl, Nat.le_of_ble_eq_true rfl⟩ dL_heads_157 (c_X5_count l E n M8 o0 (6 : Int32) _ hw) hk1 rfl rfl (Nat.le_of_ble_eq_true rfl) ⟨Nat.le_of_ble_eq_true rfl, Nat.le_of_ble_eq_true rfl⟩ qR qL) (fun x11 M10 hw => ?_)
              refine g_aload_n X dL_heads_160 0 rfl ?_
              refine g_bipush X (14 : Int32) dL_heads_161 (by decide) ?_
              refine g_calli (pc' := 166) (rest := [iV x11, iV a3]) rfl (fun H locs ls d qR qL => g_runV X cw_L_13 iv_X5_count ⟨Nat.le_of_ble_eq_true rfl, Nat.le_of_ble_eq_true rfl⟩ dL_heads_163 (c_X5_count l E n M10 o0 (14 : Int32) _ hw) hk1 rfl rfl (Nat.le_of_ble_eq_true rfl) ⟨Nat.le_of_ble_eq_true rfl, Nat.le_of_ble_eq_true rfl⟩ qR qL) (fun x13 M12 hw => ?_)
              refine g_isub X dL_heads_166 ?_
              refine g_icmp_ne X 217 dL_heads_167 (by decide) hw (fun hw => ?_) (fun hw => ?_)
              · refine g_iconst X (0 : Int32) dL_heads_217 (by decide) ?_
                exact g_zret X hr hlk hSz hOld (Nat.le_refl _) dL_heads_218 ⟨rfl, hw⟩
              · refine g_iload_n X dL_heads_170 1 rfl ?_
                refine g_iload_n X dL_heads_171 2 rfl ?_
                refine g_iload_n X dL_heads_172 3 rfl ?_
                refine g_iadd X dL_heads_173 ?_
                refine g_iload X dL_heads_174 4 rfl ?_
                refine g_iadd X dL_heads_176 ?_
                refine g_icmp_ne X 217 dL_heads_177 (by decide) hw (fun hw => ?_) (fun hw => ?_)
                · refine g_iconst X (0 : Int32) dL_heads_217 (by decide) ?_
                  exact g_zret X hr hlk hSz hOld (Nat.le_refl _) dL_heads_218 ⟨rfl, hw⟩
                · refine g_iload X dL_heads_180 5 rfl ?_
                  refine g_aload_n X dL_heads_182 0 rfl ?_
                  refine g_iconst X (4 : Int32) dL_heads_183 (by decide) ?_
                  refine g_calli (pc' := 187) (rest := [iV a5]) rfl (fun H locs ls d qR qL => g_runV X cw_L_13 iv_X5_count ⟨Nat.le_of_ble_eq_true rfl, Nat.le_of_ble_eq_true rfl⟩ dL_heads_184 (c_X5_count l E n M12 o0 (4 : Int32) _ hw) hk1 rfl rfl (Nat.le_of_ble_eq_true rfl) ⟨Nat.le_of_ble_eq_true rfl, Nat.le_of_ble_eq_true rfl⟩ qR qL) (fun x15 M14 hw => ?_)
                  refine g_icmp_ne X 217 dL_heads_187 (by decide) hw (fun hw => ?_) (fun hw => ?_)
                  · refine g_iconst X (0 : Int32) dL_heads_217 (by decide) ?_
                    exact g_zret X hr hlk hSz hOld (Nat.le_refl _) dL_heads_218 ⟨rfl, hw⟩
                  · refine g_aload_n X dL_heads_190 0 rfl ?_
                    refine g_aload_n X dL_heads_191 0 rfl ?_
                    refine g_iconst X (0 : Int32) dL_heads_192 (by decide) ?_
                    refine g_calli (pc' := 196) (rest := [rV o0]) rfl (fun H locs ls d qR qL => g_runV X cw_L_13 iv_X5_count ⟨Nat.le_of_ble_eq_true rfl, Nat.le_of_ble_eq_true rfl⟩ dL_heads_193 (c_X5_count l E n M14 o0 (0 : Int32) _ hw) hk1 rfl rfl (Nat.le_of_ble_eq_true rfl) ⟨Nat.le_of_ble_eq_true rfl, Nat.le_of_ble_eq_true rfl⟩ qR qL) (fun x17 M16 hw => ?_)
                    refine g_iconst X (0 : Int32) dL_heads_196 (by decide) ?_
                    refine g_calli (pc' := 200) (rest := []) rfl (fun H locs ls d qR qL => g_runV X cw_L_23 iv_X5_head ⟨Nat.le_of_ble_eq_true rfl, Nat.le_of_ble_eq_true rfl⟩ dL_heads_197 (c_X5_head l E n M16 o0 x17 (0 : Int32) _ hw) hk1 rfl rfl (Nat.le_of_ble_eq_true rfl) ⟨Nat.le_of_ble_eq_true rfl, Nat.le_of_ble_eq_true rfl⟩ qR qL) (fun x19 M18 hw => ?_)
                    refine g_iconst X (-1 : Int32) dL_heads_200 (by decide) ?_
                    refine g_icmp_ne X 217 dL_heads_201 (by decide) hw (fun hw => ?_) (fun hw => ?_)
                    · refine g_iconst X (0 : Int32) dL_heads_217 (by decide) ?_
                      exact g_zret X hr hlk hSz hOld (Nat.le_refl _) dL_heads_218 ⟨rfl, hw⟩
                    · refine g_aload_n X dL_heads_204 0 rfl ?_
                      refine g_iconst X (-1 : Int32) dL_heads_205 (by decide) ?_
                      refine g_calli (pc' := 209) (rest := []) rfl (fun H locs ls d qR qL => g_runV X cw_L_27 iv_X5_display ⟨Nat.le_of_ble_eq_true rfl, Nat.le_of_ble_eq_true rfl⟩ dL_heads_206 (c_X5_display l E n M18 o0 (-1 : Int32) _ hw) hk1 rfl rfl (Nat.le_of_ble_eq_true rfl) ⟨Nat.le_of_ble_eq_true rfl, Nat.le_of_ble_eq_true rfl⟩ qR qL) (fun x21 M20 hw => ?_)
                      refine g_iconst X (-1 : Int32) dL_heads_209 (by decide) ?_
                      refine g_icmp_ne X 217 dL_heads_210 (by decide) hw (fun hw => ?_) (fun hw => ?_)
                      · refine g_iconst X (0 : Int32) dL_heads_217 (by decide) ?_
                        exact g_zret X hr hlk hSz hOld (Nat.le_refl _) dL_heads_218 ⟨rfl, hw⟩
                      · refine g_iconst X (1 : Int32) dL_heads_213 (by decide) ?_
                        refine g_goto X 218 dL_heads_214 (by decide) ?_
                        exact g_zret X hr hlk hSz hOld (Nat.le_refl _) dL_heads_218 ⟨rfl, hw⟩
      · refine g_iload_n X dL_heads_25 1 rfl ?_
        refine g_aload_n X dL_heads_26 0 rfl ?_
        refine g_iload X dL_heads_27 6 rfl ?_
        refine g_iconst X (4 : Int32) dL_heads_29 (by decide) ?_
        refine g_calli (pc' := 33) (rest := [iV a1]) rfl (fun H locs ls d qR qL => g_runV X cw_L_23 iv_X5_head ⟨Nat.le_of_ble_eq_true rfl, Nat.le_of_ble_eq_true rfl⟩ dL_heads_30 (c_X5_head l E n M2 o0 a6 (4 : Int32) _ hw) hk1 rfl rfl (Nat.le_of_ble_eq_true rfl) ⟨Nat.le_of_ble_eq_true rfl, Nat.le_of_ble_eq_true rfl⟩ qR qL) (fun x23 M22 hw => ?_)
        refine g_iadd X dL_heads_33 ?_
        refine g_topI (fun x24 hx24 => ?_)
        have hw := hw x24 hx24
        refine g_istore_n (lv' := [(1, iV x24), (0, rV o0), (2, iV a2), (3, iV a3), (4, iV a4), (5, iV a5), (6, iV a6)]) X dL_heads_34 (by decide) rfl ?_
        refine g_iload_n X dL_heads_35 2 rfl ?_
        refine g_aload_n X dL_heads_36 1 rfl ?_
        refine g_iload X dL_heads_37 6 rfl ?_
        refine g_iconst X (5 : Int32) dL_heads_39 (by decide) ?_
        refine g_calli (pc' := 43) (rest := [iV a2]) rfl (fun H locs ls d qR qL => g_runV X cw_L_23 iv_X5_head ⟨Nat.le_of_ble_eq_true rfl, Nat.le_of_ble_eq_true rfl⟩ dL_heads_40 (c_X5_head l E n M22 o0 a6 (5 : Int32) _ hw) hk1 rfl rfl (Nat.le_of_ble_eq_true rfl) ⟨Nat.le_of_ble_eq_true rfl, Nat.le_of_ble_eq_true rfl⟩ qR qL) (fun x26 M25 hw => ?_)
        refine g_iadd X dL_heads_43 ?_
        refine g_topI (fun x27 hx27 => ?_)
        have hw := hw x27 hx27
        refine g_istore_n (lv' := [(2, iV x27), (1, iV x24), (0, rV o0), (3, iV a3), (4, iV a4), (5, iV a5), (6, iV a6)]) X dL_heads_44 (by decide) rfl ?_
        refine g_iload_n X dL_heads_45 3 rfl ?_
        refine g_aload_n X dL_heads_46 2 rfl ?_
        refine g_iload X dL_heads_47 6 rfl ?_
        refine g_bipush X (6 : Int32) dL_heads_49 (by decide) ?_
        refine g_calli (pc' := 54) (rest := [iV a3]) rfl (fun H locs ls d qR qL => g_runV X cw_L_23 iv_X5_head ⟨Nat.le_of_ble_eq_true rfl, Nat.le_of_ble_eq_true rfl⟩ dL_heads_51 (c_X5_head l E n M25 o0 a6 (6 : Int32) _ hw) hk1 rfl rfl (Nat.le_of_ble_eq_true rfl) ⟨Nat.le_of_ble_eq_true rfl, Nat.le_of_ble_eq_true rfl⟩ qR qL) (fun x29 M28 hw => ?_)
        refine g_iadd X dL_heads_54 ?_
        refine g_topI (fun x30 hx30 => ?_)
        have hw := hw x30 hx30
        refine g_istore_n (lv' := [(3, iV x30), (2, iV x27), (1, iV x24), (0, rV o0), (4, iV a4), (5, iV a5), (6, iV a6)]) X dL_heads_55 (by decide) rfl ?_
        refine g_iload X dL_heads_56 4 rfl ?_
        refine g_aload_n X dL_heads_58 3 rfl ?_
        refine g_iload X dL_heads_59 6 rfl ?_
        refine g_bipush X (7 : Int32) dL_heads_61 (by decide) ?_
        refine g_calli (pc' := 66) (rest := [iV a4]) rfl (fun H locs ls d qR qL => g_runV X cw_L_23 iv_X5_head ⟨Nat.le_of_ble_eq_true rfl, Nat.le_of_ble_eq_true rfl⟩ dL_heads_63 (c_X5_head l E n M28 o0 a6 (7 : Int32) _ hw) hk1 rfl rfl (Nat.le_of_ble_eq_true rfl) ⟨Nat.le_of_ble_eq_true rfl, Nat.le_of_ble_eq_true rfl⟩ qR qL) (fun x32 M31 hw => ?_)
        refine g_iadd X dL_heads_66 ?_
        refine g_topI (fun x33 hx33 => ?_)
        have hw := hw x33 hx33
        refine g_istore (lv' := [(4, iV x33), (3, iV x30), (2, iV x27), (1, iV x24), (0, rV o0), (5, iV a5), (6, iV a6)]) X dL_heads_67 (by decide) rfl ?_
        refine g_iload X dL_heads_69 5 rfl ?_
        refine g_aload_n X dL_heads_71 4 rfl ?_
        refine g_iload X dL_heads_72 6 rfl ?_
        refine g_iconst X (3 : Int32) dL_heads_74 (by decide) ?_
        refine g_calli (pc' := 78) (rest := [iV a5]) rfl (fun H locs ls d qR qL => g_runV X cw_L_23 iv_X5_head ⟨Nat.le_of_ble_eq_true rfl, Nat.le_of_ble_eq_true rfl⟩ dL_heads_75 (c_X5_head l E n M31 o0 a6 (3 : Int32) _ hw) hk1 rfl rfl (Nat.le_of_ble_eq_true rfl) ⟨Nat.le_of_ble_eq_true rfl, Nat.le_of_ble_eq_true rfl⟩ qR qL) (fun x35 M34 hw => ?_)
        suffices kk : ∀ x36 : Int32, x36 = (if x35 < 0 then (0 : Int32) else (1 : Int32)) → G E p l e rmL_heads s m args below meth c 7 n M34 0 0 (MQD lw_cs below (PI E n K) args s rmL_heads.cells rmL_heads.slots (Ab E)) 86 [(4, iV x33), (3, iV x30), (2, iV x27), (1, iV x24), (0, rV o0), (5, iV a5), (6, iV a6)] [iV x36, iV a5] by
          refine g_if_lt X 85 dL_heads_78 (by decide) ⟨fun h => h, fun h => h⟩ (fun hc => ?_) (fun hc => ?_)
          · refine g_iconst X (0 : Int32) dL_heads_85 (by decide) ?_
            exact kk _ (if_pos hc).symm
          · refine g_iconst X (1 : Int32) dL_heads_81 (by decide) ?_
            refine g_goto X 86 dL_heads_82 (by decide) ?_
            exact kk _ (if_neg hc).symm
        intro x36 hx36
        have hw := hw x36 hx36
        refine g_iadd X dL_heads_86 ?_
        refine g_topI (fun x37 hx37 => ?_)
        have hw := hw x37 hx37
        refine g_istore (lv' := [(5, iV x37), (4, iV x33), (3, iV x30), (2, iV x27), (1, iV x24), (0, rV o0), (6, iV a6)]) X dL_heads_87 (by decide) rfl ?_
        refine g_aload_n X dL_heads_89 5 rfl ?_
        refine g_iload X dL_heads_90 6 rfl ?_
        refine g_calli (pc' := 95) (rest := []) rfl (fun H locs ls d qR qL => g_runS X cw_L_46 wt_L_traces ⟨Nat.le_of_ble_eq_true rfl, Nat.le_of_ble_eq_true rfl⟩ dL_heads_92 (c_L_traces l E n M34 o0 a6 _ hw) rfl rfl (Nat.le_of_ble_eq_true rfl) ⟨Nat.le_of_ble_eq_true rfl, Nat.le_of_ble_eq_true rfl⟩ qR qL) (fun x39 M38 hw => ?_)
        refine g_if_eq X 115 dL_heads_95 (by decide) hw (fun hw => ?_) (fun hw => ?_)
        · refine g_iconst X (0 : Int32) dL_heads_115 (by decide) ?_
          exact g_zret X hr hlk hSz hOld (Nat.le_refl _) dL_heads_116 ⟨rfl, hw⟩
        · refine g_aload_n X dL_heads_98 5 rfl ?_
          refine g_iload X dL_heads_99 6 rfl ?_
          refine g_iconst X (2 : Int32) dL_heads_101 (by decide) ?_
          refine g_calli (pc' := 105) (rest := []) rfl (fun H locs ls d qR qL => g_runV X cw_L_23 iv_X5_head ⟨Nat.le_of_ble_eq_true rfl, Nat.le_of_ble_eq_true rfl⟩ dL_heads_102 (c_X5_head l E n M38 o0 a6 (2 : Int32) _ hw) hk1 rfl rfl (Nat.le_of_ble_eq_true rfl) ⟨Nat.le_of_ble_eq_true rfl, Nat.le_of_ble_eq_true rfl⟩ qR qL) (fun x41 M40 hw => ?_)
          refine g_aload_n X dL_heads_105 5 rfl ?_
          refine g_iload X dL_heads_106 6 rfl ?_
          refine g_iconst X (4 : Int32) dL_heads_108 (by decide) ?_
          refine g_calli (pc' := 112) (rest := [iV x41]) rfl (fun H locs ls d qR qL => g_runV X cw_L_23 iv_X5_head ⟨Nat.le_of_ble_eq_true rfl, Nat.le_of_ble_eq_true rfl⟩ dL_heads_109 (c_X5_head l E n M40 o0 a6 (4 : Int32) _ hw) hk1 rfl rfl (Nat.le_of_ble_eq_true rfl) ⟨Nat.le_of_ble_eq_true rfl, Nat.le_of_ble_eq_true rfl⟩ qR qL) (fun x43 M42 hw => ?_)
          refine g_icmp_le X 117 dL_heads_112 (by decide) hw (fun hw => ?_) (fun hw => ?_)
          · obtain ⟨x44, hx44⟩ : ∃ y : Int32, y = a6 + (1 : Int32) := ⟨_, rfl⟩
            have hw := hw x44 hx44
            refine g_iinc (lv' := [(6, iV x44), (5, iV x37), (4, iV x33), (3, iV x30), (2, iV x27), (1, iV x24), (0, rV o0)]) X x44 dL_heads_117 6 rfl (by rw [hx44]; rfl) (by decide) rfl ?_
            refine g_goto X 15 dL_heads_120 (by decide) ?_
            refine g_lvsub (lv' := [(0, rV o0), (1, iV x24), (2, iV x27), (3, iV x30), (4, iV x33), (5, iV x37), (6, iV x44)]) [6, 5, 4, 3, 2, 1, 0] rfl ?_
            exact ih15 _ _ _ _ _ _ _ _ hw
          · refine g_iconst X (0 : Int32) dL_heads_115 (by decide) ?_
            exact g_zret X hr hlk hSz hOld (Nat.le_refl _) dL_heads_116 ⟨rfl, hw⟩
  unfold w_L_heads at hw
  refine g_iconst X (0 : Int32) dL_heads_0 (by decide) ?_
  refine g_istore_n (lv' := [(1, iV (0 : Int32)), (0, rV p1)]) X dL_heads_1 (by decide) rfl ?_
  refine g_iconst X (0 : Int32) dL_heads_2 (by decide) ?_
  refine g_istore_n (lv' := [(2, iV (0 : Int32)), (1, iV (0 : Int32)), (0, rV p1)]) X dL_heads_3 (by decide) rfl ?_
  refine g_iconst X (0 : Int32) dL_heads_4 (by decide) ?_
  refine g_istore_n (lv' := [(3, iV (0 : Int32)), (2, iV (0 : Int32)), (1, iV (0 : Int32)), (0, rV p1)]) X dL_heads_5 (by decide) rfl ?_
  refine g_iconst X (0 : Int32) dL_heads_6 (by decide) ?_
  refine g_istore (lv' := [(4, iV (0 : Int32)), (3, iV (0 : Int32)), (2, iV (0 : Int32)), (1, iV (0 : Int32)), (0, rV p1)]) X dL_heads_7 (by decide) rfl ?_
  refine g_iconst X (0 : Int32) dL_heads_9 (by decide) ?_
  refine g_istore (lv' := [(5, iV (0 : Int32)), (4, iV (0 : Int32)), (3, iV (0 : Int32)), (2, iV (0 : Int32)), (1, iV (0 : Int32)), (0, rV p1)]) X dL_heads_10 (by decide) rfl ?_
  refine g_iconst X (0 : Int32) dL_heads_12 (by decide) ?_
  refine g_istore (lv' := [(6, iV (0 : Int32)), (5, iV (0 : Int32)), (4, iV (0 : Int32)), (3, iV (0 : Int32)), (2, iV (0 : Int32)), (1, iV (0 : Int32)), (0, rV p1)]) X dL_heads_13 (by decide) rfl ?_
  refine g_lvsub (lv' := [(0, rV p1), (1, iV (0 : Int32)), (2, iV (0 : Int32)), (3, iV (0 : Int32)), (4, iV (0 : Int32)), (5, iV (0 : Int32)), (6, iV (0 : Int32))]) [6, 5, 4, 3, 2, 1, 0] rfl ?_
  exact L15 _ _ _ _ _ _ _ _ _ hw
theorem dL_sound_0 : decode cL_sound 0 = .ok (.aload_n 0, 1) := by decide +kernel
theorem dL_sound_1 : decode cL_sound 1 = .ok (.invokestatic 52, 3) := by decide +kernel
theorem dL_sound_4 : decode cL_sound 4 = .ok (.ifCond .eq 26, 3) := by decide +kernel
theorem dL_sound_7 : decode cL_sound 7 = .ok (.aload_n 0, 1) := by decide +kernel
theorem dL_sound_8 : decode cL_sound 8 = .ok (.invokestatic 56, 3) := by decide +kernel
theorem dL_sound_11 : decode cL_sound 11 = .ok (.ifCond .eq 19, 3) := by decide +kernel
theorem dL_sound_14 : decode cL_sound 14 = .ok (.aload_n 0, 1) := by decide +kernel
theorem dL_sound_15 : decode cL_sound 15 = .ok (.iconst 3, 1) := by decide +kernel
theorem dL_sound_16 : decode cL_sound 16 = .ok (.invokevirtual 19, 3) := by decide +kernel
theorem dL_sound_19 : decode cL_sound 19 = .ok (.ldc2_w 59, 3) := by decide +kernel
theorem dL_sound_22 : decode cL_sound 22 = .ok (.lcmp, 1) := by decide +kernel
theorem dL_sound_23 : decode cL_sound 23 = .ok (.ifCond .ne 7, 3) := by decide +kernel
theorem dL_sound_26 : decode cL_sound 26 = .ok (.iconst 1, 1) := by decide +kernel
theorem dL_sound_27 : decode cL_sound 27 = .ok (.goto 4, 3) := by decide +kernel
theorem dL_sound_30 : decode cL_sound 30 = .ok (.iconst 0, 1) := by decide +kernel
theorem dL_sound_31 : decode cL_sound 31 = .ok (.ireturn, 1) := by decide +kernel
abbrev rmL_sound : Room := { frames := 4, cells := 2, slots := 10, locals := 114 }
def w_L_sound (n : Nat) (M : Mem) (p1 : Nat) (K : Int32 → Mem → Prop) : Prop := ((n - n + rmL_parts.cells ≤ rmL_sound.cells ∧ SL n - SL n + rmL_parts.slots ≤ rmL_sound.slots) ∧ ((n - n + rmL_parts.cells ≤ n + 2 - n ∧ SL n - SL n + rmL_parts.slots ≤ SL (n + 2) - SL n) ∧ w_L_parts n M p1 (fun x3 M2 => ((x3 = 0 → False) ∧ (¬ x3 = 0 → (((n + 2) - n + rmL_heads.cells ≤ rmL_sound.cells ∧ SL (n + 2) - SL n + rmL_heads.slots ≤ rmL_sound.slots) ∧ w_L_heads (n + 2) M2 p1 (fun x6 M5 => ((x6 = 0 → False) ∧ (¬ x6 = 0 → (((n + 2) - n + rmX5_pressureBits.cells ≤ rmL_sound.cells ∧ SL (n + 2) - SL n + rmX5_pressureBits.slots ≤ rmL_sound.slots) ∧ ((p1 ≤ (n + 2) ∧ kd p1 = (5, 0)) ∧ w_X5_pressureBits (n + 2) M5 p1 (3 : Int32) (fun y10 M9 => ((¬ (lg_cmp y10 (-2 : Int64)) = 0 → False) ∧ ((lg_cmp y10 (-2 : Int64)) = 0 → (n + 2 = n + 2 ∧ SL (n + 2) ≤ SL n + 10 ∧ narrow .boolean (.int (1 : Int32)) = .int (1 : Int32) ∧ K (1 : Int32) M9)))))))))))))))
set_option maxHeartbeats 4000000 in
set_option maxRecDepth 20000 in
theorem c_L_sound (l : Launch) (E : Gl) (n : Nat) (M : Mem) (p1 : Nat) (K : Int32 → Mem → Prop) (hw : w_L_sound n M p1 K) : CT E l yL_sound cL_sound 1 (some .boolean) rmL_sound n M [rV p1] (PI E (n + 2) K) := by
  refine g_met l (by decide) (Nat.le_of_ble_eq_true rfl) ?_
  intro p e s m args below meth c X hr hlk hnm hSz hOld
  change CX E p s m c _ _ RL at X
  refine g_widen (k := n - n) (z := SL n - SL n) (Nat.zero_le _) (Nat.zero_le _) ?_
  unfold w_L_sound at hw
  refine g_aload_n X dL_sound_0 0 rfl ?_
  obtain ⟨hA1, hw⟩ := hw
  obtain ⟨hA1b, hw⟩ := hw
  refine g_calli (pc' := 4) (rest := []) rfl (fun H locs ls d qR qL => g_runS X cw_L_52 wt_L_parts ⟨Nat.le_of_ble_eq_true rfl, Nat.le_of_ble_eq_true rfl⟩ dL_sound_1 (c_L_parts l E n M p1 _ hw) rfl rfl (Nat.le_of_ble_eq_true rfl) hA1 qR qL) (fun x3 M2 hw => ?_)
  refine g_widen (k := n + 2 - n) (z := SL (n + 2) - SL n) hA1b.1 hA1b.2 ?_
  refine g_if_eq X 30 dL_sound_4 (by decide) hw (fun hw => ?_) (fun hw => ?_)
  · refine g_iconst X (0 : Int32) dL_sound_30 (by decide) ?_
    exact hw.elim
  · refine g_aload_n X dL_sound_7 0 rfl ?_
    obtain ⟨hA4, hw⟩ := hw
    refine g_calli (pc' := 11) (rest := []) rfl (fun H locs ls d qR qL => g_runS X cw_L_56 wt_L_heads ⟨Nat.le_of_ble_eq_true rfl, Nat.le_of_ble_eq_true rfl⟩ dL_sound_8 (c_L_heads l E (n + 2) M2 p1 _ hw) rfl rfl (Nat.le_of_ble_eq_true rfl) hA4 qR qL) (fun x6 M5 hw => ?_)
    refine g_widen (k := (n + 2) - n) (z := SL (n + 2) - SL n) (Nat.le_of_eq (Nat.add_zero _)) (Nat.le_of_eq (Nat.add_zero _)) ?_
    refine g_if_eq X 30 dL_sound_11 (by decide) hw (fun hw => ?_) (fun hw => ?_)
    · refine g_iconst X (0 : Int32) dL_sound_30 (by decide) ?_
      exact hw.elim
    · refine g_aload_n X dL_sound_14 0 rfl ?_
      refine g_iconst X (3 : Int32) dL_sound_15 (by decide) ?_
      obtain ⟨hA7, hw⟩ := hw
      obtain ⟨hk8, hw⟩ := hw
      refine g_calll (pc' := 19) (rest := []) rfl (fun H locs ls d qR qL => g_runV X cw_L_19 iv_X5_pressureBits ⟨Nat.le_of_ble_eq_true rfl, Nat.le_of_ble_eq_true rfl⟩ dL_sound_16 (c_X5_pressureBits l E (n + 2) M5 p1 (3 : Int32) _ hw) hk8 rfl rfl (Nat.le_of_ble_eq_true rfl) hA7 qR qL) (fun y10 M9 hw => ?_)
      refine g_widen (k := (n + 2) - n) (z := SL (n + 2) - SL n) (Nat.le_of_eq (Nat.add_zero _)) (Nat.le_of_eq (Nat.add_zero _)) ?_
      refine g_ldcL X (-2 : Int64) dL_sound_19 wk_L_59 ?_
      refine g_lcmp X dL_sound_22 ?_
      refine g_if_ne X 30 dL_sound_23 (by decide) hw (fun hw => ?_) (fun hw => ?_)
      · refine g_iconst X (0 : Int32) dL_sound_30 (by decide) ?_
        exact hw.elim
      · refine g_iconst X (1 : Int32) dL_sound_26 (by decide) ?_
        refine g_goto X 31 dL_sound_27 (by decide) ?_
        obtain ⟨he, hs, hw⟩ := hw
        rw [he]
        refine g_widen (k := rmL_sound.cells) (z := rmL_sound.slots) (by show n + 2 - n ≤ 2; omega) (by show SL (n + 2) - SL n ≤ 10; omega) ?_
        exact g_zret (n := n) X hr hlk hSz hOld (Nat.le_add_right _ _) dL_sound_31 hw
theorem dL_bits_0 : decode cL_bits 0 = .ok (.iload_n 0, 1) := by decide +kernel
theorem dL_bits_1 : decode cL_bits 1 = .ok (.ifCond .ne 39, 3) := by decide +kernel
theorem dL_bits_4 : decode cL_bits 4 = .ok (.iload_n 1, 1) := by decide +kernel
theorem dL_bits_5 : decode cL_bits 5 = .ok (.ifCond .ne 9, 3) := by decide +kernel
theorem dL_bits_8 : decode cL_bits 8 = .ok (.ldc2_w 61, 3) := by decide +kernel
theorem dL_bits_11 : decode cL_bits 11 = .ok (.goto 28, 3) := by decide +kernel
theorem dL_bits_14 : decode cL_bits 14 = .ok (.iload_n 1, 1) := by decide +kernel
theorem dL_bits_15 : decode cL_bits 15 = .ok (.iconst 1, 1) := by decide +kernel
theorem dL_bits_16 : decode cL_bits 16 = .ok (.if_icmp .ne 9, 3) := by decide +kernel
theorem dL_bits_19 : decode cL_bits 19 = .ok (.ldc2_w 63, 3) := by decide +kernel
theorem dL_bits_22 : decode cL_bits 22 = .ok (.goto 17, 3) := by decide +kernel
theorem dL_bits_25 : decode cL_bits 25 = .ok (.iload_n 1, 1) := by decide +kernel
theorem dL_bits_26 : decode cL_bits 26 = .ok (.iconst 2, 1) := by decide +kernel
theorem dL_bits_27 : decode cL_bits 27 = .ok (.if_icmp .ne 9, 3) := by decide +kernel
theorem dL_bits_30 : decode cL_bits 30 = .ok (.ldc2_w 65, 3) := by decide +kernel
theorem dL_bits_33 : decode cL_bits 33 = .ok (.goto 6, 3) := by decide +kernel
theorem dL_bits_36 : decode cL_bits 36 = .ok (.ldc2_w 67, 3) := by decide +kernel
theorem dL_bits_39 : decode cL_bits 39 = .ok (.lreturn, 1) := by decide +kernel
theorem dL_bits_40 : decode cL_bits 40 = .ok (.iload_n 1, 1) := by decide +kernel
theorem dL_bits_41 : decode cL_bits 41 = .ok (.ifCond .ne 9, 3) := by decide +kernel
theorem dL_bits_44 : decode cL_bits 44 = .ok (.ldc2_w 69, 3) := by decide +kernel
theorem dL_bits_47 : decode cL_bits 47 = .ok (.goto 26, 3) := by decide +kernel
theorem dL_bits_50 : decode cL_bits 50 = .ok (.iload_n 1, 1) := by decide +kernel
theorem dL_bits_51 : decode cL_bits 51 = .ok (.iconst 1, 1) := by decide +kernel
theorem dL_bits_52 : decode cL_bits 52 = .ok (.if_icmp .ne 9, 3) := by decide +kernel
theorem dL_bits_55 : decode cL_bits 55 = .ok (.ldc2_w 71, 3) := by decide +kernel
theorem dL_bits_58 : decode cL_bits 58 = .ok (.goto 15, 3) := by decide +kernel
theorem dL_bits_61 : decode cL_bits 61 = .ok (.iload_n 1, 1) := by decide +kernel
theorem dL_bits_62 : decode cL_bits 62 = .ok (.iconst 2, 1) := by decide +kernel
theorem dL_bits_63 : decode cL_bits 63 = .ok (.if_icmp .ne 7, 3) := by decide +kernel
theorem dL_bits_66 : decode cL_bits 66 = .ok (.lconst 0, 1) := by decide +kernel
theorem dL_bits_67 : decode cL_bits 67 = .ok (.goto 6, 3) := by decide +kernel
theorem dL_bits_70 : decode cL_bits 70 = .ok (.ldc2_w 73, 3) := by decide +kernel
theorem dL_bits_73 : decode cL_bits 73 = .ok (.lreturn, 1) := by decide +kernel
abbrev rmL_bits : Room := { frames := 0, cells := 0, slots := 0, locals := 0 }
def w_L_bits (n : Nat) (M : Mem) (p1 : Int32) (p2 : Int32) (K : Int64 → Mem → Prop) : Prop := ((¬ p1 = 0 → ((¬ p2 = 0 → ((¬ p2 = (1 : Int32) → ((¬ p2 = (2 : Int32) → K (4627026404658118656 : Int64) M) ∧ (p2 = (2 : Int32) → K (0 : Int64) M))) ∧ (p2 = (1 : Int32) → K (4629137466983448576 : Int64) M))) ∧ (p2 = 0 → K (4626322717216342016 : Int64) M))) ∧ (p1 = 0 → ((¬ p2 = 0 → ((¬ p2 = (1 : Int32) → ((¬ p2 = (2 : Int32) → K (4638387860618067575 : Int64) M) ∧ (p2 = (2 : Int32) → K (4607182418800017408 : Int64) M))) ∧ (p2 = (1 : Int32) → K (4652007308841189376 : Int64) M))) ∧ (p2 = 0 → K (4647503709213818880 : Int64) M))))
set_option maxHeartbeats 4000000 in
set_option maxRecDepth 20000 in
theorem c_L_bits (l : Launch) (E : Gl) (n : Nat) (M : Mem) (p1 : Int32) (p2 : Int32) (K : Int64 → Mem → Prop) (hw : w_L_bits n M p1 p2 K) : CT E l yL_bits cL_bits 2 (some .long) rmL_bits n M [iV p1, iV p2] (PL E n K) := by
  refine g_met l (by decide) (Nat.le_of_ble_eq_true rfl) ?_
  intro p e s m args below meth c X hr hlk hnm hSz hOld
  change CX E p s m c _ _ RL at X
  unfold w_L_bits at hw
  refine g_iload_n X dL_bits_0 0 rfl ?_
  refine g_if_ne X 40 dL_bits_1 (by decide) hw (fun hw => ?_) (fun hw => ?_)
  · refine g_iload_n X dL_bits_40 1 rfl ?_
    refine g_if_ne X 50 dL_bits_41 (by decide) hw (fun hw => ?_) (fun hw => ?_)
    · refine g_iload_n X dL_bits_50 1 rfl ?_
      refine g_iconst X (1 : Int32) dL_bits_51 (by decide) ?_
      refine g_icmp_ne X 61 dL_bits_52 (by decide) hw (fun hw => ?_) (fun hw => ?_)
      · refine g_iload_n X dL_bits_61 1 rfl ?_
        refine g_iconst X (2 : Int32) dL_bits_62 (by decide) ?_
        refine g_icmp_ne X 70 dL_bits_63 (by decide) hw (fun hw => ?_) (fun hw => ?_)
        · refine g_ldcL X (4627026404658118656 : Int64) dL_bits_70 wk_L_73 ?_
          exact g_lret X hr hlk hSz hOld (Nat.le_refl _) dL_bits_73 hw
        · refine g_lconst X (0 : Int64) dL_bits_66 (by decide) ?_
          refine g_goto X 73 dL_bits_67 (by decide) ?_
          exact g_lret X hr hlk hSz hOld (Nat.le_refl _) dL_bits_73 hw
      · refine g_ldcL X (4629137466983448576 : Int64) dL_bits_55 wk_L_71 ?_
        refine g_goto X 73 dL_bits_58 (by decide) ?_
        exact g_lret X hr hlk hSz hOld (Nat.le_refl _) dL_bits_73 hw
    · refine g_ldcL X (4626322717216342016 : Int64) dL_bits_44 wk_L_69 ?_
      refine g_goto X 73 dL_bits_47 (by decide) ?_
      exact g_lret X hr hlk hSz hOld (Nat.le_refl _) dL_bits_73 hw
  · refine g_iload_n X dL_bits_4 1 rfl ?_
    refine g_if_ne X 14 dL_bits_5 (by decide) hw (fun hw => ?_) (fun hw => ?_)
    · refine g_iload_n X dL_bits_14 1 rfl ?_
      refine g_iconst X (1 : Int32) dL_bits_15 (by decide) ?_
      refine g_icmp_ne X 25 dL_bits_16 (by decide) hw (fun hw => ?_) (fun hw => ?_)
      · refine g_iload_n X dL_bits_25 1 rfl ?_
        refine g_iconst X (2 : Int32) dL_bits_26 (by decide) ?_
        refine g_icmp_ne X 36 dL_bits_27 (by decide) hw (fun hw => ?_) (fun hw => ?_)
        · refine g_ldcL X (4638387860618067575 : Int64) dL_bits_36 wk_L_67 ?_
          exact g_lret X hr hlk hSz hOld (Nat.le_refl _) dL_bits_39 hw
        · refine g_ldcL X (4607182418800017408 : Int64) dL_bits_30 wk_L_65 ?_
          refine g_goto X 39 dL_bits_33 (by decide) ?_
          exact g_lret X hr hlk hSz hOld (Nat.le_refl _) dL_bits_39 hw
      · refine g_ldcL X (4652007308841189376 : Int64) dL_bits_19 wk_L_63 ?_
        refine g_goto X 39 dL_bits_22 (by decide) ?_
        exact g_lret X hr hlk hSz hOld (Nat.le_refl _) dL_bits_39 hw
    · refine g_ldcL X (4647503709213818880 : Int64) dL_bits_8 wk_L_61 ?_
      refine g_goto X 39 dL_bits_11 (by decide) ?_
      exact g_lret X hr hlk hSz hOld (Nat.le_refl _) dL_bits_39 hw
theorem dL_sets_0 : decode cL_sets 0 = .ok (.iload_n 2, 1) := by decide +kernel
theorem dL_sets_1 : decode cL_sets 1 = .ok (.aload_n 0, 1) := by decide +kernel
theorem dL_sets_2 : decode cL_sets 2 = .ok (.iconst 0, 1) := by decide +kernel
theorem dL_sets_3 : decode cL_sets 3 = .ok (.invokevirtual 13, 3) := by decide +kernel
theorem dL_sets_6 : decode cL_sets 6 = .ok (.invokestatic 75, 3) := by decide +kernel
theorem dL_sets_9 : decode cL_sets 9 = .ok (.istore 4, 2) := by decide +kernel
theorem dL_sets_11 : decode cL_sets 11 = .ok (.iload_n 1, 1) := by decide +kernel
theorem dL_sets_12 : decode cL_sets 12 = .ok (.ifCond .ne 140, 3) := by decide +kernel
theorem dL_sets_15 : decode cL_sets 15 = .ok (.iload_n 3, 1) := by decide +kernel
theorem dL_sets_16 : decode cL_sets 16 = .ok (.iconst 3, 1) := by decide +kernel
theorem dL_sets_17 : decode cL_sets 17 = .ok (.invokestatic 75, 3) := by decide +kernel
theorem dL_sets_20 : decode cL_sets 20 = .ok (.istore 5, 2) := by decide +kernel
theorem dL_sets_22 : decode cL_sets 22 = .ok (.aload_n 0, 1) := by decide +kernel
theorem dL_sets_23 : decode cL_sets 23 = .ok (.iload 5, 2) := by decide +kernel
theorem dL_sets_25 : decode cL_sets 25 = .ok (.invokevirtual 19, 3) := by decide +kernel
theorem dL_sets_28 : decode cL_sets 28 = .ok (.lstore 6, 2) := by decide +kernel
theorem dL_sets_30 : decode cL_sets 30 = .ok (.iload 5, 2) := by decide +kernel
theorem dL_sets_32 : decode cL_sets 32 = .ok (.iload_n 3, 1) := by decide +kernel
theorem dL_sets_33 : decode cL_sets 33 = .ok (.iconst 3, 1) := by decide +kernel
theorem dL_sets_34 : decode cL_sets 34 = .ok (.ishr, 1) := by decide +kernel
theorem dL_sets_35 : decode cL_sets 35 = .ok (.iconst 3, 1) := by decide +kernel
theorem dL_sets_36 : decode cL_sets 36 = .ok (.iand, 1) := by decide +kernel
theorem dL_sets_37 : decode cL_sets 37 = .ok (.invokestatic 78, 3) := by decide +kernel
theorem dL_sets_40 : decode cL_sets 40 = .ok (.lstore 8, 2) := by decide +kernel
theorem dL_sets_42 : decode cL_sets 42 = .ok (.aload_n 0, 1) := by decide +kernel
theorem dL_sets_43 : decode cL_sets 43 = .ok (.iload 5, 2) := by decide +kernel
theorem dL_sets_45 : decode cL_sets 45 = .ok (.ldc2_w 82, 3) := by decide +kernel
theorem dL_sets_48 : decode cL_sets 48 = .ok (.invokevirtual 84, 3) := by decide +kernel
theorem dL_sets_51 : decode cL_sets 51 = .ok (.bipush (-2), 2) := by decide +kernel
theorem dL_sets_53 : decode cL_sets 53 = .ok (.if_icmp .ne 48, 3) := by decide +kernel
theorem dL_sets_56 : decode cL_sets 56 = .ok (.aload_n 0, 1) := by decide +kernel
theorem dL_sets_57 : decode cL_sets 57 = .ok (.iload 5, 2) := by decide +kernel
theorem dL_sets_59 : decode cL_sets 59 = .ok (.ldc2_w 88, 3) := by decide +kernel
theorem dL_sets_62 : decode cL_sets 62 = .ok (.invokevirtual 84, 3) := by decide +kernel
theorem dL_sets_65 : decode cL_sets 65 = .ok (.bipush (-2), 2) := by decide +kernel
theorem dL_sets_67 : decode cL_sets 67 = .ok (.if_icmp .ne 34, 3) := by decide +kernel
theorem dL_sets_70 : decode cL_sets 70 = .ok (.aload_n 0, 1) := by decide +kernel
theorem dL_sets_71 : decode cL_sets 71 = .ok (.iload 5, 2) := by decide +kernel
theorem dL_sets_73 : decode cL_sets 73 = .ok (.ldc2_w 90, 3) := by decide +kernel
theorem dL_sets_76 : decode cL_sets 76 = .ok (.invokevirtual 84, 3) := by decide +kernel
theorem dL_sets_79 : decode cL_sets 79 = .ok (.bipush (-2), 2) := by decide +kernel
theorem dL_sets_81 : decode cL_sets 81 = .ok (.if_icmp .ne 20, 3) := by decide +kernel
theorem dL_sets_84 : decode cL_sets 84 = .ok (.aload_n 0, 1) := by decide +kernel
theorem dL_sets_85 : decode cL_sets 85 = .ok (.iconst 0, 1) := by decide +kernel
theorem dL_sets_86 : decode cL_sets 86 = .ok (.ldc2_w 92, 3) := by decide +kernel
theorem dL_sets_89 : decode cL_sets 89 = .ok (.invokevirtual 84, 3) := by decide +kernel
theorem dL_sets_92 : decode cL_sets 92 = .ok (.bipush (-2), 2) := by decide +kernel
theorem dL_sets_94 : decode cL_sets 94 = .ok (.if_icmp .ne 7, 3) := by decide +kernel
theorem dL_sets_97 : decode cL_sets 97 = .ok (.iconst 1, 1) := by decide +kernel
theorem dL_sets_98 : decode cL_sets 98 = .ok (.goto 4, 3) := by decide +kernel
theorem dL_sets_101 : decode cL_sets 101 = .ok (.iconst 0, 1) := by decide +kernel
theorem dL_sets_102 : decode cL_sets 102 = .ok (.istore 10, 2) := by decide +kernel
theorem dL_sets_104 : decode cL_sets 104 = .ok (.iload 10, 2) := by decide +kernel
theorem dL_sets_106 : decode cL_sets 106 = .ok (.ifCond .eq 44, 3) := by decide +kernel
theorem dL_sets_109 : decode cL_sets 109 = .ok (.aload_n 0, 1) := by decide +kernel
theorem dL_sets_110 : decode cL_sets 110 = .ok (.iload 5, 2) := by decide +kernel
theorem dL_sets_112 : decode cL_sets 112 = .ok (.lload 8, 2) := by decide +kernel
theorem dL_sets_114 : decode cL_sets 114 = .ok (.invokevirtual 84, 3) := by decide +kernel
theorem dL_sets_117 : decode cL_sets 117 = .ok (.lload 6, 2) := by decide +kernel
theorem dL_sets_119 : decode cL_sets 119 = .ok (.lload 8, 2) := by decide +kernel
theorem dL_sets_121 : decode cL_sets 121 = .ok (.lcmp, 1) := by decide +kernel
theorem dL_sets_122 : decode cL_sets 122 = .ok (.ifCond .ne 8, 3) := by decide +kernel
theorem dL_sets_125 : decode cL_sets 125 = .ok (.bipush (-5), 2) := by decide +kernel
theorem dL_sets_127 : decode cL_sets 127 = .ok (.goto 4, 3) := by decide +kernel
theorem dL_sets_130 : decode cL_sets 130 = .ok (.iconst 1, 1) := by decide +kernel
theorem dL_sets_131 : decode cL_sets 131 = .ok (.if_icmp .ne 19, 3) := by decide +kernel
theorem dL_sets_134 : decode cL_sets 134 = .ok (.aload_n 0, 1) := by decide +kernel
theorem dL_sets_135 : decode cL_sets 135 = .ok (.iload 5, 2) := by decide +kernel
theorem dL_sets_137 : decode cL_sets 137 = .ok (.invokevirtual 19, 3) := by decide +kernel
theorem dL_sets_140 : decode cL_sets 140 = .ok (.lload 8, 2) := by decide +kernel
theorem dL_sets_142 : decode cL_sets 142 = .ok (.lcmp, 1) := by decide +kernel
theorem dL_sets_143 : decode cL_sets 143 = .ok (.ifCond .ne 7, 3) := by decide +kernel
theorem dL_sets_146 : decode cL_sets 146 = .ok (.iconst 1, 1) := by decide +kernel
theorem dL_sets_147 : decode cL_sets 147 = .ok (.goto 4, 3) := by decide +kernel
theorem dL_sets_150 : decode cL_sets 150 = .ok (.iconst 0, 1) := by decide +kernel
theorem dL_sets_151 : decode cL_sets 151 = .ok (.ireturn, 1) := by decide +kernel
theorem dL_sets_152 : decode cL_sets 152 = .ok (.iload_n 1, 1) := by decide +kernel
theorem dL_sets_153 : decode cL_sets 153 = .ok (.iconst 1, 1) := by decide +kernel
theorem dL_sets_154 : decode cL_sets 154 = .ok (.if_icmp .ne 82, 3) := by decide +kernel
theorem dL_sets_157 : decode cL_sets 157 = .ok (.aload_n 0, 1) := by decide +kernel
theorem dL_sets_158 : decode cL_sets 158 = .ok (.bipush 9, 2) := by decide +kernel
theorem dL_sets_160 : decode cL_sets 160 = .ok (.invokevirtual 13, 3) := by decide +kernel
theorem dL_sets_163 : decode cL_sets 163 = .ok (.istore 5, 2) := by decide +kernel
theorem dL_sets_165 : decode cL_sets 165 = .ok (.iconst 1, 1) := by decide +kernel
theorem dL_sets_166 : decode cL_sets 166 = .ok (.iload_n 3, 1) := by decide +kernel
theorem dL_sets_167 : decode cL_sets 167 = .ok (.iload_n 3, 1) := by decide +kernel
theorem dL_sets_168 : decode cL_sets 168 = .ok (.iconst 1, 1) := by decide +kernel
theorem dL_sets_169 : decode cL_sets 169 = .ok (.iand, 1) := by decide +kernel
theorem dL_sets_170 : decode cL_sets 170 = .ok (.ifCond .ne 7, 3) := by decide +kernel
theorem dL_sets_173 : decode cL_sets 173 = .ok (.iconst 4, 1) := by decide +kernel
theorem dL_sets_174 : decode cL_sets 174 = .ok (.goto 5, 3) := by decide +kernel
theorem dL_sets_177 : decode cL_sets 177 = .ok (.bipush 99, 2) := by decide +kernel
theorem dL_sets_179 : decode cL_sets 179 = .ok (.invokestatic 75, 3) := by decide +kernel
theorem dL_sets_182 : decode cL_sets 182 = .ok (.iadd, 1) := by decide +kernel
theorem dL_sets_183 : decode cL_sets 183 = .ok (.istore 6, 2) := by decide +kernel
theorem dL_sets_185 : decode cL_sets 185 = .ok (.aload_n 0, 1) := by decide +kernel
theorem dL_sets_186 : decode cL_sets 186 = .ok (.iload 6, 2) := by decide +kernel
theorem dL_sets_188 : decode cL_sets 188 = .ok (.invokevirtual 94, 3) := by decide +kernel
theorem dL_sets_191 : decode cL_sets 191 = .ok (.iload 5, 2) := by decide +kernel
theorem dL_sets_193 : decode cL_sets 193 = .ok (.iload 6, 2) := by decide +kernel
theorem dL_sets_195 : decode cL_sets 195 = .ok (.if_icmp .ne 8, 3) := by decide +kernel
theorem dL_sets_198 : decode cL_sets 198 = .ok (.bipush (-5), 2) := by decide +kernel
theorem dL_sets_200 : decode cL_sets 200 = .ok (.goto 5, 3) := by decide +kernel
theorem dL_sets_203 : decode cL_sets 203 = .ok (.iload 5, 2) := by decide +kernel
theorem dL_sets_205 : decode cL_sets 205 = .ok (.if_icmp .ne 29, 3) := by decide +kernel
theorem dL_sets_208 : decode cL_sets 208 = .ok (.aload_n 0, 1) := by decide +kernel
theorem dL_sets_209 : decode cL_sets 209 = .ok (.bipush 9, 2) := by decide +kernel
theorem dL_sets_211 : decode cL_sets 211 = .ok (.invokevirtual 13, 3) := by decide +kernel
theorem dL_sets_214 : decode cL_sets 214 = .ok (.iload 6, 2) := by decide +kernel
theorem dL_sets_216 : decode cL_sets 216 = .ok (.if_icmp .ne 18, 3) := by decide +kernel
theorem dL_sets_219 : decode cL_sets 219 = .ok (.aload_n 0, 1) := by decide +kernel
theorem dL_sets_220 : decode cL_sets 220 = .ok (.bipush 100, 2) := by decide +kernel
theorem dL_sets_222 : decode cL_sets 222 = .ok (.invokevirtual 94, 3) := by decide +kernel
theorem dL_sets_225 : decode cL_sets 225 = .ok (.bipush (-2), 2) := by decide +kernel
theorem dL_sets_227 : decode cL_sets 227 = .ok (.if_icmp .ne 7, 3) := by decide +kernel
theorem dL_sets_230 : decode cL_sets 230 = .ok (.iconst 1, 1) := by decide +kernel
theorem dL_sets_231 : decode cL_sets 231 = .ok (.goto 4, 3) := by decide +kernel
theorem dL_sets_234 : decode cL_sets 234 = .ok (.iconst 0, 1) := by decide +kernel
theorem dL_sets_235 : decode cL_sets 235 = .ok (.ireturn, 1) := by decide +kernel
theorem dL_sets_236 : decode cL_sets 236 = .ok (.iload_n 1, 1) := by decide +kernel
theorem dL_sets_237 : decode cL_sets 237 = .ok (.iconst 2, 1) := by decide +kernel
theorem dL_sets_238 : decode cL_sets 238 = .ok (.if_icmp .ne 138, 3) := by decide +kernel
theorem dL_sets_241 : decode cL_sets 241 = .ok (.aload_n 0, 1) := by decide +kernel
theorem dL_sets_242 : decode cL_sets 242 = .ok (.iload 4, 2) := by decide +kernel
theorem dL_sets_244 : decode cL_sets 244 = .ok (.iconst 0, 1) := by decide +kernel
theorem dL_sets_245 : decode cL_sets 245 = .ok (.invokevirtual 23, 3) := by decide +kernel
theorem dL_sets_248 : decode cL_sets 248 = .ok (.istore 5, 2) := by decide +kernel
theorem dL_sets_250 : decode cL_sets 250 = .ok (.iload_n 3, 1) := by decide +kernel
theorem dL_sets_251 : decode cL_sets 251 = .ok (.iconst 3, 1) := by decide +kernel
theorem dL_sets_252 : decode cL_sets 252 = .ok (.iand, 1) := by decide +kernel
theorem dL_sets_253 : decode cL_sets 253 = .ok (.ifCond .ne 13, 3) := by decide +kernel
theorem dL_sets_256 : decode cL_sets 256 = .ok (.iload_n 3, 1) := by decide +kernel
theorem dL_sets_257 : decode cL_sets 257 = .ok (.iconst 2, 1) := by decide +kernel
theorem dL_sets_258 : decode cL_sets 258 = .ok (.ishr, 1) := by decide +kernel
theorem dL_sets_259 : decode cL_sets 259 = .ok (.iconst 3, 1) := by decide +kernel
theorem dL_sets_260 : decode cL_sets 260 = .ok (.invokestatic 75, 3) := by decide +kernel
theorem dL_sets_263 : decode cL_sets 263 = .ok (.goto 4, 3) := by decide +kernel
theorem dL_sets_266 : decode cL_sets 266 = .ok (.iconst 0, 1) := by decide +kernel
theorem dL_sets_267 : decode cL_sets 267 = .ok (.istore 6, 2) := by decide +kernel
theorem dL_sets_269 : decode cL_sets 269 = .ok (.iload_n 3, 1) := by decide +kernel
theorem dL_sets_270 : decode cL_sets 270 = .ok (.iconst 4, 1) := by decide +kernel
theorem dL_sets_271 : decode cL_sets 271 = .ok (.ishr, 1) := by decide +kernel
theorem dL_sets_272 : decode cL_sets 272 = .ok (.sipush 1001, 3) := by decide +kernel
theorem dL_sets_275 : decode cL_sets 275 = .ok (.invokestatic 75, 3) := by decide +kernel
theorem dL_sets_278 : decode cL_sets 278 = .ok (.istore 7, 2) := by decide +kernel
theorem dL_sets_280 : decode cL_sets 280 = .ok (.iload 5, 2) := by decide +kernel
theorem dL_sets_282 : decode cL_sets 282 = .ok (.iload 7, 2) := by decide +kernel
theorem dL_sets_284 : decode cL_sets 284 = .ok (.if_icmp .ne 19, 3) := by decide +kernel
theorem dL_sets_287 : decode cL_sets 287 = .ok (.aload_n 0, 1) := by decide +kernel
theorem dL_sets_288 : decode cL_sets 288 = .ok (.iload 4, 2) := by decide +kernel
theorem dL_sets_290 : decode cL_sets 290 = .ok (.iconst 1, 1) := by decide +kernel
theorem dL_sets_291 : decode cL_sets 291 = .ok (.invokevirtual 23, 3) := by decide +kernel
theorem dL_sets_294 : decode cL_sets 294 = .ok (.iload 6, 2) := by decide +kernel
theorem dL_sets_296 : decode cL_sets 296 = .ok (.if_icmp .ne 7, 3) := by decide +kernel
theorem dL_sets_299 : decode cL_sets 299 = .ok (.iconst 1, 1) := by decide +kernel
theorem dL_sets_300 : decode cL_sets 300 = .ok (.goto 4, 3) := by decide +kernel
theorem dL_sets_303 : decode cL_sets 303 = .ok (.iconst 0, 1) := by decide +kernel
theorem dL_sets_304 : decode cL_sets 304 = .ok (.istore 8, 2) := by decide +kernel
theorem dL_sets_306 : decode cL_sets 306 = .ok (.aload_n 0, 1) := by decide +kernel
theorem dL_sets_307 : decode cL_sets 307 = .ok (.iload 4, 2) := by decide +kernel
theorem dL_sets_309 : decode cL_sets 309 = .ok (.iload 7, 2) := by decide +kernel
theorem dL_sets_311 : decode cL_sets 311 = .ok (.iload 6, 2) := by decide +kernel
theorem dL_sets_313 : decode cL_sets 313 = .ok (.invokevirtual 97, 3) := by decide +kernel
theorem dL_sets_316 : decode cL_sets 316 = .ok (.iload 8, 2) := by decide +kernel
theorem dL_sets_318 : decode cL_sets 318 = .ok (.ifCond .eq 8, 3) := by decide +kernel
theorem dL_sets_321 : decode cL_sets 321 = .ok (.bipush (-5), 2) := by decide +kernel
theorem dL_sets_323 : decode cL_sets 323 = .ok (.goto 5, 3) := by decide +kernel
theorem dL_sets_326 : decode cL_sets 326 = .ok (.iload 5, 2) := by decide +kernel
theorem dL_sets_328 : decode cL_sets 328 = .ok (.if_icmp .ne 46, 3) := by decide +kernel
theorem dL_sets_331 : decode cL_sets 331 = .ok (.aload_n 0, 1) := by decide +kernel
theorem dL_sets_332 : decode cL_sets 332 = .ok (.iload 4, 2) := by decide +kernel
theorem dL_sets_334 : decode cL_sets 334 = .ok (.iconst 0, 1) := by decide +kernel
theorem dL_sets_335 : decode cL_sets 335 = .ok (.invokevirtual 23, 3) := by decide +kernel
theorem dL_sets_338 : decode cL_sets 338 = .ok (.iload 7, 2) := by decide +kernel
theorem dL_sets_340 : decode cL_sets 340 = .ok (.if_icmp .ne 34, 3) := by decide +kernel
theorem dL_sets_343 : decode cL_sets 343 = .ok (.aload_n 0, 1) := by decide +kernel
theorem dL_sets_344 : decode cL_sets 344 = .ok (.iload 4, 2) := by decide +kernel
theorem dL_sets_346 : decode cL_sets 346 = .ok (.iconst 1, 1) := by decide +kernel
theorem dL_sets_347 : decode cL_sets 347 = .ok (.invokevirtual 23, 3) := by decide +kernel
theorem dL_sets_350 : decode cL_sets 350 = .ok (.iload 6, 2) := by decide +kernel
theorem dL_sets_352 : decode cL_sets 352 = .ok (.if_icmp .ne 22, 3) := by decide +kernel
theorem dL_sets_355 : decode cL_sets 355 = .ok (.aload_n 0, 1) := by decide +kernel
theorem dL_sets_356 : decode cL_sets 356 = .ok (.iload 4, 2) := by decide +kernel
theorem dL_sets_358 : decode cL_sets 358 = .ok (.sipush 1001, 3) := by decide +kernel
theorem dL_sets_361 : decode cL_sets 361 = .ok (.iconst 0, 1) := by decide +kernel
theorem dL_sets_362 : decode cL_sets 362 = .ok (.invokevirtual 97, 3) := by decide +kernel
theorem dL_sets_365 : decode cL_sets 365 = .ok (.bipush (-2), 2) := by decide +kernel
theorem dL_sets_367 : decode cL_sets 367 = .ok (.if_icmp .ne 7, 3) := by decide +kernel
theorem dL_sets_370 : decode cL_sets 370 = .ok (.iconst 1, 1) := by decide +kernel
theorem dL_sets_371 : decode cL_sets 371 = .ok (.goto 4, 3) := by decide +kernel
theorem dL_sets_374 : decode cL_sets 374 = .ok (.iconst 0, 1) := by decide +kernel
theorem dL_sets_375 : decode cL_sets 375 = .ok (.ireturn, 1) := by decide +kernel
theorem dL_sets_376 : decode cL_sets 376 = .ok (.aload_n 0, 1) := by decide +kernel
theorem dL_sets_377 : decode cL_sets 377 = .ok (.iload 4, 2) := by decide +kernel
theorem dL_sets_379 : decode cL_sets 379 = .ok (.iconst 2, 1) := by decide +kernel
theorem dL_sets_380 : decode cL_sets 380 = .ok (.invokevirtual 23, 3) := by decide +kernel
theorem dL_sets_383 : decode cL_sets 383 = .ok (.istore 5, 2) := by decide +kernel
theorem dL_sets_385 : decode cL_sets 385 = .ok (.aload_n 0, 1) := by decide +kernel
theorem dL_sets_386 : decode cL_sets 386 = .ok (.iload 4, 2) := by decide +kernel
theorem dL_sets_388 : decode cL_sets 388 = .ok (.iconst 3, 1) := by decide +kernel
theorem dL_sets_389 : decode cL_sets 389 = .ok (.invokevirtual 23, 3) := by decide +kernel
theorem dL_sets_392 : decode cL_sets 392 = .ok (.ifCond .lt 7, 3) := by decide +kernel
theorem dL_sets_395 : decode cL_sets 395 = .ok (.iconst 1, 1) := by decide +kernel
theorem dL_sets_396 : decode cL_sets 396 = .ok (.goto 4, 3) := by decide +kernel
theorem dL_sets_399 : decode cL_sets 399 = .ok (.iconst 0, 1) := by decide +kernel
theorem dL_sets_400 : decode cL_sets 400 = .ok (.istore 6, 2) := by decide +kernel
theorem dL_sets_402 : decode cL_sets 402 = .ok (.aload_n 0, 1) := by decide +kernel
theorem dL_sets_403 : decode cL_sets 403 = .ok (.iload 4, 2) := by decide +kernel
theorem dL_sets_405 : decode cL_sets 405 = .ok (.iconst 0, 1) := by decide +kernel
theorem dL_sets_406 : decode cL_sets 406 = .ok (.invokevirtual 41, 3) := by decide +kernel
theorem dL_sets_409 : decode cL_sets 409 = .ok (.dstore 7, 2) := by decide +kernel
theorem dL_sets_411 : decode cL_sets 411 = .ok (.aload_n 0, 1) := by decide +kernel
theorem dL_sets_412 : decode cL_sets 412 = .ok (.iload 4, 2) := by decide +kernel
theorem dL_sets_414 : decode cL_sets 414 = .ok (.iconst 1, 1) := by decide +kernel
theorem dL_sets_415 : decode cL_sets 415 = .ok (.iload_n 3, 1) := by decide +kernel
theorem dL_sets_416 : decode cL_sets 416 = .ok (.ldc 101, 2) := by decide +kernel
theorem dL_sets_418 : decode cL_sets 418 = .ok (.invokestatic 75, 3) := by decide +kernel
theorem dL_sets_421 : decode cL_sets 421 = .ok (.iadd, 1) := by decide +kernel
theorem dL_sets_422 : decode cL_sets 422 = .ok (.invokevirtual 102, 3) := by decide +kernel
theorem dL_sets_425 : decode cL_sets 425 = .ok (.istore 9, 2) := by decide +kernel
theorem dL_sets_427 : decode cL_sets 427 = .ok (.iload 6, 2) := by decide +kernel
theorem dL_sets_429 : decode cL_sets 429 = .ok (.ifCond .eq 16, 3) := by decide +kernel
theorem dL_sets_432 : decode cL_sets 432 = .ok (.iload 9, 2) := by decide +kernel
theorem dL_sets_434 : decode cL_sets 434 = .ok (.bipush (-4), 2) := by decide +kernel
theorem dL_sets_436 : decode cL_sets 436 = .ok (.if_icmp .ne 7, 3) := by decide +kernel
theorem dL_sets_439 : decode cL_sets 439 = .ok (.iconst 1, 1) := by decide +kernel
theorem dL_sets_440 : decode cL_sets 440 = .ok (.goto 4, 3) := by decide +kernel
theorem dL_sets_443 : decode cL_sets 443 = .ok (.iconst 0, 1) := by decide +kernel
theorem dL_sets_444 : decode cL_sets 444 = .ok (.ireturn, 1) := by decide +kernel
theorem dL_sets_445 : decode cL_sets 445 = .ok (.aload_n 0, 1) := by decide +kernel
theorem dL_sets_446 : decode cL_sets 446 = .ok (.iload 4, 2) := by decide +kernel
theorem dL_sets_448 : decode cL_sets 448 = .ok (.iconst 1, 1) := by decide +kernel
theorem dL_sets_449 : decode cL_sets 449 = .ok (.invokevirtual 41, 3) := by decide +kernel
theorem dL_sets_452 : decode cL_sets 452 = .ok (.dstore 10, 2) := by decide +kernel
theorem dL_sets_454 : decode cL_sets 454 = .ok (.dload 10, 2) := by decide +kernel
theorem dL_sets_456 : decode cL_sets 456 = .ok (.dload 7, 2) := by decide +kernel
theorem dL_sets_458 : decode cL_sets 458 = .ok (.dmul, 1) := by decide +kernel
theorem dL_sets_459 : decode cL_sets 459 = .ok (.dconst 1, 1) := by decide +kernel
theorem dL_sets_460 : decode cL_sets 460 = .ok (.dsub, 1) := by decide +kernel
theorem dL_sets_461 : decode cL_sets 461 = .ok (.dstore 12, 2) := by decide +kernel
theorem dL_sets_463 : decode cL_sets 463 = .ok (.iload 9, 2) := by decide +kernel
theorem dL_sets_465 : decode cL_sets 465 = .ok (.iload 5, 2) := by decide +kernel
theorem dL_sets_467 : decode cL_sets 467 = .ok (.if_icmp .ne 52, 3) := by decide +kernel
theorem dL_sets_470 : decode cL_sets 470 = .ok (.aload_n 0, 1) := by decide +kernel
theorem dL_sets_471 : decode cL_sets 471 = .ok (.iload 4, 2) := by decide +kernel
theorem dL_sets_473 : decode cL_sets 473 = .ok (.iconst 2, 1) := by decide +kernel
theorem dL_sets_474 : decode cL_sets 474 = .ok (.invokevirtual 23, 3) := by decide +kernel
theorem dL_sets_477 : decode cL_sets 477 = .ok (.ifCond .ne 42, 3) := by decide +kernel
theorem dL_sets_480 : decode cL_sets 480 = .ok (.dload 7, 2) := by decide +kernel
theorem dL_sets_482 : decode cL_sets 482 = .ok (.dconst 1, 1) := by decide +kernel
theorem dL_sets_483 : decode cL_sets 483 = .ok (.dcmp .l, 1) := by decide +kernel
theorem dL_sets_484 : decode cL_sets 484 = .ok (.ifCond .ne 13, 3) := by decide +kernel
theorem dL_sets_487 : decode cL_sets 487 = .ok (.dload 10, 2) := by decide +kernel
theorem dL_sets_489 : decode cL_sets 489 = .ok (.dconst 1, 1) := by decide +kernel
theorem dL_sets_490 : decode cL_sets 490 = .ok (.dcmp .l, 1) := by decide +kernel
theorem dL_sets_491 : decode cL_sets 491 = .ok (.ifCond .ne 28, 3) := by decide +kernel
theorem dL_sets_494 : decode cL_sets 494 = .ok (.goto 21, 3) := by decide +kernel
theorem dL_sets_497 : decode cL_sets 497 = .ok (.dload 12, 2) := by decide +kernel
theorem dL_sets_499 : decode cL_sets 499 = .ok (.ldc2_w 105, 3) := by decide +kernel
theorem dL_sets_502 : decode cL_sets 502 = .ok (.dcmp .g, 1) := by decide +kernel
theorem dL_sets_503 : decode cL_sets 503 = .ok (.ifCond .ge 16, 3) := by decide +kernel
theorem dL_sets_506 : decode cL_sets 506 = .ok (.dload 12, 2) := by decide +kernel
theorem dL_sets_508 : decode cL_sets 508 = .ok (.ldc2_w 107, 3) := by decide +kernel
theorem dL_sets_511 : decode cL_sets 511 = .ok (.dcmp .l, 1) := by decide +kernel
theorem dL_sets_512 : decode cL_sets 512 = .ok (.ifCond .le 7, 3) := by decide +kernel
theorem dL_sets_515 : decode cL_sets 515 = .ok (.iconst 1, 1) := by decide +kernel
theorem dL_sets_516 : decode cL_sets 516 = .ok (.goto 4, 3) := by decide +kernel
theorem dL_sets_519 : decode cL_sets 519 = .ok (.iconst 0, 1) := by decide +kernel
theorem dL_sets_520 : decode cL_sets 520 = .ok (.ireturn, 1) := by decide +kernel
abbrev rmL_sets : Room := { frames := 4, cells := 0, slots := 0, locals := 88 }
def w_L_sets_L306 (n : Nat) (K : Int32 → Mem → Prop) (M : Mem) (o0 : Nat) (a4 : Int32) (a5 : Int32) (a6 : Int32) (a7 : Int32) (a8 : Int32) : Prop := ((o0 ≤ n ∧ kd o0 = (5, 0)) ∧ w_X5_equip n M o0 a4 a7 a6 (fun x29 M28 => (∀ x30 : Int32, x30 = (if a8 = 0 then a5 else (-5 : Int32)) → ((¬ x29 = x30 → K (0 : Int32) M28) ∧ (x29 = x30 → w_X5_head n M28 o0 a4 (0 : Int32) (fun x32 M31 => ((¬ x32 = a7 → K (0 : Int32) M31) ∧ (x32 = a7 → w_X5_head n M31 o0 a4 (1 : Int32) (fun x34 M33 => ((¬ x34 = a6 → K (0 : Int32) M33) ∧ (x34 = a6 → w_X5_equip n M33 o0 a4 (1001 : Int32) (0 : Int32) (fun x36 M35 => ((¬ x36 = (-2 : Int32) → K (0 : Int32) M35) ∧ (x36 = (-2 : Int32) → K (1 : Int32) M35))))))))))))))
def w_L_sets_L269 (n : Nat) (K : Int32 → Mem → Prop) (M : Mem) (o0 : Nat) (a3 : Int32) (a4 : Int32) (a5 : Int32) (a6 : Int32) : Prop := w_L_low n M (a3 >>> ((4 : Int32) &&& 31)) (1001 : Int32) (fun x26 M25 => ((¬ a5 = x26 → w_L_sets_L306 n K M25 o0 a4 a5 a6 x26 (0 : Int32)) ∧ (a5 = x26 → ((o0 ≤ n ∧ kd o0 = (5, 0)) ∧ w_X5_head n M25 o0 a4 (1 : Int32) (fun x39 M38 => (∀ x40 : Int32, x40 = (if x39 = a6 then (1 : Int32) else (0 : Int32)) → w_L_sets_L306 n K M38 o0 a4 a5 a6 x26 x40))))))
def w_L_sets (n : Nat) (M : Mem) (p1 : Nat) (p2 : Int32) (p3 : Int32) (p4 : Int32) (K : Int32 → Mem → Prop) : Prop := ((p1 ≤ n ∧ kd p1 = (5, 0)) ∧ w_X5_count n M p1 (0 : Int32) (fun x3 M2 => w_L_low n M2 p3 x3 (fun x5 M4 => ((¬ p2 = 0 → ((¬ p2 = (1 : Int32) → ((¬ p2 = (2 : Int32) → w_X5_head n M4 p1 x5 (2 : Int32) (fun x7 M6 => w_X5_head n M6 p1 x5 (3 : Int32) (fun x9 M8 => (∀ x10 : Int32, x10 = (if x9 < 0 then (0 : Int32) else (1 : Int32)) → w_X5_gauge n M8 p1 x5 (0 : Int32) (fun z12 M11 => w_L_low n M11 p4 (99999 : Int32) (fun x14 M13 => w_X5_calibrate n M13 p1 x5 ((1 : Int32) + x14) (fun x16 M15 => ((x10 = 0 → w_X5_gauge n M15 p1 x5 (1 : Int32) (fun z18 M17 => (vf_n64 (FP.dmul z18 z12) ∧ (∀ z19, z19 = FP.dmul z18 z12 → (vf_n64 (FP.dsub z19 FP.dconst1) ∧ (∀ z20, z20 = FP.dsub z19 FP.dconst1 → ((¬ x16 = x7 → K (0 : Int32) M17) ∧ (x16 = x7 → w_X5_head n M17 p1 x5 (2 : Int32) (fun x22 M21 => ((¬ x22 = 0 → K (0 : Int32) M21) ∧ (x22 = 0 → ((¬ (Op.cmpValue (FP.dcmp z12 FP.dconst1) CmpOp.l) = 0 → ((0 ≤ (Op.cmpValue (FP.dcmp z20 (4517329193108106637 : UInt64)) CmpOp.g) → K (0 : Int32) M21) ∧ (¬ 0 ≤ (Op.cmpValue (FP.dcmp z20 (4517329193108106637 : UInt64)) CmpOp.g) → (((Op.cmpValue (FP.dcmp z20 (13740701229962882445 : UInt64)) CmpOp.l) ≤ 0 → K (0 : Int32) M21) ∧ (¬ (Op.cmpValue (FP.dcmp z20 (13740701229962882445 : UInt64)) CmpOp.l) ≤ 0 → K (1 : Int32) M21))))) ∧ ((Op.cmpValue (FP.dcmp z12 FP.dconst1) CmpOp.l) = 0 → ((¬ (Op.cmpValue (FP.dcmp z18 FP.dconst1) CmpOp.l) = 0 → K (0 : Int32) M21) ∧ ((Op.cmpValue (FP.dcmp z18 FP.dconst1) CmpOp.l) = 0 → K (1 : Int32) M21))))))))))))))) ∧ (¬ x10 = 0 → ((¬ x16 = (-4 : Int32) → K (0 : Int32) M15) ∧ (x16 = (-4 : Int32) → K (1 : Int32) M15))))))))))) ∧ (p2 = (2 : Int32) → w_X5_head n M4 p1 x5 (0 : Int32) (fun x24 M23 => ((¬ (p4 &&& (3 : Int32)) = 0 → w_L_sets_L269 n K M23 p1 p4 x5 x24 (0 : Int32)) ∧ ((p4 &&& (3 : Int32)) = 0 → w_L_low n M23 (p4 >>> ((2 : Int32) &&& 31)) (3 : Int32) (fun x42 M41 => w_L_sets_L269 n K M41 p1 p4 x5 x24 x42))))))) ∧ (p2 = (1 : Int32) → w_X5_count n M4 p1 (9 : Int32) (fun x44 M43 => (∀ x45 : Int32, x45 = (if (p4 &&& (1 : Int32)) = 0 then (4 : Int32) else (99 : Int32)) → w_L_low n M43 p4 x45 (fun x47 M46 => (∀ x48, x48 = (1 : Int32) + x47 → w_X5_setInterval n M46 p1 x48 (fun x50 M49 => (∀ x51 : Int32, x51 = (if x44 = x48 then (-5 : Int32) else x44) → ((¬ x50 = x51 → K (0 : Int32) M49) ∧ (x50 = x51 → w_X5_count n M49 p1 (9 : Int32) (fun x53 M52 => ((¬ x53 = x48 → K (0 : Int32) M52) ∧ (x53 = x48 → w_X5_setInterval n M52 p1 (100 : Int32) (fun x55 M54 => ((¬ x55 = (-2 : Int32) → K (0 : Int32) M54) ∧ (x55 = (-2 : Int32) → K (1 : Int32) M54))))))))))))))))) ∧ (p2 = 0 → w_L_low n M4 p4 (3 : Int32) (fun x57 M56 => w_X5_pressureBits n M56 p1 x57 (fun y59 M58 => w_L_bits n M58 x57 ((p4 >>> ((3 : Int32) &&& 31)) &&& (3 : Int32)) (fun y61 M60 => w_X5_setPressure n M60 p1 x57 (9221120237041090560 : Int64) (fun x63 M62 => ((¬ x63 = (-2 : Int32) → K (0 : Int32) M62) ∧ (x63 = (-2 : Int32) → w_X5_setPressure n M62 p1 x57 (-9223372036854775808 : Int64) (fun x65 M64 => ((¬ x65 = (-2 : Int32) → K (0 : Int32) M64) ∧ (x65 = (-2 : Int32) → w_X5_setPressure n M64 p1 x57 (4696837155274620928 : Int64) (fun x67 M66 => ((¬ x67 = (-2 : Int32) → K (0 : Int32) M66) ∧ (x67 = (-2 : Int32) → w_X5_setPressure n M66 p1 (0 : Int32) (4602678819172646912 : Int64) (fun x69 M68 => (∀ x70 : Int32, x70 = (if x69 = (-2 : Int32) then (1 : Int32) else (0 : Int32)) → ((x70 = 0 → K (0 : Int32) M68) ∧ (¬ x70 = 0 → w_X5_setPressure n M68 p1 x57 y61 (fun x72 M71 => (∀ x73 : Int32, x73 = (if (lg_cmp y59 y61) = 0 then (-5 : Int32) else (1 : Int32)) → ((¬ x72 = x73 → K (0 : Int32) M71) ∧ (x72 = x73 → w_X5_pressureBits n M71 p1 x57 (fun y75 M74 => ((¬ (lg_cmp y75 y61) = 0 → K (0 : Int32) M74) ∧ ((lg_cmp y75 y61) = 0 → K (1 : Int32) M74))))))))))))))))))))))))))))
set_option maxHeartbeats 4000000 in
set_option maxRecDepth 20000 in
theorem c_L_sets (l : Launch) (E : Gl) (n : Nat) (M : Mem) (p1 : Nat) (p2 : Int32) (p3 : Int32) (p4 : Int32) (K : Int32 → Mem → Prop) (hw : w_L_sets n M p1 p2 p3 p4 K) : CT E l yL_sets cL_sets 14 (some .boolean) rmL_sets n M [rV p1, iV p2, iV p3, iV p4] (PI E n K) := by
  refine g_met l (by decide) (Nat.le_of_ble_eq_true rfl) ?_
  intro p e s m args below meth c X hr hlk hnm hSz hOld
  change CX E p s m c _ _ RL at X
  have L306 : ∀ (M : Mem) (o0 : Nat) (a4 : Int32) (a5 : Int32) (a6 : Int32) (a7 : Int32) (a8 : Int32), w_L_sets_L306 n K M o0 a4 a5 a6 a7 a8 → G E p l e rmL_sets s m args below meth c 14 n M 0 0 (MQD lw_cs below (PI E n K) args s rmL_sets.cells rmL_sets.slots (Ab E)) 306 [(0, rV o0), (4, iV a4), (5, iV a5), (6, iV a6), (7, iV a7), (8, iV a8)] [] := by
    intro M o0 a4 a5 a6 a7 a8 hw
    unfold w_L_sets_L306 at hw
    refine g_aload_n X dL_sets_306 0 rfl ?_
    refine g_iload X dL_sets_307 1 rfl ?_
    refine g_iload X dL_sets_309 4 rfl ?_
    refine g_iload X dL_sets_311 3 rfl ?_
    obtain ⟨hk27, hw⟩ := hw
    refine g_calli (pc' := 316) (rest := []) rfl (fun H locs ls d qR qL => g_runV X cw_L_97 iv_X5_equip ⟨Nat.le_of_ble_eq_true rfl, Nat.le_of_ble_eq_true rfl⟩ dL_sets_313 (c_X5_equip l E n M o0 a4 a7 a6 _ hw) hk27 rfl rfl (Nat.le_of_ble_eq_true rfl) ⟨Nat.le_of_ble_eq_true rfl, Nat.le_of_ble_eq_true rfl⟩ qR qL) (fun x29 M28 hw => ?_)
    refine g_iload X dL_sets_316 5 rfl ?_
    suffices kk : ∀ x30 : Int32, x30 = (if a8 = 0 then a5 else (-5 : Int32)) → G E p l e rmL_sets s m args below meth c 14 n M28 0 0 (MQD lw_cs below (PI E n K) args s rmL_sets.cells rmL_sets.slots (Ab E)) 328 [(0, rV o0), (4, iV a4), (5, iV a5), (6, iV a6), (7, iV a7), (8, iV a8)] [iV x30, iV x29] by
      refine g_if_eq X 326 dL_sets_318 (by decide) ⟨fun h => h, fun h => h⟩ (fun hc => ?_) (fun hc => ?_)
      · refine g_iload X dL_sets_326 2 rfl ?_
        exact kk _ (if_pos hc).symm
      · refine g_bipush X (-5 : Int32) dL_sets_321 (by decide) ?_
        refine g_goto X 328 dL_sets_323 (by decide) ?_
        exact kk _ (if_neg hc).symm
    intro x30 hx30
    have hw := hw x30 hx30
    refine g_icmp_ne X 374 dL_sets_328 (by decide) hw (fun hw => ?_) (fun hw => ?_)
    · refine g_iconst X (0 : Int32) dL_sets_374 (by decide) ?_
      exact g_zret X hr hlk hSz hOld (Nat.le_refl _) dL_sets_375 ⟨rfl, hw⟩
    · refine g_aload_n X dL_sets_331 0 rfl ?_
      refine g_iload X dL_sets_332 1 rfl ?_
      refine g_iconst X (0 : Int32) dL_sets_334 (by decide) ?_
      refine g_calli (pc' := 338) (rest := []) rfl (fun H locs ls d qR qL => g_runV X cw_L_23 iv_X5_head ⟨Nat.le_of_ble_eq_true rfl, Nat.le_of_ble_eq_true rfl⟩ dL_sets_335 (c_X5_head l E n M28 o0 a4 (0 : Int32) _ hw) hk27 rfl rfl (Nat.le_of_ble_eq_true rfl) ⟨Nat.le_of_ble_eq_true rfl, Nat.le_of_ble_eq_true rfl⟩ qR qL) (fun x32 M31 hw => ?_)
      refine g_iload X dL_sets_338 4 rfl ?_
      refine g_icmp_ne X 374 dL_sets_340 (by decide) hw (fun hw => ?_) (fun hw => ?_)
      · refine g_iconst X (0 : Int32) dL_sets_374 (by decide) ?_
        exact g_zret X hr hlk hSz hOld (Nat.le_refl _) dL_sets_375 ⟨rfl, hw⟩
      · refine g_aload_n X dL_sets_343 0 rfl ?_
        refine g_iload X dL_sets_344 1 rfl ?_
        refine g_iconst X (1 : Int32) dL_sets_346 (by decide) ?_
        refine g_calli (pc' := 350) (rest := []) rfl (fun H locs ls d qR qL => g_runV X cw_L_23 iv_X5_head ⟨Nat.le_of_ble_eq_true rfl, Nat.le_of_ble_eq_true rfl⟩ dL_sets_347 (c_X5_head l E n M31 o0 a4 (1 : Int32) _ hw) hk27 rfl rfl (Nat.le_of_ble_eq_true rfl) ⟨Nat.le_of_ble_eq_true rfl, Nat.le_of_ble_eq_true rfl⟩ qR qL) (fun x34 M33 hw => ?_)
        refine g_iload X dL_sets_350 3 rfl ?_
        refine g_icmp_ne X 374 dL_sets_352 (by decide) hw (fun hw => ?_) (fun hw => ?_)
        · refine g_iconst X (0 : Int32) dL_sets_374 (by decide) ?_
          exact g_zret X hr hlk hSz hOld (Nat.le_refl _) dL_sets_375 ⟨rfl, hw⟩
        · refine g_aload_n X dL_sets_355 0 rfl ?_
          refine g_iload X dL_sets_356 1 rfl ?_
          refine g_sipush X (1001 : Int32) dL_sets_358 (by decide) ?_
          refine g_iconst X (0 : Int32) dL_sets_361 (by decide) ?_
          refine g_calli (pc' := 365) (rest := []) rfl (fun H locs ls d qR qL => g_runV X cw_L_97 iv_X5_equip ⟨Nat.le_of_ble_eq_true rfl, Nat.le_of_ble_eq_true rfl⟩ dL_sets_362 (c_X5_equip l E n M33 o0 a4 (1001 : Int32) (0 : Int32) _ hw) hk27 rfl rfl (Nat.le_of_ble_eq_true rfl) ⟨Nat.le_of_ble_eq_true rfl, Nat.le_of_ble_eq_true rfl⟩ qR qL) (fun x36 M35 hw => ?_)
          refine g_bipush X (-2 : Int32) dL_sets_365 (by decide) ?_
          refine g_icmp_ne X 374 dL_sets_367 (by decide) hw (fun hw => ?_) (fun hw => ?_)
          · refine g_iconst X (0 : Int32) dL_sets_374 (by decide) ?_
            exact g_zret X hr hlk hSz hOld (Nat.le_refl _) dL_sets_375 ⟨rfl, hw⟩
          · refine g_iconst X (1 : Int32) dL_sets_370 (by decide) ?_
            refine g_goto X 375 dL_sets_371 (by decide) ?_
            exact g_zret X hr hlk hSz hOld (Nat.le_refl _) dL_sets_375 ⟨rfl, hw⟩
  have L269 : ∀ (M : Mem) (o0 : Nat) (a3 : Int32) (a4 : Int32) (a5 : Int32) (a6 : Int32), w_L_sets_L269 n K M o0 a3 a4 a5 a6 → G E p l e rmL_sets s m args below meth c 14 n M 0 0 (MQD lw_cs below (PI E n K) args s rmL_sets.cells rmL_sets.slots (Ab E)) 269 [(0, rV o0), (3, iV a3), (4, iV a4), (5, iV a5), (6, iV a6)] [] := by
    intro M o0 a3 a4 a5 a6 hw
    unfold w_L_sets_L269 at hw
    refine g_iload_n X dL_sets_269 1 rfl ?_
    refine g_iconst X (4 : Int32) dL_sets_270 (by decide) ?_
    refine g_ishr X dL_sets_271 ?_
    refine g_sipush X (1001 : Int32) dL_sets_272 (by decide) ?_
    refine g_calli (pc' := 278) (rest := []) rfl (fun H locs ls d qR qL => g_runS X cw_L_75 wt_L_low ⟨Nat.le_of_ble_eq_true rfl, Nat.le_of_ble_eq_true rfl⟩ dL_sets_275 (c_L_low l E n M (a3 >>> ((4 : Int32) &&& 31)) (1001 : Int32) _ hw) rfl rfl (Nat.le_of_ble_eq_true rfl) ⟨Nat.le_of_ble_eq_true rfl, Nat.le_of_ble_eq_true rfl⟩ qR qL) (fun x26 M25 hw => ?_)
    refine g_istore (lv' := [(7, iV x26), (0, rV o0), (3, iV a3), (4, iV a4), (5, iV a5), (6, iV a6)]) X dL_sets_278 (by decide) rfl ?_
    refine g_iload X dL_sets_280 4 rfl ?_
    refine g_iload X dL_sets_282 0 rfl ?_
    refine g_icmp_ne X 303 dL_sets_284 (by decide) hw (fun hw => ?_) (fun hw => ?_)
    · refine g_iconst X (0 : Int32) dL_sets_303 (by decide) ?_
      refine g_istore (lv' := [(8, iV (0 : Int32)), (7, iV x26), (0, rV o0), (3, iV a3), (4, iV a4), (5, iV a5), (6, iV a6)]) X dL_sets_304 (by decide) rfl ?_
      refine g_lvsub (lv' := [(0, rV o0), (4, iV a4), (5, iV a5), (6, iV a6), (7, iV x26), (8, iV (0 : Int32))]) [2, 4, 5, 6, 1, 0] rfl ?_
      exact L306 _ _ _ _ _ _ _ hw
    · refine g_aload_n X dL_sets_287 1 rfl ?_
      refine g_iload X dL_sets_288 3 rfl ?_
      refine g_iconst X (1 : Int32) dL_sets_290 (by decide) ?_
      obtain ⟨hk37, hw⟩ := hw
      refine g_calli (pc' := 294) (rest := []) rfl (fun H locs ls d qR qL => g_runV X cw_L_23 iv_X5_head ⟨Nat.le_of_ble_eq_true rfl, Nat.le_of_ble_eq_true rfl⟩ dL_sets_291 (c_X5_head l E n M25 o0 a4 (1 : Int32) _ hw) hk37 rfl rfl (Nat.le_of_ble_eq_true rfl) ⟨Nat.le_of_ble_eq_true rfl, Nat.le_of_ble_eq_true rfl⟩ qR qL) (fun x39 M38 hw => ?_)
      refine g_iload X dL_sets_294 5 rfl ?_
      suffices kk : ∀ x40 : Int32, x40 = (if x39 = a6 then (1 : Int32) else (0 : Int32)) → G E p l e rmL_sets s m args below meth c 14 n M38 0 0 (MQD lw_cs below (PI E n K) args s rmL_sets.cells rmL_sets.slots (Ab E)) 304 [(7, iV x26), (0, rV o0), (3, iV a3), (4, iV a4), (5, iV a5), (6, iV a6)] [iV x40] by
        refine g_icmp_ne X 303 dL_sets_296 (by decide) ⟨fun h => h, fun h => h⟩ (fun hc => ?_) (fun hc => ?_)
        · refine g_iconst X (0 : Int32) dL_sets_303 (by decide) ?_
          exact kk _ (if_neg hc).symm
        · refine g_iconst X (1 : Int32) dL_sets_299 (by decide) ?_
          refine g_goto X 304 dL_sets_300 (by decide) ?_
          exact kk _ (if_pos hc).symm
      intro x40 hx40
      have hw := hw x40 hx40
      refine g_istore (lv' := [(8, iV x40), (7, iV x26), (0, rV o0), (3, iV a3), (4, iV a4), (5, iV a5), (6, iV a6)]) X dL_sets_304 (by decide) rfl ?_
      refine g_lvsub (lv' := [(0, rV o0), (4, iV a4), (5, iV a5), (6, iV a6), (7, iV x26), (8, iV x40)]) [2, 4, 5, 6, 1, 0] rfl ?_
      exact L306 _ _ _ _ _ _ _ hw
  unfold w_L_sets at hw
  refine g_iload_n X dL_sets_0 2 rfl ?_
  refine g_aload_n X dL_sets_1 0 rfl ?_
  refine g_iconst X (0 : Int32) dL_sets_2 (by decide) ?_
  obtain ⟨hk1, hw⟩ := hw
  refine g_calli (pc' := 6) (rest := [iV p3]) rfl (fun H locs ls d qR qL => g_runV X cw_L_13 iv_X5_count ⟨Nat.le_of_ble_eq_true rfl, Nat.le_of_ble_eq_true rfl⟩ dL_sets_3 (c_X5_count l E n M p1 (0 : Int32) _ hw) hk1 rfl rfl (Nat.le_of_ble_eq_true rfl) ⟨Nat.le_of_ble_eq_true rfl, Nat.le_of_ble_eq_true rfl⟩ qR qL) (fun x3 M2 hw => ?_)
  refine g_calli (pc' := 9) (rest := []) rfl (fun H locs ls d qR qL => g_runS X cw_L_75 wt_L_low ⟨Nat.le_of_ble_eq_true rfl, Nat.le_of_ble_eq_true rfl⟩ dL_sets_6 (c_L_low l E n M2 p3 x3 _ hw) rfl rfl (Nat.le_of_ble_eq_true rfl) ⟨Nat.le_of_ble_eq_true rfl, Nat.le_of_ble_eq_true rfl⟩ qR qL) (fun x5 M4 hw => ?_)
  refine g_istore (lv' := [(4, iV x5), (0, rV p1), (1, iV p2), (2, iV p3), (3, iV p4)]) X dL_sets_9 (by decide) rfl ?_
  refine g_iload_n X dL_sets_11 2 rfl ?_
  refine g_if_ne X 152 dL_sets_12 (by decide) hw (fun hw => ?_) (fun hw => ?_)
  · refine g_iload_n X dL_sets_152 2 rfl ?_
    refine g_iconst X (1 : Int32) dL_sets_153 (by decide) ?_
    refine g_icmp_ne X 236 dL_sets_154 (by decide) hw (fun hw => ?_) (fun hw => ?_)
    · refine g_iload_n X dL_sets_236 2 rfl ?_
      refine g_iconst X (2 : Int32) dL_sets_237 (by decide) ?_
      refine g_icmp_ne X 376 dL_sets_238 (by decide) hw (fun hw => ?_) (fun hw => ?_)
      · refine g_aload_n X dL_sets_376 1 rfl ?_
        refine g_iload X dL_sets_377 0 rfl ?_
        refine g_iconst X (2 : Int32) dL_sets_379 (by decide) ?_
        refine g_calli (pc' := 383) (rest := []) rfl (fun H locs ls d qR qL => g_runV X cw_L_23 iv_X5_head ⟨Nat.le_of_ble_eq_true rfl, Nat.le_of_ble_eq_true rfl⟩ dL_sets_380 (c_X5_head l E n M4 p1 x5 (2 : Int32) _ hw) hk1 rfl rfl (Nat.le_of_ble_eq_true rfl) ⟨Nat.le_of_ble_eq_true rfl, Nat.le_of_ble_eq_true rfl⟩ qR qL) (fun x7 M6 hw => ?_)
        refine g_istore (lv' := [(5, iV x7), (4, iV x5), (0, rV p1), (1, iV p2), (2, iV p3), (3, iV p4)]) X dL_sets_383 (by decide) rfl ?_
        refine g_aload_n X dL_sets_385 2 rfl ?_
        refine g_iload X dL_sets_386 1 rfl ?_
        refine g_iconst X (3 : Int32) dL_sets_388 (by decide) ?_
        refine g_calli (pc' := 392) (rest := []) rfl (fun H locs ls d qR qL => g_runV X cw_L_23 iv_X5_head ⟨Nat.le_of_ble_eq_true rfl, Nat.le_of_ble_eq_true rfl⟩ dL_sets_389 (c_X5_head l E n M6 p1 x5 (3 : Int32) _ hw) hk1 rfl rfl (Nat.le_of_ble_eq_true rfl) ⟨Nat.le_of_ble_eq_true rfl, Nat.le_of_ble_eq_true rfl⟩ qR qL) (fun x9 M8 hw => ?_)
        suffices kk : ∀ x10 : Int32, x10 = (if x9 < 0 then (0 : Int32) else (1 : Int32)) → G E p l e rmL_sets s m args below meth c 14 n M8 0 0 (MQD lw_cs below (PI E n K) args s rmL_sets.cells rmL_sets.slots (Ab E)) 400 [(5, iV x7), (4, iV x5), (0, rV p1), (1, iV p2), (2, iV p3), (3, iV p4)] [iV x10] by
          refine g_if_lt X 399 dL_sets_392 (by decide) ⟨fun h => h, fun h => h⟩ (fun hc => ?_) (fun hc => ?_)
          · refine g_iconst X (0 : Int32) dL_sets_399 (by decide) ?_
            exact kk _ (if_pos hc).symm
          · refine g_iconst X (1 : Int32) dL_sets_395 (by decide) ?_
            refine g_goto X 400 dL_sets_396 (by decide) ?_
            exact kk _ (if_neg hc).symm
        intro x10 hx10
        have hw := hw x10 hx10
        refine g_istore (lv' := [(6, iV x10), (5, iV x7), (4, iV x5), (0, rV p1), (1, iV p2), (2, iV p3), (3, iV p4)]) X dL_sets_400 (by decide) rfl ?_
        refine g_aload_n X dL_sets_402 3 rfl ?_
        refine g_iload X dL_sets_403 2 rfl ?_
        refine g_iconst X (0 : Int32) dL_sets_405 (by decide) ?_
        refine g_calld (pc' := 409) (rest := []) rfl (fun H locs ls d qR qL => g_runV X cw_L_41 iv_X5_gauge ⟨Nat.le_of_ble_eq_true rfl, Nat.le_of_ble_eq_true rfl⟩ dL_sets_406 (c_X5_gauge l E n M8 p1 x5 (0 : Int32) _ hw) hk1 rfl rfl (Nat.le_of_ble_eq_true rfl) ⟨Nat.le_of_ble_eq_true rfl, Nat.le_of_ble_eq_true rfl⟩ qR qL) (fun z12 M11 hw => ?_)
        refine g_dstore (lv' := [(7, dV z12), (6, iV x10), (5, iV x7), (4, iV x5), (0, rV p1), (1, iV p2), (2, iV p3), (3, iV p4)]) X dL_sets_409 (by decide) rfl ?_
        refine g_aload_n X dL_sets_411 4 rfl ?_
        refine g_iload X dL_sets_412 3 rfl ?_
        refine g_iconst X (1 : Int32) dL_sets_414 (by decide) ?_
        refine g_iload_n X dL_sets_415 7 rfl ?_
        refine g_ldc X (99999 : Int32) dL_sets_416 wk_L_101 ?_
        refine g_calli (pc' := 421) (rest := [iV (1 : Int32), iV x5, rV p1]) rfl (fun H locs ls d qR qL => g_runS X cw_L_75 wt_L_low ⟨Nat.le_of_ble_eq_true rfl, Nat.le_of_ble_eq_true rfl⟩ dL_sets_418 (c_L_low l E n M11 p4 (99999 : Int32) _ hw) rfl rfl (Nat.le_of_ble_eq_true rfl) ⟨Nat.le_of_ble_eq_true rfl, Nat.le_of_ble_eq_true rfl⟩ qR qL) (fun x14 M13 hw => ?_)
        refine g_iadd X dL_sets_421 ?_
        refine g_calli (pc' := 425) (rest := []) rfl (fun H locs ls d qR qL => g_runV X cw_L_102 iv_X5_calibrate ⟨Nat.le_of_ble_eq_true rfl, Nat.le_of_ble_eq_true rfl⟩ dL_sets_422 (c_X5_calibrate l E n M13 p1 x5 ((1 : Int32) + x14) _ hw) hk1 rfl rfl (Nat.le_of_ble_eq_true rfl) ⟨Nat.le_of_ble_eq_true rfl, Nat.le_of_ble_eq_true rfl⟩ qR qL) (fun x16 M15 hw => ?_)
        refine g_istore (lv' := [(9, iV x16), (7, dV z12), (6, iV x10), (5, iV x7), (4, iV x5), (0, rV p1), (1, iV p2), (2, iV p3), (3, iV p4)]) X dL_sets_425 (by decide) rfl ?_
        refine g_iload X dL_sets_427 2 rfl ?_
        refine g_if_eq X 445 dL_sets_429 (by decide) hw (fun hw => ?_) (fun hw => ?_)
        · refine g_aload_n X dL_sets_445 5 rfl ?_
          refine g_iload X dL_sets_446 4 rfl ?_
          refine g_iconst X (1 : Int32) dL_sets_448 (by decide) ?_
          refine g_calld (pc' := 452) (rest := []) rfl (fun H locs ls d qR qL => g_runV X cw_L_41 iv_X5_gauge ⟨Nat.le_of_ble_eq_true rfl, Nat.le_of_ble_eq_true rfl⟩ dL_sets_449 (c_X5_gauge l E n M15 p1 x5 (1 : Int32) _ hw) hk1 rfl rfl (Nat.le_of_ble_eq_true rfl) ⟨Nat.le_of_ble_eq_true rfl, Nat.le_of_ble_eq_true rfl⟩ qR qL) (fun z18 M17 hw => ?_)
          refine g_dstore (lv' := [(10, dV z18), (9, iV x16), (7, dV z12), (6, iV x10), (5, iV x7), (4, iV x5), (0, rV p1), (1, iV p2), (2, iV p3), (3, iV p4)]) X dL_sets_452 (by decide) rfl ?_
          refine g_dload X dL_sets_454 0 rfl ?_
          refine g_dload X dL_sets_456 2 rfl ?_
          refine g_dmul X dL_sets_458 hw (fun hw => ?_)
          refine g_topD (fun z19 hz19 => ?_)
          have hw := hw z19 hz19
          refine g_dconst1 X dL_sets_459 ?_
          refine g_dsub X dL_sets_460 hw (fun hw => ?_)
          refine g_topD (fun z20 hz20 => ?_)
          have hw := hw z20 hz20
          refine g_dstore (lv' := [(12, dV z20), (10, dV z18), (9, iV x16), (7, dV z12), (6, iV x10), (5, iV x7), (4, iV x5), (0, rV p1), (1, iV p2), (2, iV p3), (3, iV p4)]) X dL_sets_461 (by decide) rfl ?_
          refine g_iload X dL_sets_463 2 rfl ?_
          refine g_iload X dL_sets_465 5 rfl ?_
          refine g_icmp_ne X 519 dL_sets_467 (by decide) hw (fun hw => ?_) (fun hw => ?_)
          · refine g_iconst X (0 : Int32) dL_sets_519 (by decide) ?_
            exact g_zret X hr hlk hSz hOld (Nat.le_refl _) dL_sets_520 ⟨rfl, hw⟩
          · refine g_aload_n X dL_sets_470 7 rfl ?_
            refine g_iload X dL_sets_471 6 rfl ?_
            refine g_iconst X (2 : Int32) dL_sets_473 (by decide) ?_
            refine g_calli (pc' := 477) (rest := []) rfl (fun H locs ls d qR qL => g_runV X cw_L_23 iv_X5_head ⟨Nat.le_of_ble_eq_true rfl, Nat.le_of_ble_eq_true rfl⟩ dL_sets_474 (c_X5_head l E n M17 p1 x5 (2 : Int32) _ hw) hk1 rfl rfl (Nat.le_of_ble_eq_true rfl) ⟨Nat.le_of_ble_eq_true rfl, Nat.le_of_ble_eq_true rfl⟩ qR qL) (fun x22 M21 hw => ?_)
            refine g_if_ne X 519 dL_sets_477 (by decide) hw (fun hw => ?_) (fun hw => ?_)
            · refine g_iconst X (0 : Int32) dL_sets_519 (by decide) ?_
              exact g_zret X hr hlk hSz hOld (Nat.le_refl _) dL_sets_520 ⟨rfl, hw⟩
            · refine g_dload X dL_sets_480 3 rfl ?_
              refine g_dconst1 X dL_sets_482 ?_
              refine g_dcmp X dL_sets_483 ?_
              refine g_if_ne X 497 dL_sets_484 (by decide) hw (fun hw => ?_) (fun hw => ?_)
              · refine g_dload X dL_sets_497 0 rfl ?_
                refine g_ldcD X (4517329193108106637 : UInt64) dL_sets_499 wk_L_105 ?_
                refine g_dcmp X dL_sets_502 ?_
                refine g_if_ge X 519 dL_sets_503 (by decide) hw (fun hw => ?_) (fun hw => ?_)
                · refine g_iconst X (0 : Int32) dL_sets_519 (by decide) ?_
                  exact g_zret X hr hlk hSz hOld (Nat.le_refl _) dL_sets_520 ⟨rfl, hw⟩
                · refine g_dload X dL_sets_506 0 rfl ?_
                  refine g_ldcD X (13740701229962882445 : UInt64) dL_sets_508 wk_L_107 ?_
                  refine g_dcmp X dL_sets_511 ?_
                  refine g_if_le X 519 dL_sets_512 (by decide) hw (fun hw => ?_) (fun hw => ?_)
                  · refine g_iconst X (0 : Int32) dL_sets_519 (by decide) ?_
                    exact g_zret X hr hlk hSz hOld (Nat.le_refl _) dL_sets_520 ⟨rfl, hw⟩
                  · refine g_iconst X (1 : Int32) dL_sets_515 (by decide) ?_
                    refine g_goto X 520 dL_sets_516 (by decide) ?_
                    exact g_zret X hr hlk hSz hOld (Nat.le_refl _) dL_sets_520 ⟨rfl, hw⟩
              · refine g_dload X dL_sets_487 1 rfl ?_
                refine g_dconst1 X dL_sets_489 ?_
                refine g_dcmp X dL_sets_490 ?_
                refine g_if_ne X 519 dL_sets_491 (by decide) hw (fun hw => ?_) (fun hw => ?_)
                · refine g_iconst X (0 : Int32) dL_sets_519 (by decide) ?_
                  exact g_zret X hr hlk hSz hOld (Nat.le_refl _) dL_sets_520 ⟨rfl, hw⟩
                · refine g_goto X 515 dL_sets_494 (by decide) ?_
                  refine g_iconst X (1 : Int32) dL_sets_515 (by decide) ?_
                  refine g_goto X 520 dL_sets_516 (by decide) ?_
                  exact g_zret X hr hlk hSz hOld (Nat.le_refl _) dL_sets_520 ⟨rfl, hw⟩
        · refine g_iload X dL_sets_432 0 rfl ?_
          refine g_bipush X (-4 : Int32) dL_sets_434 (by decide) ?_
          refine g_icmp_ne X 443 dL_sets_436 (by decide) hw (fun hw => ?_) (fun hw => ?_)
          · refine g_iconst X (0 : Int32) dL_sets_443 (by decide) ?_
            exact g_zret X hr hlk hSz hOld (Nat.le_refl _) dL_sets_444 ⟨rfl, hw⟩
          · refine g_iconst X (1 : Int32) dL_sets_439 (by decide) ?_
            refine g_goto X 444 dL_sets_440 (by decide) ?_
            exact g_zret X hr hlk hSz hOld (Nat.le_refl _) dL_sets_444 ⟨rfl, hw⟩
      · refine g_aload_n X dL_sets_241 1 rfl ?_
        refine g_iload X dL_sets_242 0 rfl ?_
        refine g_iconst X (0 : Int32) dL_sets_244 (by decide) ?_
        refine g_calli (pc' := 248) (rest := []) rfl (fun H locs ls d qR qL => g_runV X cw_L_23 iv_X5_head ⟨Nat.le_of_ble_eq_true rfl, Nat.le_of_ble_eq_true rfl⟩ dL_sets_245 (c_X5_head l E n M4 p1 x5 (0 : Int32) _ hw) hk1 rfl rfl (Nat.le_of_ble_eq_true rfl) ⟨Nat.le_of_ble_eq_true rfl, Nat.le_of_ble_eq_true rfl⟩ qR qL) (fun x24 M23 hw => ?_)
        refine g_istore (lv' := [(5, iV x24), (4, iV x5), (0, rV p1), (1, iV p2), (2, iV p3), (3, iV p4)]) X dL_sets_248 (by decide) rfl ?_
        refine g_iload_n X dL_sets_250 5 rfl ?_
        refine g_iconst X (3 : Int32) dL_sets_251 (by decide) ?_
        refine g_iand X dL_sets_252 ?_
        refine g_if_ne X 266 dL_sets_253 (by decide) hw (fun hw => ?_) (fun hw => ?_)
        · refine g_iconst X (0 : Int32) dL_sets_266 (by decide) ?_
          refine g_istore (lv' := [(6, iV (0 : Int32)), (5, iV x24), (4, iV x5), (0, rV p1), (1, iV p2), (2, iV p3), (3, iV p4)]) X dL_sets_267 (by decide) rfl ?_
          refine g_lvsub (lv' := [(0, rV p1), (3, iV p4), (4, iV x5), (5, iV x24), (6, iV (0 : Int32))]) [3, 6, 2, 1, 0] rfl ?_
          exact L269 _ _ _ _ _ _ hw
        · refine g_iload_n X dL_sets_256 5 rfl ?_
          refine g_iconst X (2 : Int32) dL_sets_257 (by decide) ?_
          refine g_ishr X dL_sets_258 ?_
          refine g_iconst X (3 : Int32) dL_sets_259 (by decide) ?_
          refine g_calli (pc' := 263) (rest := []) rfl (fun H locs ls d qR qL => g_runS X cw_L_75 wt_L_low ⟨Nat.le_of_ble_eq_true rfl, Nat.le_of_ble_eq_true rfl⟩ dL_sets_260 (c_L_low l E n M23 (p4 >>> ((2 : Int32) &&& 31)) (3 : Int32) _ hw) rfl rfl (Nat.le_of_ble_eq_true rfl) ⟨Nat.le_of_ble_eq_true rfl, Nat.le_of_ble_eq_true rfl⟩ qR qL) (fun x42 M41 hw => ?_)
          refine g_goto X 267 dL_sets_263 (by decide) ?_
          refine g_istore (lv' := [(6, iV x42), (5, iV x24), (4, iV x5), (0, rV p1), (1, iV p2), (2, iV p3), (3, iV p4)]) X dL_sets_267 (by decide) rfl ?_
          refine g_lvsub (lv' := [(0, rV p1), (3, iV p4), (4, iV x5), (5, iV x24), (6, iV x42)]) [3, 6, 2, 1, 0] rfl ?_
          exact L269 _ _ _ _ _ _ hw
    · refine g_aload_n X dL_sets_157 1 rfl ?_
      refine g_bipush X (9 : Int32) dL_sets_158 (by decide) ?_
      refine g_calli (pc' := 163) (rest := []) rfl (fun H locs ls d qR qL => g_runV X cw_L_13 iv_X5_count ⟨Nat.le_of_ble_eq_true rfl, Nat.le_of_ble_eq_true rfl⟩ dL_sets_160 (c_X5_count l E n M4 p1 (9 : Int32) _ hw) hk1 rfl rfl (Nat.le_of_ble_eq_true rfl) ⟨Nat.le_of_ble_eq_true rfl, Nat.le_of_ble_eq_true rfl⟩ qR qL) (fun x44 M43 hw => ?_)
      refine g_istore (lv' := [(5, iV x44), (4, iV x5), (0, rV p1), (1, iV p2), (2, iV p3), (3, iV p4)]) X dL_sets_163 (by decide) rfl ?_
      refine g_iconst X (1 : Int32) dL_sets_165 (by decide) ?_
      refine g_iload_n X dL_sets_166 5 rfl ?_
      refine g_iload_n X dL_sets_167 5 rfl ?_
      refine g_iconst X (1 : Int32) dL_sets_168 (by decide) ?_
      refine g_iand X dL_sets_169 ?_
      suffices kk : ∀ x45 : Int32, x45 = (if (p4 &&& (1 : Int32)) = 0 then (4 : Int32) else (99 : Int32)) → G E p l e rmL_sets s m args below meth c 14 n M43 0 0 (MQD lw_cs below (PI E n K) args s rmL_sets.cells rmL_sets.slots (Ab E)) 179 [(5, iV x44), (4, iV x5), (0, rV p1), (1, iV p2), (2, iV p3), (3, iV p4)] [iV x45, iV p4, iV (1 : Int32)] by
        refine g_if_ne X 177 dL_sets_170 (by decide) ⟨fun h => h, fun h => h⟩ (fun hc => ?_) (fun hc => ?_)
        · refine g_bipush X (99 : Int32) dL_sets_177 (by decide) ?_
          exact kk _ (if_neg hc).symm
        · refine g_iconst X (4 : Int32) dL_sets_173 (by decide) ?_
          refine g_goto X 179 dL_sets_174 (by decide) ?_
          exact kk _ (if_pos hc).symm
      intro x45 hx45
      have hw := hw x45 hx45
      refine g_calli (pc' := 182) (rest := [iV (1 : Int32)]) rfl (fun H locs ls d qR qL => g_runS X cw_L_75 wt_L_low ⟨Nat.le_of_ble_eq_true rfl, Nat.le_of_ble_eq_true rfl⟩ dL_sets_179 (c_L_low l E n M43 p4 x45 _ hw) rfl rfl (Nat.le_of_ble_eq_true rfl) ⟨Nat.le_of_ble_eq_true rfl, Nat.le_of_ble_eq_true rfl⟩ qR qL) (fun x47 M46 hw => ?_)
      refine g_iadd X dL_sets_182 ?_
      refine g_topI (fun x48 hx48 => ?_)
      have hw := hw x48 hx48
      refine g_istore (lv' := [(6, iV x48), (5, iV x44), (4, iV x5), (0, rV p1), (1, iV p2), (2, iV p3), (3, iV p4)]) X dL_sets_183 (by decide) rfl ?_
      refine g_aload_n X dL_sets_185 3 rfl ?_
      refine g_iload X dL_sets_186 0 rfl ?_
      refine g_calli (pc' := 191) (rest := []) rfl (fun H locs ls d qR qL => g_runV X cw_L_94 iv_X5_setInterval ⟨Nat.le_of_ble_eq_true rfl, Nat.le_of_ble_eq_true rfl⟩ dL_sets_188 (c_X5_setInterval l E n M46 p1 x48 _ hw) hk1 rfl rfl (Nat.le_of_ble_eq_true rfl) ⟨Nat.le_of_ble_eq_true rfl, Nat.le_of_ble_eq_true rfl⟩ qR qL) (fun x50 M49 hw => ?_)
      refine g_iload X dL_sets_191 1 rfl ?_
      refine g_iload X dL_sets_193 0 rfl ?_
      suffices kk : ∀ x51 : Int32, x51 = (if x44 = x48 then (-5 : Int32) else x44) → G E p l e rmL_sets s m args below meth c 14 n M49 0 0 (MQD lw_cs below (PI E n K) args s rmL_sets.cells rmL_sets.slots (Ab E)) 205 [(6, iV x48), (5, iV x44), (4, iV x5), (0, rV p1), (1, iV p2), (2, iV p3), (3, iV p4)] [iV x51, iV x50] by
        refine g_icmp_ne X 203 dL_sets_195 (by decide) ⟨fun h => h, fun h => h⟩ (fun hc => ?_) (fun hc => ?_)
        · refine g_iload X dL_sets_203 1 rfl ?_
          exact kk _ (if_neg hc).symm
        · refine g_bipush X (-5 : Int32) dL_sets_198 (by decide) ?_
          refine g_goto X 205 dL_sets_200 (by decide) ?_
          exact kk _ (if_pos hc).symm
      intro x51 hx51
      have hw := hw x51 hx51
      refine g_icmp_ne X 234 dL_sets_205 (by decide) hw (fun hw => ?_) (fun hw => ?_)
      · refine g_iconst X (0 : Int32) dL_sets_234 (by decide) ?_
        exact g_zret X hr hlk hSz hOld (Nat.le_refl _) dL_sets_235 ⟨rfl, hw⟩
      · refine g_aload_n X dL_sets_208 3 rfl ?_
        refine g_bipush X (9 : Int32) dL_sets_209 (by decide) ?_
        refine g_calli (pc' := 214) (rest := []) rfl (fun H locs ls d qR qL => g_runV X cw_L_13 iv_X5_count ⟨Nat.le_of_ble_eq_true rfl, Nat.le_of_ble_eq_true rfl⟩ dL_sets_211 (c_X5_count l E n M49 p1 (9 : Int32) _ hw) hk1 rfl rfl (Nat.le_of_ble_eq_true rfl) ⟨Nat.le_of_ble_eq_true rfl, Nat.le_of_ble_eq_true rfl⟩ qR qL) (fun x53 M52 hw => ?_)
        refine g_iload X dL_sets_214 0 rfl ?_
        refine g_icmp_ne X 234 dL_sets_216 (by decide) hw (fun hw => ?_) (fun hw => ?_)
        · refine g_iconst X (0 : Int32) dL_sets_234 (by decide) ?_
          exact g_zret X hr hlk hSz hOld (Nat.le_refl _) dL_sets_235 ⟨rfl, hw⟩
        · refine g_aload_n X dL_sets_219 3 rfl ?_
          refine g_bipush X (100 : Int32) dL_sets_220 (by decide) ?_
          refine g_calli (pc' := 225) (rest := []) rfl (fun H locs ls d qR qL => g_runV X cw_L_94 iv_X5_setInterval ⟨Nat.le_of_ble_eq_true rfl, Nat.le_of_ble_eq_true rfl⟩ dL_sets_222 (c_X5_setInterval l E n M52 p1 (100 : Int32) _ hw) hk1 rfl rfl (Nat.le_of_ble_eq_true rfl) ⟨Nat.le_of_ble_eq_true rfl, Nat.le_of_ble_eq_true rfl⟩ qR qL) (fun x55 M54 hw => ?_)
          refine g_bipush X (-2 : Int32) dL_sets_225 (by decide) ?_
          refine g_icmp_ne X 234 dL_sets_227 (by decide) hw (fun hw => ?_) (fun hw => ?_)
          · refine g_iconst X (0 : Int32) dL_sets_234 (by decide) ?_
            exact g_zret X hr hlk hSz hOld (Nat.le_refl _) dL_sets_235 ⟨rfl, hw⟩
          · refine g_iconst X (1 : Int32) dL_sets_230 (by decide) ?_
            refine g_goto X 235 dL_sets_231 (by decide) ?_
            exact g_zret X hr hlk hSz hOld (Nat.le_refl _) dL_sets_235 ⟨rfl, hw⟩
  · refine g_iload_n X dL_sets_15 4 rfl ?_
    refine g_iconst X (3 : Int32) dL_sets_16 (by decide) ?_
    refine g_calli (pc' := 20) (rest := []) rfl (fun H locs ls d qR qL => g_runS X cw_L_75 wt_L_low ⟨Nat.le_of_ble_eq_true rfl, Nat.le_of_ble_eq_true rfl⟩ dL_sets_17 (c_L_low l E n M4 p4 (3 : Int32) _ hw) rfl rfl (Nat.le_of_ble_eq_true rfl) ⟨Nat.le_of_ble_eq_true rfl, Nat.le_of_ble_eq_true rfl⟩ qR qL) (fun x57 M56 hw => ?_)
    refine g_istore (lv' := [(5, iV x57), (4, iV x5), (0, rV p1), (1, iV p2), (2, iV p3), (3, iV p4)]) X dL_sets_20 (by decide) rfl ?_
    refine g_aload_n X dL_sets_22 2 rfl ?_
    refine g_iload X dL_sets_23 0 rfl ?_
    refine g_calll (pc' := 28) (rest := []) rfl (fun H locs ls d qR qL => g_runV X cw_L_19 iv_X5_pressureBits ⟨Nat.le_of_ble_eq_true rfl, Nat.le_of_ble_eq_true rfl⟩ dL_sets_25 (c_X5_pressureBits l E n M56 p1 x57 _ hw) hk1 rfl rfl (Nat.le_of_ble_eq_true rfl) ⟨Nat.le_of_ble_eq_true rfl, Nat.le_of_ble_eq_true rfl⟩ qR qL) (fun y59 M58 hw => ?_)
    refine g_lstore (lv' := [(6, lV y59), (5, iV x57), (4, iV x5), (0, rV p1), (1, iV p2), (2, iV p3), (3, iV p4)]) X dL_sets_28 (by decide) rfl ?_
    refine g_iload X dL_sets_30 1 rfl ?_
    refine g_iload_n X dL_sets_32 6 rfl ?_
    refine g_iconst X (3 : Int32) dL_sets_33 (by decide) ?_
    refine g_ishr X dL_sets_34 ?_
    refine g_iconst X (3 : Int32) dL_sets_35 (by decide) ?_
    refine g_iand X dL_sets_36 ?_
    refine g_calll (pc' := 40) (rest := []) rfl (fun H locs ls d qR qL => g_runS X cw_L_78 wt_L_bits ⟨Nat.le_of_ble_eq_true rfl, Nat.le_of_ble_eq_true rfl⟩ dL_sets_37 (c_L_bits l E n M58 x57 ((p4 >>> ((3 : Int32) &&& 31)) &&& (3 : Int32)) _ hw) rfl rfl (Nat.le_of_ble_eq_true rfl) ⟨Nat.le_of_ble_eq_true rfl, Nat.le_of_ble_eq_true rfl⟩ qR qL) (fun y61 M60 hw => ?_)
    refine g_lstore (lv' := [(8, lV y61), (6, lV y59), (5, iV x57), (4, iV x5), (0, rV p1), (1, iV p2), (2, iV p3), (3, iV p4)]) X dL_sets_40 (by decide) rfl ?_
    refine g_aload_n X dL_sets_42 4 rfl ?_
    refine g_iload X dL_sets_43 2 rfl ?_
    refine g_ldcL X (9221120237041090560 : Int64) dL_sets_45 wk_L_82 ?_
    refine g_calli (pc' := 51) (rest := []) rfl (fun H locs ls d qR qL => g_runV X cw_L_84 iv_X5_setPressure ⟨Nat.le_of_ble_eq_true rfl, Nat.le_of_ble_eq_true rfl⟩ dL_sets_48 (c_X5_setPressure l E n M60 p1 x57 (9221120237041090560 : Int64) _ hw) hk1 rfl rfl (Nat.le_of_ble_eq_true rfl) ⟨Nat.le_of_ble_eq_true rfl, Nat.le_of_ble_eq_true rfl⟩ qR qL) (fun x63 M62 hw => ?_)
    refine g_bipush X (-2 : Int32) dL_sets_51 (by decide) ?_
    refine g_icmp_ne X 101 dL_sets_53 (by decide) hw (fun hw => ?_) (fun hw => ?_)
    · refine g_iconst X (0 : Int32) dL_sets_101 (by decide) ?_
      refine g_istore (lv' := [(10, iV (0 : Int32)), (8, lV y61), (6, lV y59), (5, iV x57), (4, iV x5), (0, rV p1), (1, iV p2), (2, iV p3), (3, iV p4)]) X dL_sets_102 (by decide) rfl ?_
      refine g_iload X dL_sets_104 0 rfl ?_
      refine g_if_eq (B := False) X 150 dL_sets_106 (by decide) ⟨fun _ => hw, fun h => absurd h (by decide)⟩ (fun hw => ?_) (fun h => h.elim)
      refine g_iconst X (0 : Int32) dL_sets_150 (by decide) ?_
      exact g_zret X hr hlk hSz hOld (Nat.le_refl _) dL_sets_151 ⟨rfl, hw⟩
    · refine g_aload_n X dL_sets_56 4 rfl ?_
      refine g_iload X dL_sets_57 2 rfl ?_
      refine g_ldcL X (-9223372036854775808 : Int64) dL_sets_59 wk_L_88 ?_
      refine g_calli (pc' := 65) (rest := []) rfl (fun H locs ls d qR qL => g_runV X cw_L_84 iv_X5_setPressure ⟨Nat.le_of_ble_eq_true rfl, Nat.le_of_ble_eq_true rfl⟩ dL_sets_62 (c_X5_setPressure l E n M62 p1 x57 (-9223372036854775808 : Int64) _ hw) hk1 rfl rfl (Nat.le_of_ble_eq_true rfl) ⟨Nat.le_of_ble_eq_true rfl, Nat.le_of_ble_eq_true rfl⟩ qR qL) (fun x65 M64 hw => ?_)
      refine g_bipush X (-2 : Int32) dL_sets_65 (by decide) ?_
      refine g_icmp_ne X 101 dL_sets_67 (by decide) hw (fun hw => ?_) (fun hw => ?_)
      · refine g_iconst X (0 : Int32) dL_sets_101 (by decide) ?_
        refine g_istore (lv' := [(10, iV (0 : Int32)), (8, lV y61), (6, lV y59), (5, iV x57), (4, iV x5), (0, rV p1), (1, iV p2), (2, iV p3), (3, iV p4)]) X dL_sets_102 (by decide) rfl ?_
        refine g_iload X dL_sets_104 0 rfl ?_
        refine g_if_eq (B := False) X 150 dL_sets_106 (by decide) ⟨fun _ => hw, fun h => absurd h (by decide)⟩ (fun hw => ?_) (fun h => h.elim)
        refine g_iconst X (0 : Int32) dL_sets_150 (by decide) ?_
        exact g_zret X hr hlk hSz hOld (Nat.le_refl _) dL_sets_151 ⟨rfl, hw⟩
      · refine g_aload_n X dL_sets_70 4 rfl ?_
        refine g_iload X dL_sets_71 2 rfl ?_
        refine g_ldcL X (4696837155274620928 : Int64) dL_sets_73 wk_L_90 ?_
        refine g_calli (pc' := 79) (rest := []) rfl (fun H locs ls d qR qL => g_runV X cw_L_84 iv_X5_setPressure ⟨Nat.le_of_ble_eq_true rfl, Nat.le_of_ble_eq_true rfl⟩ dL_sets_76 (c_X5_setPressure l E n M64 p1 x57 (4696837155274620928 : Int64) _ hw) hk1 rfl rfl (Nat.le_of_ble_eq_true rfl) ⟨Nat.le_of_ble_eq_true rfl, Nat.le_of_ble_eq_true rfl⟩ qR qL) (fun x67 M66 hw => ?_)
        refine g_bipush X (-2 : Int32) dL_sets_79 (by decide) ?_
        refine g_icmp_ne X 101 dL_sets_81 (by decide) hw (fun hw => ?_) (fun hw => ?_)
        · refine g_iconst X (0 : Int32) dL_sets_101 (by decide) ?_
          refine g_istore (lv' := [(10, iV (0 : Int32)), (8, lV y61), (6, lV y59), (5, iV x57), (4, iV x5), (0, rV p1), (1, iV p2), (2, iV p3), (3, iV p4)]) X dL_sets_102 (by decide) rfl ?_
          refine g_iload X dL_sets_104 0 rfl ?_
          refine g_if_eq (B := False) X 150 dL_sets_106 (by decide) ⟨fun _ => hw, fun h => absurd h (by decide)⟩ (fun hw => ?_) (fun h => h.elim)
          refine g_iconst X (0 : Int32) dL_sets_150 (by decide) ?_
          exact g_zret X hr hlk hSz hOld (Nat.le_refl _) dL_sets_151 ⟨rfl, hw⟩
        · refine g_aload_n X dL_sets_84 4 rfl ?_
          refine g_iconst X (0 : Int32) dL_sets_85 (by decide) ?_
          refine g_ldcL X (4602678819172646912 : Int64) dL_sets_86 wk_L_92 ?_
          refine g_calli (pc' := 92) (rest := []) rfl (fun H locs ls d qR qL => g_runV X cw_L_84 iv_X5_setPressure ⟨Nat.le_of_ble_eq_true rfl, Nat.le_of_ble_eq_true rfl⟩ dL_sets_89 (c_X5_setPressure l E n M66 p1 (0 : Int32) (4602678819172646912 : Int64) _ hw) hk1 rfl rfl (Nat.le_of_ble_eq_true rfl) ⟨Nat.le_of_ble_eq_true rfl, Nat.le_of_ble_eq_true rfl⟩ qR qL) (fun x69 M68 hw => ?_)
          refine g_bipush X (-2 : Int32) dL_sets_92 (by decide) ?_
          suffices kk : ∀ x70 : Int32, x70 = (if x69 = (-2 : Int32) then (1 : Int32) else (0 : Int32)) → G E p l e rmL_sets s m args below meth c 14 n M68 0 0 (MQD lw_cs below (PI E n K) args s rmL_sets.cells rmL_sets.slots (Ab E)) 102 [(8, lV y61), (6, lV y59), (5, iV x57), (4, iV x5), (0, rV p1), (1, iV p2), (2, iV p3), (3, iV p4)] [iV x70] by
            refine g_icmp_ne X 101 dL_sets_94 (by decide) ⟨fun h => h, fun h => h⟩ (fun hc => ?_) (fun hc => ?_)
            · refine g_iconst X (0 : Int32) dL_sets_101 (by decide) ?_
              exact kk _ (if_neg hc).symm
            · refine g_iconst X (1 : Int32) dL_sets_97 (by decide) ?_
              refine g_goto X 102 dL_sets_98 (by decide) ?_
              exact kk _ (if_pos hc).symm
          intro x70 hx70
          have hw := hw x70 hx70
          refine g_istore (lv' := [(10, iV x70), (8, lV y61), (6, lV y59), (5, iV x57), (4, iV x5), (0, rV p1), (1, iV p2), (2, iV p3), (3, iV p4)]) X dL_sets_102 (by decide) rfl ?_
          refine g_iload X dL_sets_104 0 rfl ?_
          refine g_if_eq X 150 dL_sets_106 (by decide) hw (fun hw => ?_) (fun hw => ?_)
          · refine g_iconst X (0 : Int32) dL_sets_150 (by decide) ?_
            exact g_zret X hr hlk hSz hOld (Nat.le_refl _) dL_sets_151 ⟨rfl, hw⟩
          · refine g_aload_n X dL_sets_109 5 rfl ?_
            refine g_iload X dL_sets_110 3 rfl ?_
            refine g_lload X dL_sets_112 1 rfl ?_
            refine g_calli (pc' := 117) (rest := []) rfl (fun H locs ls d qR qL => g_runV X cw_L_84 iv_X5_setPressure ⟨Nat.le_of_ble_eq_true rfl, Nat.le_of_ble_eq_true rfl⟩ dL_sets_114 (c_X5_setPressure l E n M68 p1 x57 y61 _ hw) hk1 rfl rfl (Nat.le_of_ble_eq_true rfl) ⟨Nat.le_of_ble_eq_true rfl, Nat.le_of_ble_eq_true rfl⟩ qR qL) (fun x72 M71 hw => ?_)
            refine g_lload X dL_sets_117 2 rfl ?_
            refine g_lload X dL_sets_119 1 rfl ?_
            refine g_lcmp X dL_sets_121 ?_
            suffices kk : ∀ x73 : Int32, x73 = (if (lg_cmp y59 y61) = 0 then (-5 : Int32) else (1 : Int32)) → G E p l e rmL_sets s m args below meth c 14 n M71 0 0 (MQD lw_cs below (PI E n K) args s rmL_sets.cells rmL_sets.slots (Ab E)) 131 [(10, iV x70), (8, lV y61), (6, lV y59), (5, iV x57), (4, iV x5), (0, rV p1), (1, iV p2), (2, iV p3), (3, iV p4)] [iV x73, iV x72] by
              refine g_if_ne X 130 dL_sets_122 (by decide) ⟨fun h => h, fun h => h⟩ (fun hc => ?_) (fun hc => ?_)
              · refine g_iconst X (1 : Int32) dL_sets_130 (by decide) ?_
                exact kk _ (if_neg hc).symm
              · refine g_bipush X (-5 : Int32) dL_sets_125 (by decide) ?_
                refine g_goto X 131 dL_sets_127 (by decide) ?_
                exact kk _ (if_pos hc).symm
            intro x73 hx73
            have hw := hw x73 hx73
            refine g_icmp_ne X 150 dL_sets_131 (by decide) hw (fun hw => ?_) (fun hw => ?_)
            · refine g_iconst X (0 : Int32) dL_sets_150 (by decide) ?_
              exact g_zret X hr hlk hSz hOld (Nat.le_refl _) dL_sets_151 ⟨rfl, hw⟩
            · refine g_aload_n X dL_sets_134 5 rfl ?_
              refine g_iload X dL_sets_135 3 rfl ?_
              refine g_calll (pc' := 140) (rest := []) rfl (fun H locs ls d qR qL => g_runV X cw_L_19 iv_X5_pressureBits ⟨Nat.le_of_ble_eq_true rfl, Nat.le_of_ble_eq_true rfl⟩ dL_sets_137 (c_X5_pressureBits l E n M71 p1 x57 _ hw) hk1 rfl rfl (Nat.le_of_ble_eq_true rfl) ⟨Nat.le_of_ble_eq_true rfl, Nat.le_of_ble_eq_true rfl⟩ qR qL) (fun y75 M74 hw => ?_)
              refine g_lload X dL_sets_140 1 rfl ?_
              refine g_lcmp X dL_sets_142 ?_
              refine g_if_ne X 150 dL_sets_143 (by decide) hw (fun hw => ?_) (fun hw => ?_)
              · refine g_iconst X (0 : Int32) dL_sets_150 (by decide) ?_
                exact g_zret X hr hlk hSz hOld (Nat.le_refl _) dL_sets_151 ⟨rfl, hw⟩
              · refine g_iconst X (1 : Int32) dL_sets_146 (by decide) ?_
                refine g_goto X 151 dL_sets_147 (by decide) ?_
                exact g_zret X hr hlk hSz hOld (Nat.le_refl _) dL_sets_151 ⟨rfl, hw⟩
theorem dL_command_0 : decode cL_command 0 = .ok (.aload_n 0, 1) := by decide +kernel
theorem dL_command_1 : decode cL_command 1 = .ok (.invokevirtual 109, 3) := by decide +kernel
theorem dL_command_4 : decode cL_command 4 = .ok (.pop, 1) := by decide +kernel
theorem dL_command_5 : decode cL_command 5 = .ok (.iconst 0, 1) := by decide +kernel
theorem dL_command_6 : decode cL_command 6 = .ok (.istore_n 2, 1) := by decide +kernel
theorem dL_command_7 : decode cL_command 7 = .ok (.iconst 0, 1) := by decide +kernel
theorem dL_command_8 : decode cL_command 8 = .ok (.istore_n 3, 1) := by decide +kernel
theorem dL_command_9 : decode cL_command 9 = .ok (.iload_n 3, 1) := by decide +kernel
theorem dL_command_10 : decode cL_command 10 = .ok (.iload_n 1, 1) := by decide +kernel
theorem dL_command_11 : decode cL_command 11 = .ok (.iconst 3, 1) := by decide +kernel
theorem dL_command_12 : decode cL_command 12 = .ok (.if_icmp .ne 7, 3) := by decide +kernel
theorem dL_command_15 : decode cL_command 15 = .ok (.iconst 5, 1) := by decide +kernel
theorem dL_command_16 : decode cL_command 16 = .ok (.goto 4, 3) := by decide +kernel
theorem dL_command_19 : decode cL_command 19 = .ok (.iconst 4, 1) := by decide +kernel
theorem dL_command_20 : decode cL_command 20 = .ok (.if_icmp .ge 176, 3) := by decide +kernel
theorem dL_command_23 : decode cL_command 23 = .ok (.iload_n 1, 1) := by decide +kernel
theorem dL_command_24 : decode cL_command 24 = .ok (.ifCond .ne 37, 3) := by decide +kernel
theorem dL_command_27 : decode cL_command 27 = .ok (.iload_n 3, 1) := by decide +kernel
theorem dL_command_28 : decode cL_command 28 = .ok (.ifCond .ne 8, 3) := by decide +kernel
theorem dL_command_31 : decode cL_command 31 = .ok (.bipush 115, 2) := by decide +kernel
theorem dL_command_33 : decode cL_command 33 = .ok (.goto 147, 3) := by decide +kernel
theorem dL_command_36 : decode cL_command 36 = .ok (.iload_n 3, 1) := by decide +kernel
theorem dL_command_37 : decode cL_command 37 = .ok (.iconst 1, 1) := by decide +kernel
theorem dL_command_38 : decode cL_command 38 = .ok (.if_icmp .ne 8, 3) := by decide +kernel
theorem dL_command_41 : decode cL_command 41 = .ok (.bipush 116, 2) := by decide +kernel
theorem dL_command_43 : decode cL_command 43 = .ok (.goto 137, 3) := by decide +kernel
theorem dL_command_46 : decode cL_command 46 = .ok (.iload_n 3, 1) := by decide +kernel
theorem dL_command_47 : decode cL_command 47 = .ok (.iconst 2, 1) := by decide +kernel
theorem dL_command_48 : decode cL_command 48 = .ok (.if_icmp .ne 8, 3) := by decide +kernel
theorem dL_command_51 : decode cL_command 51 = .ok (.bipush 101, 2) := by decide +kernel
theorem dL_command_53 : decode cL_command 53 = .ok (.goto 127, 3) := by decide +kernel
theorem dL_command_56 : decode cL_command 56 = .ok (.bipush 112, 2) := by decide +kernel
theorem dL_command_58 : decode cL_command 58 = .ok (.goto 122, 3) := by decide +kernel
theorem dL_command_61 : decode cL_command 61 = .ok (.iload_n 1, 1) := by decide +kernel
theorem dL_command_62 : decode cL_command 62 = .ok (.iconst 1, 1) := by decide +kernel
theorem dL_command_63 : decode cL_command 63 = .ok (.if_icmp .ne 37, 3) := by decide +kernel
theorem dL_command_66 : decode cL_command 66 = .ok (.iload_n 3, 1) := by decide +kernel
theorem dL_command_67 : decode cL_command 67 = .ok (.ifCond .ne 8, 3) := by decide +kernel
theorem dL_command_70 : decode cL_command 70 = .ok (.bipush 116, 2) := by decide +kernel
theorem dL_command_72 : decode cL_command 72 = .ok (.goto 108, 3) := by decide +kernel
theorem dL_command_75 : decode cL_command 75 = .ok (.iload_n 3, 1) := by decide +kernel
theorem dL_command_76 : decode cL_command 76 = .ok (.iconst 1, 1) := by decide +kernel
theorem dL_command_77 : decode cL_command 77 = .ok (.if_icmp .ne 8, 3) := by decide +kernel
theorem dL_command_80 : decode cL_command 80 = .ok (.bipush 117, 2) := by decide +kernel
theorem dL_command_82 : decode cL_command 82 = .ok (.goto 98, 3) := by decide +kernel
theorem dL_command_85 : decode cL_command 85 = .ok (.iload_n 3, 1) := by decide +kernel
theorem dL_command_86 : decode cL_command 86 = .ok (.iconst 2, 1) := by decide +kernel
theorem dL_command_87 : decode cL_command 87 = .ok (.if_icmp .ne 8, 3) := by decide +kernel
theorem dL_command_90 : decode cL_command 90 = .ok (.bipush 114, 2) := by decide +kernel
theorem dL_command_92 : decode cL_command 92 = .ok (.goto 88, 3) := by decide +kernel
theorem dL_command_95 : decode cL_command 95 = .ok (.bipush 110, 2) := by decide +kernel
theorem dL_command_97 : decode cL_command 97 = .ok (.goto 83, 3) := by decide +kernel
theorem dL_command_100 : decode cL_command 100 = .ok (.iload_n 1, 1) := by decide +kernel
theorem dL_command_101 : decode cL_command 101 = .ok (.iconst 2, 1) := by decide +kernel
theorem dL_command_102 : decode cL_command 102 = .ok (.if_icmp .ne 37, 3) := by decide +kernel
theorem dL_command_105 : decode cL_command 105 = .ok (.iload_n 3, 1) := by decide +kernel
theorem dL_command_106 : decode cL_command 106 = .ok (.ifCond .ne 8, 3) := by decide +kernel
theorem dL_command_109 : decode cL_command 109 = .ok (.bipush 115, 2) := by decide +kernel
theorem dL_command_111 : decode cL_command 111 = .ok (.goto 69, 3) := by decide +kernel
theorem dL_command_114 : decode cL_command 114 = .ok (.iload_n 3, 1) := by decide +kernel
theorem dL_command_115 : decode cL_command 115 = .ok (.iconst 1, 1) := by decide +kernel
theorem dL_command_116 : decode cL_command 116 = .ok (.if_icmp .ne 8, 3) := by decide +kernel
theorem dL_command_119 : decode cL_command 119 = .ok (.bipush 116, 2) := by decide +kernel
theorem dL_command_121 : decode cL_command 121 = .ok (.goto 59, 3) := by decide +kernel
theorem dL_command_124 : decode cL_command 124 = .ok (.iload_n 3, 1) := by decide +kernel
theorem dL_command_125 : decode cL_command 125 = .ok (.iconst 2, 1) := by decide +kernel
theorem dL_command_126 : decode cL_command 126 = .ok (.if_icmp .ne 8, 3) := by decide +kernel
theorem dL_command_129 : decode cL_command 129 = .ok (.bipush 111, 2) := by decide +kernel
theorem dL_command_131 : decode cL_command 131 = .ok (.goto 49, 3) := by decide +kernel
theorem dL_command_134 : decode cL_command 134 = .ok (.bipush 112, 2) := by decide +kernel
theorem dL_command_136 : decode cL_command 136 = .ok (.goto 44, 3) := by decide +kernel
theorem dL_command_139 : decode cL_command 139 = .ok (.iload_n 3, 1) := by decide +kernel
theorem dL_command_140 : decode cL_command 140 = .ok (.ifCond .ne 8, 3) := by decide +kernel
theorem dL_command_143 : decode cL_command 143 = .ok (.bipush 99, 2) := by decide +kernel
theorem dL_command_145 : decode cL_command 145 = .ok (.goto 35, 3) := by decide +kernel
theorem dL_command_148 : decode cL_command 148 = .ok (.iload_n 3, 1) := by decide +kernel
theorem dL_command_149 : decode cL_command 149 = .ok (.iconst 1, 1) := by decide +kernel
theorem dL_command_150 : decode cL_command 150 = .ok (.if_icmp .ne 8, 3) := by decide +kernel
theorem dL_command_153 : decode cL_command 153 = .ok (.bipush 108, 2) := by decide +kernel
theorem dL_command_155 : decode cL_command 155 = .ok (.goto 25, 3) := by decide +kernel
theorem dL_command_158 : decode cL_command 158 = .ok (.iload_n 3, 1) := by decide +kernel
theorem dL_command_159 : decode cL_command 159 = .ok (.iconst 2, 1) := by decide +kernel
theorem dL_command_160 : decode cL_command 160 = .ok (.if_icmp .ne 8, 3) := by decide +kernel
theorem dL_command_163 : decode cL_command 163 = .ok (.bipush 101, 2) := by decide +kernel
theorem dL_command_165 : decode cL_command 165 = .ok (.goto 15, 3) := by decide +kernel
theorem dL_command_168 : decode cL_command 168 = .ok (.iload_n 3, 1) := by decide +kernel
theorem dL_command_169 : decode cL_command 169 = .ok (.iconst 3, 1) := by decide +kernel
theorem dL_command_170 : decode cL_command 170 = .ok (.if_icmp .ne 8, 3) := by decide +kernel
theorem dL_command_173 : decode cL_command 173 = .ok (.bipush 97, 2) := by decide +kernel
theorem dL_command_175 : decode cL_command 175 = .ok (.goto 5, 3) := by decide +kernel
theorem dL_command_178 : decode cL_command 178 = .ok (.bipush 114, 2) := by decide +kernel
theorem dL_command_180 : decode cL_command 180 = .ok (.istore 4, 2) := by decide +kernel
theorem dL_command_182 : decode cL_command 182 = .ok (.aload_n 0, 1) := by decide +kernel
theorem dL_command_183 : decode cL_command 183 = .ok (.iload 4, 2) := by decide +kernel
theorem dL_command_185 : decode cL_command 185 = .ok (.i2c, 1) := by decide +kernel
theorem dL_command_186 : decode cL_command 186 = .ok (.invokevirtual 113, 3) := by decide +kernel
theorem dL_command_189 : decode cL_command 189 = .ok (.istore_n 2, 1) := by decide +kernel
theorem dL_command_190 : decode cL_command 190 = .ok (.iinc 3 1, 3) := by decide +kernel
theorem dL_command_193 : decode cL_command 193 = .ok (.goto (-184), 3) := by decide +kernel
theorem dL_command_196 : decode cL_command 196 = .ok (.aload_n 0, 1) := by decide +kernel
theorem dL_command_197 : decode cL_command 197 = .ok (.invokevirtual 117, 3) := by decide +kernel
theorem dL_command_200 : decode cL_command 200 = .ok (.ireturn, 1) := by decide +kernel
abbrev rmL_command : Room := { frames := 6, cells := 0, slots := 0, locals := 136 }
def w_L_command_L182 (n : Nat) (K : Int32 → Mem → Prop) (J : Mem → Nat → Int32 → Int32 → Prop) (M : Mem) (o0 : Nat) (a1 : Int32) (a3 : Int32) (a4 : Int32) : Prop := ((o0 ≤ n ∧ kd o0 = (5, 0)) ∧ w_X5_type n M o0 ((Int32.toUInt32 a4 % 65536).toInt32) (fun x11 M10 => (∀ x12, x12 = a3 + (1 : Int32) → J M10 o0 a1 x12)))
def w_L_command_L9 (n : Nat) (K : Int32 → Mem → Prop) : Nat → Mem → Nat → Int32 → Int32 → Prop
  | 0, _, _, _, _ => False
  | fuel + 1, M, o0, a1, a3 => (∀ x4 : Int32, x4 = (if a1 = (3 : Int32) then (5 : Int32) else (4 : Int32)) → ((x4 ≤ a3 → ((o0 ≤ n ∧ kd o0 = (5, 0)) ∧ w_X5_perform n M o0  (fun x7 M6 => K x7 M6))) ∧ (¬ x4 ≤ a3 → ((¬ a1 = 0 → ((¬ a1 = (1 : Int32) → ((¬ a1 = (2 : Int32) → ((¬ a3 = 0 → ((¬ a3 = (1 : Int32) → ((¬ a3 = (2 : Int32) → (∀ x8 : Int32, x8 = (if a3 = (3 : Int32) then (97 : Int32) else (114 : Int32)) → w_L_command_L182 n K (w_L_command_L9 n K fuel) M o0 a1 a3 x8)) ∧ (a3 = (2 : Int32) → w_L_command_L182 n K (w_L_command_L9 n K fuel) M o0 a1 a3 (101 : Int32)))) ∧ (a3 = (1 : Int32) → w_L_command_L182 n K (w_L_command_L9 n K fuel) M o0 a1 a3 (108 : Int32)))) ∧ (a3 = 0 → w_L_command_L182 n K (w_L_command_L9 n K fuel) M o0 a1 a3 (99 : Int32)))) ∧ (a1 = (2 : Int32) → ((¬ a3 = 0 → ((¬ a3 = (1 : Int32) → (∀ x13 : Int32, x13 = (if a3 = (2 : Int32) then (111 : Int32) else (112 : Int32)) → w_L_command_L182 n K (w_L_command_L9 n K fuel) M o0 a1 a3 x13)) ∧ (a3 = (1 : Int32) → w_L_command_L182 n K (w_L_command_L9 n K fuel) M o0 a1 a3 (116 : Int32)))) ∧ (a3 = 0 → w_L_command_L182 n K (w_L_command_L9 n K fuel) M o0 a1 a3 (115 : Int32)))))) ∧ (a1 = (1 : Int32) → ((¬ a3 = 0 → ((¬ a3 = (1 : Int32) → (∀ x14 : Int32, x14 = (if a3 = (2 : Int32) then (114 : Int32) else (110 : Int32)) → w_L_command_L182 n K (w_L_command_L9 n K fuel) M o0 a1 a3 x14)) ∧ (a3 = (1 : Int32) → w_L_command_L182 n K (w_L_command_L9 n K fuel) M o0 a1 a3 (117 : Int32)))) ∧ (a3 = 0 → w_L_command_L182 n K (w_L_command_L9 n K fuel) M o0 a1 a3 (116 : Int32)))))) ∧ (a1 = 0 → ((¬ a3 = 0 → ((¬ a3 = (1 : Int32) → (∀ x15 : Int32, x15 = (if a3 = (2 : Int32) then (101 : Int32) else (112 : Int32)) → w_L_command_L182 n K (w_L_command_L9 n K fuel) M o0 a1 a3 x15)) ∧ (a3 = (1 : Int32) → w_L_command_L182 n K (w_L_command_L9 n K fuel) M o0 a1 a3 (116 : Int32)))) ∧ (a3 = 0 → w_L_command_L182 n K (w_L_command_L9 n K fuel) M o0 a1 a3 (115 : Int32))))))))
def w_L_command (n : Nat) (M : Mem) (p1 : Nat) (p2 : Int32) (K : Int32 → Mem → Prop) : Prop := ((p1 ≤ n ∧ kd p1 = (5, 0)) ∧ w_X5_clearText n M p1  (fun x3 M2 => w_L_command_L9 n K 4000 M2 p1 p2 (0 : Int32)))
set_option maxHeartbeats 4000000 in
set_option maxRecDepth 20000 in
theorem c_L_command (l : Launch) (E : Gl) (n : Nat) (M : Mem) (p1 : Nat) (p2 : Int32) (K : Int32 → Mem → Prop) (hw : w_L_command n M p1 p2 K) : CT E l yL_command cL_command 5 (some .int) rmL_command n M [rV p1, iV p2] (PI E n K) := by
  refine g_met l (by decide) (Nat.le_of_ble_eq_true rfl) ?_
  intro p e s m args below meth c X hr hlk hnm hSz hOld
  change CX E p s m c _ _ RL at X
  have L9 : ∀ (fuel9 : Nat) (M : Mem) (o0 : Nat) (a1 : Int32) (a3 : Int32), w_L_command_L9 n K fuel9 M o0 a1 a3 → G E p l e rmL_command s m args below meth c 5 n M 0 0 (MQD lw_cs below (PI E n K) args s rmL_command.cells rmL_command.slots (Ab E)) 9 [(0, rV o0), (1, iV a1), (3, iV a3)] [] := by
    intro fuel9
    induction fuel9 with
    | zero => intro M o0 a1 a3 hw; exact False.elim hw
    | succ fuel9 ih9 =>
      have L182 : ∀ (M : Mem) (o0 : Nat) (a1 : Int32) (a3 : Int32) (a4 : Int32), w_L_command_L182 n K (w_L_command_L9 n K fuel9) M o0 a1 a3 a4 → G E p l e rmL_command s m args below meth c 5 n M 0 0 (MQD lw_cs below (PI E n K) args s rmL_command.cells rmL_command.slots (Ab E)) 182 [(0, rV o0), (1, iV a1), (3, iV a3), (4, iV a4)] [] := by
        intro M o0 a1 a3 a4 hw
        unfold w_L_command_L182 at hw
        refine g_aload_n X dL_command_182 0 rfl ?_
        refine g_iload X dL_command_183 3 rfl ?_
        refine g_i2c X dL_command_185 ?_
        obtain ⟨hk9, hw⟩ := hw
        refine g_calli (pc' := 189) (rest := []) rfl (fun H locs ls d qR qL => g_runV X cw_L_113 iv_X5_type ⟨Nat.le_of_ble_eq_true rfl, Nat.le_of_ble_eq_true rfl⟩ dL_command_186 (c_X5_type l E n M o0 ((Int32.toUInt32 a4 % 65536).toInt32) _ hw) hk9 rfl rfl (Nat.le_of_ble_eq_true rfl) ⟨Nat.le_of_ble_eq_true rfl, Nat.le_of_ble_eq_true rfl⟩ qR qL) (fun x11 M10 hw => ?_)
        refine g_istore_n (lv' := [(2, iV x11), (0, rV o0), (1, iV a1), (3, iV a3), (4, iV a4)]) X dL_command_189 (by decide) rfl ?_
        obtain ⟨x12, hx12⟩ : ∃ y : Int32, y = a3 + (1 : Int32) := ⟨_, rfl⟩
        have hw := hw x12 hx12
        refine g_iinc (lv' := [(3, iV x12), (2, iV x11), (0, rV o0), (1, iV a1), (4, iV a4)]) X x12 dL_command_190 3 rfl (by rw [hx12]; rfl) (by decide) rfl ?_
        refine g_goto X 9 dL_command_193 (by decide) ?_
        refine g_lvsub (lv' := [(0, rV o0), (1, iV a1), (3, iV x12)]) [2, 3, 0] rfl ?_
        exact ih9 _ _ _ _ hw
      intro M o0 a1 a3 hw
      unfold w_L_command_L9 at hw
      refine g_iload_n X dL_command_9 2 rfl ?_
      refine g_iload_n X dL_command_10 1 rfl ?_
      refine g_iconst X (3 : Int32) dL_command_11 (by decide) ?_
      suffices kk : ∀ x4 : Int32, x4 = (if a1 = (3 : Int32) then (5 : Int32) else (4 : Int32)) → G E p l e rmL_command s m args below meth c 5 n M 0 0 (MQD lw_cs below (PI E n K) args s rmL_command.cells rmL_command.slots (Ab E)) 20 [(0, rV o0), (1, iV a1), (3, iV a3)] [iV x4, iV a3] by
        refine g_icmp_ne X 19 dL_command_12 (by decide) ⟨fun h => h, fun h => h⟩ (fun hc => ?_) (fun hc => ?_)
        · refine g_iconst X (4 : Int32) dL_command_19 (by decide) ?_
          exact kk _ (if_neg hc).symm
        · refine g_iconst X (5 : Int32) dL_command_15 (by decide) ?_
          refine g_goto X 20 dL_command_16 (by decide) ?_
          exact kk _ (if_pos hc).symm
      intro x4 hx4
      have hw := hw x4 hx4
      refine g_icmp_ge X 196 dL_command_20 (by decide) hw (fun hw => ?_) (fun hw => ?_)
      · refine g_aload_n X dL_command_196 0 rfl ?_
        obtain ⟨hk5, hw⟩ := hw
        refine g_calli (pc' := 200) (rest := []) rfl (fun H locs ls d qR qL => g_runV X cw_L_117 iv_X5_perform ⟨Nat.le_of_ble_eq_true rfl, Nat.le_of_ble_eq_true rfl⟩ dL_command_197 (c_X5_perform l E n M o0  _ hw) hk5 rfl rfl (Nat.le_of_ble_eq_true rfl) ⟨Nat.le_of_ble_eq_true rfl, Nat.le_of_ble_eq_true rfl⟩ qR qL) (fun x7 M6 hw => ?_)
        exact g_iret X hr hlk hSz hOld (Nat.le_refl _) dL_command_200 hw
      · refine g_iload_n X dL_command_23 1 rfl ?_
        refine g_if_ne X 61 dL_command_24 (by decide) hw (fun hw => ?_) (fun hw => ?_)
        · refine g_iload_n X dL_command_61 1 rfl ?_
          refine g_iconst X (1 : Int32) dL_command_62 (by decide) ?_
          refine g_icmp_ne X 100 dL_command_63 (by decide) hw (fun hw => ?_) (fun hw => ?_)
          · refine g_iload_n X dL_command_100 1 rfl ?_
            refine g_iconst X (2 : Int32) dL_command_101 (by decide) ?_
            refine g_icmp_ne X 139 dL_command_102 (by decide) hw (fun hw => ?_) (fun hw => ?_)
            · refine g_iload_n X dL_command_139 2 rfl ?_
              refine g_if_ne X 148 dL_command_140 (by decide) hw (fun hw => ?_) (fun hw => ?_)
              · refine g_iload_n X dL_command_148 2 rfl ?_
                refine g_iconst X (1 : Int32) dL_command_149 (by decide) ?_
                refine g_icmp_ne X 158 dL_command_150 (by decide) hw (fun hw => ?_) (fun hw => ?_)
                · refine g_iload_n X dL_command_158 2 rfl ?_
                  refine g_iconst X (2 : Int32) dL_command_159 (by decide) ?_
                  refine g_icmp_ne X 168 dL_command_160 (by decide) hw (fun hw => ?_) (fun hw => ?_)
                  · refine g_iload_n X dL_command_168 2 rfl ?_
                    refine g_iconst X (3 : Int32) dL_command_169 (by decide) ?_
                    suffices kk : ∀ x8 : Int32, x8 = (if a3 = (3 : Int32) then (97 : Int32) else (114 : Int32)) → G E p l e rmL_command s m args below meth c 5 n M 0 0 (MQD lw_cs below (PI E n K) args s rmL_command.cells rmL_command.slots (Ab E)) 180 [(0, rV o0), (1, iV a1), (3, iV a3)] [iV x8] by
                      refine g_icmp_ne X 178 dL_command_170 (by decide) ⟨fun h => h, fun h => h⟩ (fun hc => ?_) (fun hc => ?_)
                      · refine g_bipush X (114 : Int32) dL_command_178 (by decide) ?_
                        exact kk _ (if_neg hc).symm
                      · refine g_bipush X (97 : Int32) dL_command_173 (by decide) ?_
                        refine g_goto X 180 dL_command_175 (by decide) ?_
                        exact kk _ (if_pos hc).symm
                    intro x8 hx8
                    have hw := hw x8 hx8
                    refine g_istore (lv' := [(4, iV x8), (0, rV o0), (1, iV a1), (3, iV a3)]) X dL_command_180 (by decide) rfl ?_
                    refine g_lvsub (lv' := [(0, rV o0), (1, iV a1), (3, iV a3), (4, iV x8)]) [1, 2, 3, 0] rfl ?_
                    exact L182 _ _ _ _ _ hw
                  · refine g_bipush X (101 : Int32) dL_command_163 (by decide) ?_
                    refine g_goto X 180 dL_command_165 (by decide) ?_
                    refine g_istore (lv' := [(4, iV (101 : Int32)), (0, rV o0), (1, iV a1), (3, iV a3)]) X dL_command_180 (by decide) rfl ?_
                    refine g_lvsub (lv' := [(0, rV o0), (1, iV a1), (3, iV a3), (4, iV (101 : Int32))]) [1, 2, 3, 0] rfl ?_
                    exact L182 _ _ _ _ _ hw
                · refine g_bipush X (108 : Int32) dL_command_153 (by decide) ?_
                  refine g_goto X 180 dL_command_155 (by decide) ?_
                  refine g_istore (lv' := [(4, iV (108 : Int32)), (0, rV o0), (1, iV a1), (3, iV a3)]) X dL_command_180 (by decide) rfl ?_
                  refine g_lvsub (lv' := [(0, rV o0), (1, iV a1), (3, iV a3), (4, iV (108 : Int32))]) [1, 2, 3, 0] rfl ?_
                  exact L182 _ _ _ _ _ hw
              · refine g_bipush X (99 : Int32) dL_command_143 (by decide) ?_
                refine g_goto X 180 dL_command_145 (by decide) ?_
                refine g_istore (lv' := [(4, iV (99 : Int32)), (0, rV o0), (1, iV a1), (3, iV a3)]) X dL_command_180 (by decide) rfl ?_
                refine g_lvsub (lv' := [(0, rV o0), (1, iV a1), (3, iV a3), (4, iV (99 : Int32))]) [1, 2, 3, 0] rfl ?_
                exact L182 _ _ _ _ _ hw
            · refine g_iload_n X dL_command_105 2 rfl ?_
              refine g_if_ne X 114 dL_command_106 (by decide) hw (fun hw => ?_) (fun hw => ?_)
              · refine g_iload_n X dL_command_114 2 rfl ?_
                refine g_iconst X (1 : Int32) dL_command_115 (by decide) ?_
                refine g_icmp_ne X 124 dL_command_116 (by decide) hw (fun hw => ?_) (fun hw => ?_)
                · refine g_iload_n X dL_command_124 2 rfl ?_
                  refine g_iconst X (2 : Int32) dL_command_125 (by decide) ?_
                  suffices kk : ∀ x13 : Int32, x13 = (if a3 = (2 : Int32) then (111 : Int32) else (112 : Int32)) → G E p l e rmL_command s m args below meth c 5 n M 0 0 (MQD lw_cs below (PI E n K) args s rmL_command.cells rmL_command.slots (Ab E)) 180 [(0, rV o0), (1, iV a1), (3, iV a3)] [iV x13] by
                    refine g_icmp_ne X 134 dL_command_126 (by decide) ⟨fun h => h, fun h => h⟩ (fun hc => ?_) (fun hc => ?_)
                    · refine g_bipush X (112 : Int32) dL_command_134 (by decide) ?_
                      refine g_goto X 180 dL_command_136 (by decide) ?_
                      exact kk _ (if_neg hc).symm
                    · refine g_bipush X (111 : Int32) dL_command_129 (by decide) ?_
                      refine g_goto X 180 dL_command_131 (by decide) ?_
                      exact kk _ (if_pos hc).symm
                  intro x13 hx13
                  have hw := hw x13 hx13
                  refine g_istore (lv' := [(4, iV x13), (0, rV o0), (1, iV a1), (3, iV a3)]) X dL_command_180 (by decide) rfl ?_
                  refine g_lvsub (lv' := [(0, rV o0), (1, iV a1), (3, iV a3), (4, iV x13)]) [1, 2, 3, 0] rfl ?_
                  exact L182 _ _ _ _ _ hw
                · refine g_bipush X (116 : Int32) dL_command_119 (by decide) ?_
                  refine g_goto X 180 dL_command_121 (by decide) ?_
                  refine g_istore (lv' := [(4, iV (116 : Int32)), (0, rV o0), (1, iV a1), (3, iV a3)]) X dL_command_180 (by decide) rfl ?_
                  refine g_lvsub (lv' := [(0, rV o0), (1, iV a1), (3, iV a3), (4, iV (116 : Int32))]) [1, 2, 3, 0] rfl ?_
                  exact L182 _ _ _ _ _ hw
              · refine g_bipush X (115 : Int32) dL_command_109 (by decide) ?_
                refine g_goto X 180 dL_command_111 (by decide) ?_
                refine g_istore (lv' := [(4, iV (115 : Int32)), (0, rV o0), (1, iV a1), (3, iV a3)]) X dL_command_180 (by decide) rfl ?_
                refine g_lvsub (lv' := [(0, rV o0), (1, iV a1), (3, iV a3), (4, iV (115 : Int32))]) [1, 2, 3, 0] rfl ?_
                exact L182 _ _ _ _ _ hw
          · refine g_iload_n X dL_command_66 2 rfl ?_
            refine g_if_ne X 75 dL_command_67 (by decide) hw (fun hw => ?_) (fun hw => ?_)
            · refine g_iload_n X dL_command_75 2 rfl ?_
              refine g_iconst X (1 : Int32) dL_command_76 (by decide) ?_
              refine g_icmp_ne X 85 dL_command_77 (by decide) hw (fun hw => ?_) (fun hw => ?_)
              · refine g_iload_n X dL_command_85 2 rfl ?_
                refine g_iconst X (2 : Int32) dL_command_86 (by decide) ?_
                suffices kk : ∀ x14 : Int32, x14 = (if a3 = (2 : Int32) then (114 : Int32) else (110 : Int32)) → G E p l e rmL_command s m args below meth c 5 n M 0 0 (MQD lw_cs below (PI E n K) args s rmL_command.cells rmL_command.slots (Ab E)) 180 [(0, rV o0), (1, iV a1), (3, iV a3)] [iV x14] by
                  refine g_icmp_ne X 95 dL_command_87 (by decide) ⟨fun h => h, fun h => h⟩ (fun hc => ?_) (fun hc => ?_)
                  · refine g_bipush X (110 : Int32) dL_command_95 (by decide) ?_
                    refine g_goto X 180 dL_command_97 (by decide) ?_
                    exact kk _ (if_neg hc).symm
                  · refine g_bipush X (114 : Int32) dL_command_90 (by decide) ?_
                    refine g_goto X 180 dL_command_92 (by decide) ?_
                    exact kk _ (if_pos hc).symm
                intro x14 hx14
                have hw := hw x14 hx14
                refine g_istore (lv' := [(4, iV x14), (0, rV o0), (1, iV a1), (3, iV a3)]) X dL_command_180 (by decide) rfl ?_
                refine g_lvsub (lv' := [(0, rV o0), (1, iV a1), (3, iV a3), (4, iV x14)]) [1, 2, 3, 0] rfl ?_
                exact L182 _ _ _ _ _ hw
              · refine g_bipush X (117 : Int32) dL_command_80 (by decide) ?_
                refine g_goto X 180 dL_command_82 (by decide) ?_
                refine g_istore (lv' := [(4, iV (117 : Int32)), (0, rV o0), (1, iV a1), (3, iV a3)]) X dL_command_180 (by decide) rfl ?_
                refine g_lvsub (lv' := [(0, rV o0), (1, iV a1), (3, iV a3), (4, iV (117 : Int32))]) [1, 2, 3, 0] rfl ?_
                exact L182 _ _ _ _ _ hw
            · refine g_bipush X (116 : Int32) dL_command_70 (by decide) ?_
              refine g_goto X 180 dL_command_72 (by decide) ?_
              refine g_istore (lv' := [(4, iV (116 : Int32)), (0, rV o0), (1, iV a1), (3, iV a3)]) X dL_command_180 (by decide) rfl ?_
              refine g_lvsub (lv' := [(0, rV o0), (1, iV a1), (3, iV a3), (4, iV (116 : Int32))]) [1, 2, 3, 0] rfl ?_
              exact L182 _ _ _ _ _ hw
        · refine g_iload_n X dL_command_27 2 rfl ?_
          refine g_if_ne X 36 dL_command_28 (by decide) hw (fun hw => ?_) (fun hw => ?_)
          · refine g_iload_n X dL_command_36 2 rfl ?_
            refine g_iconst X (1 : Int32) dL_command_37 (by decide) ?_
            refine g_icmp_ne X 46 dL_command_38 (by decide) hw (fun hw => ?_) (fun hw => ?_)
            · refine g_iload_n X dL_command_46 2 rfl ?_
              refine g_iconst X (2 : Int32) dL_command_47 (by decide) ?_
              suffices kk : ∀ x15 : Int32, x15 = (if a3 = (2 : Int32) then (101 : Int32) else (112 : Int32)) → G E p l e rmL_command s m args below meth c 5 n M 0 0 (MQD lw_cs below (PI E n K) args s rmL_command.cells rmL_command.slots (Ab E)) 180 [(0, rV o0), (1, iV a1), (3, iV a3)] [iV x15] by
                refine g_icmp_ne X 56 dL_command_48 (by decide) ⟨fun h => h, fun h => h⟩ (fun hc => ?_) (fun hc => ?_)
                · refine g_bipush X (112 : Int32) dL_command_56 (by decide) ?_
                  refine g_goto X 180 dL_command_58 (by decide) ?_
                  exact kk _ (if_neg hc).symm
                · refine g_bipush X (101 : Int32) dL_command_51 (by decide) ?_
                  refine g_goto X 180 dL_command_53 (by decide) ?_
                  exact kk _ (if_pos hc).symm
              intro x15 hx15
              have hw := hw x15 hx15
              refine g_istore (lv' := [(4, iV x15), (0, rV o0), (1, iV a1), (3, iV a3)]) X dL_command_180 (by decide) rfl ?_
              refine g_lvsub (lv' := [(0, rV o0), (1, iV a1), (3, iV a3), (4, iV x15)]) [1, 2, 3, 0] rfl ?_
              exact L182 _ _ _ _ _ hw
            · refine g_bipush X (116 : Int32) dL_command_41 (by decide) ?_
              refine g_goto X 180 dL_command_43 (by decide) ?_
              refine g_istore (lv' := [(4, iV (116 : Int32)), (0, rV o0), (1, iV a1), (3, iV a3)]) X dL_command_180 (by decide) rfl ?_
              refine g_lvsub (lv' := [(0, rV o0), (1, iV a1), (3, iV a3), (4, iV (116 : Int32))]) [1, 2, 3, 0] rfl ?_
              exact L182 _ _ _ _ _ hw
          · refine g_bipush X (115 : Int32) dL_command_31 (by decide) ?_
            refine g_goto X 180 dL_command_33 (by decide) ?_
            refine g_istore (lv' := [(4, iV (115 : Int32)), (0, rV o0), (1, iV a1), (3, iV a3)]) X dL_command_180 (by decide) rfl ?_
            refine g_lvsub (lv' := [(0, rV o0), (1, iV a1), (3, iV a3), (4, iV (115 : Int32))]) [1, 2, 3, 0] rfl ?_
            exact L182 _ _ _ _ _ hw
  unfold w_L_command at hw
  refine g_aload_n X dL_command_0 0 rfl ?_
  obtain ⟨hk1, hw⟩ := hw
  refine g_calli (pc' := 4) (rest := []) rfl (fun H locs ls d qR qL => g_runV X cw_L_109 iv_X5_clearText ⟨Nat.le_of_ble_eq_true rfl, Nat.le_of_ble_eq_true rfl⟩ dL_command_1 (c_X5_clearText l E n M p1  _ hw) hk1 rfl rfl (Nat.le_of_ble_eq_true rfl) ⟨Nat.le_of_ble_eq_true rfl, Nat.le_of_ble_eq_true rfl⟩ qR qL) (fun x3 M2 hw => ?_)
  refine g_pop X dL_command_4 rfl ?_
  refine g_iconst X (0 : Int32) dL_command_5 (by decide) ?_
  refine g_istore_n (lv' := [(2, iV (0 : Int32)), (0, rV p1), (1, iV p2)]) X dL_command_6 (by decide) rfl ?_
  refine g_iconst X (0 : Int32) dL_command_7 (by decide) ?_
  refine g_istore_n (lv' := [(3, iV (0 : Int32)), (2, iV (0 : Int32)), (0, rV p1), (1, iV p2)]) X dL_command_8 (by decide) rfl ?_
  refine g_lvsub (lv' := [(0, rV p1), (1, iV p2), (3, iV (0 : Int32))]) [2, 3, 0] rfl ?_
  exact L9 _ _ _ _ _ hw
theorem dL_commands_0 : decode cL_commands 0 = .ok (.aload_n 0, 1) := by decide +kernel
theorem dL_commands_1 : decode cL_commands 1 = .ok (.iconst 0, 1) := by decide +kernel
theorem dL_commands_2 : decode cL_commands 2 = .ok (.invokevirtual 13, 3) := by decide +kernel
theorem dL_commands_5 : decode cL_commands 5 = .ok (.istore_n 2, 1) := by decide +kernel
theorem dL_commands_6 : decode cL_commands 6 = .ok (.aload_n 0, 1) := by decide +kernel
theorem dL_commands_7 : decode cL_commands 7 = .ok (.iconst 1, 1) := by decide +kernel
theorem dL_commands_8 : decode cL_commands 8 = .ok (.invokevirtual 13, 3) := by decide +kernel
theorem dL_commands_11 : decode cL_commands 11 = .ok (.istore_n 3, 1) := by decide +kernel
theorem dL_commands_12 : decode cL_commands 12 = .ok (.aload_n 0, 1) := by decide +kernel
theorem dL_commands_13 : decode cL_commands 13 = .ok (.bipush 7, 2) := by decide +kernel
theorem dL_commands_15 : decode cL_commands 15 = .ok (.invokevirtual 13, 3) := by decide +kernel
theorem dL_commands_18 : decode cL_commands 18 = .ok (.istore 4, 2) := by decide +kernel
theorem dL_commands_20 : decode cL_commands 20 = .ok (.aload_n 0, 1) := by decide +kernel
theorem dL_commands_21 : decode cL_commands 21 = .ok (.iconst 3, 1) := by decide +kernel
theorem dL_commands_22 : decode cL_commands 22 = .ok (.invokevirtual 13, 3) := by decide +kernel
theorem dL_commands_25 : decode cL_commands 25 = .ok (.istore 5, 2) := by decide +kernel
theorem dL_commands_27 : decode cL_commands 27 = .ok (.aload_n 0, 1) := by decide +kernel
theorem dL_commands_28 : decode cL_commands 28 = .ok (.iconst 4, 1) := by decide +kernel
theorem dL_commands_29 : decode cL_commands 29 = .ok (.invokevirtual 13, 3) := by decide +kernel
theorem dL_commands_32 : decode cL_commands 32 = .ok (.istore 6, 2) := by decide +kernel
theorem dL_commands_34 : decode cL_commands 34 = .ok (.aload_n 0, 1) := by decide +kernel
theorem dL_commands_35 : decode cL_commands 35 = .ok (.bipush 14, 2) := by decide +kernel
theorem dL_commands_37 : decode cL_commands 37 = .ok (.invokevirtual 13, 3) := by decide +kernel
theorem dL_commands_40 : decode cL_commands 40 = .ok (.istore 7, 2) := by decide +kernel
theorem dL_commands_42 : decode cL_commands 42 = .ok (.aload_n 0, 1) := by decide +kernel
theorem dL_commands_43 : decode cL_commands 43 = .ok (.iload_n 1, 1) := by decide +kernel
theorem dL_commands_44 : decode cL_commands 44 = .ok (.invokestatic 120, 3) := by decide +kernel
theorem dL_commands_47 : decode cL_commands 47 = .ok (.istore 8, 2) := by decide +kernel
theorem dL_commands_49 : decode cL_commands 49 = .ok (.iload_n 1, 1) := by decide +kernel
theorem dL_commands_50 : decode cL_commands 50 = .ok (.iconst 2, 1) := by decide +kernel
theorem dL_commands_51 : decode cL_commands 51 = .ok (.if_icmp .ge 42, 3) := by decide +kernel
theorem dL_commands_54 : decode cL_commands 54 = .ok (.aload_n 0, 1) := by decide +kernel
theorem dL_commands_55 : decode cL_commands 55 = .ok (.iconst 1, 1) := by decide +kernel
theorem dL_commands_56 : decode cL_commands 56 = .ok (.invokevirtual 13, 3) := by decide +kernel
theorem dL_commands_59 : decode cL_commands 59 = .ok (.iload_n 3, 1) := by decide +kernel
theorem dL_commands_60 : decode cL_commands 60 = .ok (.iload_n 1, 1) := by decide +kernel
theorem dL_commands_61 : decode cL_commands 61 = .ok (.ifCond .ne 7, 3) := by decide +kernel
theorem dL_commands_64 : decode cL_commands 64 = .ok (.iconst 1, 1) := by decide +kernel
theorem dL_commands_65 : decode cL_commands 65 = .ok (.goto 4, 3) := by decide +kernel
theorem dL_commands_68 : decode cL_commands 68 = .ok (.iload_n 2, 1) := by decide +kernel
theorem dL_commands_69 : decode cL_commands 69 = .ok (.iadd, 1) := by decide +kernel
theorem dL_commands_70 : decode cL_commands 70 = .ok (.if_icmp .ne 21, 3) := by decide +kernel
theorem dL_commands_73 : decode cL_commands 73 = .ok (.iload 8, 2) := by decide +kernel
theorem dL_commands_75 : decode cL_commands 75 = .ok (.aload_n 0, 1) := by decide +kernel
theorem dL_commands_76 : decode cL_commands 76 = .ok (.bipush 7, 2) := by decide +kernel
theorem dL_commands_78 : decode cL_commands 78 = .ok (.invokevirtual 13, 3) := by decide +kernel
theorem dL_commands_81 : decode cL_commands 81 = .ok (.iload 4, 2) := by decide +kernel
theorem dL_commands_83 : decode cL_commands 83 = .ok (.isub, 1) := by decide +kernel
theorem dL_commands_84 : decode cL_commands 84 = .ok (.if_icmp .ne 7, 3) := by decide +kernel
theorem dL_commands_87 : decode cL_commands 87 = .ok (.iconst 1, 1) := by decide +kernel
theorem dL_commands_88 : decode cL_commands 88 = .ok (.goto 4, 3) := by decide +kernel
theorem dL_commands_91 : decode cL_commands 91 = .ok (.iconst 0, 1) := by decide +kernel
theorem dL_commands_92 : decode cL_commands 92 = .ok (.ireturn, 1) := by decide +kernel
theorem dL_commands_93 : decode cL_commands 93 = .ok (.iload_n 1, 1) := by decide +kernel
theorem dL_commands_94 : decode cL_commands 94 = .ok (.iconst 2, 1) := by decide +kernel
theorem dL_commands_95 : decode cL_commands 95 = .ok (.if_icmp .ne 48, 3) := by decide +kernel
theorem dL_commands_98 : decode cL_commands 98 = .ok (.iload 8, 2) := by decide +kernel
theorem dL_commands_100 : decode cL_commands 100 = .ok (.iload 5, 2) := by decide +kernel
theorem dL_commands_102 : decode cL_commands 102 = .ok (.ifCond .ne 8, 3) := by decide +kernel
theorem dL_commands_105 : decode cL_commands 105 = .ok (.bipush (-5), 2) := by decide +kernel
theorem dL_commands_107 : decode cL_commands 107 = .ok (.goto 5, 3) := by decide +kernel
theorem dL_commands_110 : decode cL_commands 110 = .ok (.iload 5, 2) := by decide +kernel
theorem dL_commands_112 : decode cL_commands 112 = .ok (.if_icmp .ne 29, 3) := by decide +kernel
theorem dL_commands_115 : decode cL_commands 115 = .ok (.aload_n 0, 1) := by decide +kernel
theorem dL_commands_116 : decode cL_commands 116 = .ok (.iconst 3, 1) := by decide +kernel
theorem dL_commands_117 : decode cL_commands 117 = .ok (.invokevirtual 13, 3) := by decide +kernel
theorem dL_commands_120 : decode cL_commands 120 = .ok (.ifCond .ne 21, 3) := by decide +kernel
theorem dL_commands_123 : decode cL_commands 123 = .ok (.aload_n 0, 1) := by decide +kernel
theorem dL_commands_124 : decode cL_commands 124 = .ok (.bipush 14, 2) := by decide +kernel
theorem dL_commands_126 : decode cL_commands 126 = .ok (.invokevirtual 13, 3) := by decide +kernel
theorem dL_commands_129 : decode cL_commands 129 = .ok (.iload 7, 2) := by decide +kernel
theorem dL_commands_131 : decode cL_commands 131 = .ok (.iload 5, 2) := by decide +kernel
theorem dL_commands_133 : decode cL_commands 133 = .ok (.iadd, 1) := by decide +kernel
theorem dL_commands_134 : decode cL_commands 134 = .ok (.if_icmp .ne 7, 3) := by decide +kernel
theorem dL_commands_137 : decode cL_commands 137 = .ok (.iconst 1, 1) := by decide +kernel
theorem dL_commands_138 : decode cL_commands 138 = .ok (.goto 4, 3) := by decide +kernel
theorem dL_commands_141 : decode cL_commands 141 = .ok (.iconst 0, 1) := by decide +kernel
theorem dL_commands_142 : decode cL_commands 142 = .ok (.ireturn, 1) := by decide +kernel
theorem dL_commands_143 : decode cL_commands 143 = .ok (.iload 8, 2) := by decide +kernel
theorem dL_commands_145 : decode cL_commands 145 = .ok (.iload 6, 2) := by decide +kernel
theorem dL_commands_147 : decode cL_commands 147 = .ok (.ifCond .ne 8, 3) := by decide +kernel
theorem dL_commands_150 : decode cL_commands 150 = .ok (.bipush (-5), 2) := by decide +kernel
theorem dL_commands_152 : decode cL_commands 152 = .ok (.goto 5, 3) := by decide +kernel
theorem dL_commands_155 : decode cL_commands 155 = .ok (.iload 6, 2) := by decide +kernel
theorem dL_commands_157 : decode cL_commands 157 = .ok (.if_icmp .ne 37, 3) := by decide +kernel
theorem dL_commands_160 : decode cL_commands 160 = .ok (.aload_n 0, 1) := by decide +kernel
theorem dL_commands_161 : decode cL_commands 161 = .ok (.iconst 4, 1) := by decide +kernel
theorem dL_commands_162 : decode cL_commands 162 = .ok (.invokevirtual 13, 3) := by decide +kernel
theorem dL_commands_165 : decode cL_commands 165 = .ok (.ifCond .ne 29, 3) := by decide +kernel
theorem dL_commands_168 : decode cL_commands 168 = .ok (.aload_n 0, 1) := by decide +kernel
theorem dL_commands_169 : decode cL_commands 169 = .ok (.iconst 3, 1) := by decide +kernel
theorem dL_commands_170 : decode cL_commands 170 = .ok (.invokevirtual 13, 3) := by decide +kernel
theorem dL_commands_173 : decode cL_commands 173 = .ok (.iload 5, 2) := by decide +kernel
theorem dL_commands_175 : decode cL_commands 175 = .ok (.iload 6, 2) := by decide +kernel
theorem dL_commands_177 : decode cL_commands 177 = .ok (.iadd, 1) := by decide +kernel
theorem dL_commands_178 : decode cL_commands 178 = .ok (.if_icmp .ne 16, 3) := by decide +kernel
theorem dL_commands_181 : decode cL_commands 181 = .ok (.aload_n 0, 1) := by decide +kernel
theorem dL_commands_182 : decode cL_commands 182 = .ok (.iconst 1, 1) := by decide +kernel
theorem dL_commands_183 : decode cL_commands 183 = .ok (.invokevirtual 13, 3) := by decide +kernel
theorem dL_commands_186 : decode cL_commands 186 = .ok (.iload_n 3, 1) := by decide +kernel
theorem dL_commands_187 : decode cL_commands 187 = .ok (.if_icmp .ne 7, 3) := by decide +kernel
theorem dL_commands_190 : decode cL_commands 190 = .ok (.iconst 1, 1) := by decide +kernel
theorem dL_commands_191 : decode cL_commands 191 = .ok (.goto 4, 3) := by decide +kernel
theorem dL_commands_194 : decode cL_commands 194 = .ok (.iconst 0, 1) := by decide +kernel
theorem dL_commands_195 : decode cL_commands 195 = .ok (.ireturn, 1) := by decide +kernel
abbrev rmL_commands : Room := { frames := 7, cells := 0, slots := 0, locals := 160 }
def w_L_commands (n : Nat) (M : Mem) (p1 : Nat) (p2 : Int32) (K : Int32 → Mem → Prop) : Prop := ((p1 ≤ n ∧ kd p1 = (5, 0)) ∧ w_X5_count n M p1 (0 : Int32) (fun x3 M2 => w_X5_count n M2 p1 (1 : Int32) (fun x5 M4 => w_X5_count n M4 p1 (7 : Int32) (fun x7 M6 => w_X5_count n M6 p1 (3 : Int32) (fun x9 M8 => w_X5_count n M8 p1 (4 : Int32) (fun x11 M10 => w_X5_count n M10 p1 (14 : Int32) (fun x13 M12 => w_L_command n M12 p1 p2 (fun x15 M14 => (((2 : Int32) ≤ p2 → ((¬ p2 = (2 : Int32) → (∀ x16 : Int32, x16 = (if x11 = 0 then (-5 : Int32) else x11) → ((¬ x15 = x16 → K (0 : Int32) M14) ∧ (x15 = x16 → w_X5_count n M14 p1 (4 : Int32) (fun x18 M17 => ((¬ x18 = 0 → K (0 : Int32) M17) ∧ (x18 = 0 → w_X5_count n M17 p1 (3 : Int32) (fun x20 M19 => ((¬ x20 = (x9 + x11) → K (0 : Int32) M19) ∧ (x20 = (x9 + x11) → w_X5_count n M19 p1 (1 : Int32) (fun x22 M21 => ((¬ x22 = x5 → K (0 : Int32) M21) ∧ (x22 = x5 → K (1 : Int32) M21))))))))))))) ∧ (p2 = (2 : Int32) → (∀ x23 : Int32, x23 = (if x9 = 0 then (-5 : Int32) else x9) → ((¬ x15 = x23 → K (0 : Int32) M14) ∧ (x15 = x23 → w_X5_count n M14 p1 (3 : Int32) (fun x25 M24 => ((¬ x25 = 0 → K (0 : Int32) M24) ∧ (x25 = 0 → w_X5_count n M24 p1 (14 : Int32) (fun x27 M26 => ((¬ x27 = (x13 + x9) → K (0 : Int32) M26) ∧ (x27 = (x13 + x9) → K (1 : Int32) M26)))))))))))) ∧ (¬ (2 : Int32) ≤ p2 → w_X5_count n M14 p1 (1 : Int32) (fun x29 M28 => (∀ x30 : Int32, x30 = (if p2 = 0 then (1 : Int32) else x3) → ((¬ x29 = (x5 + x30) → K (0 : Int32) M28) ∧ (x29 = (x5 + x30) → w_X5_count n M28 p1 (7 : Int32) (fun x32 M31 => ((¬ x15 = (x32 - x7) → K (0 : Int32) M31) ∧ (x15 = (x32 - x7) → K (1 : Int32) M31)))))))))))))))))
set_option maxHeartbeats 4000000 in
set_option maxRecDepth 20000 in
theorem c_L_commands (l : Launch) (E : Gl) (n : Nat) (M : Mem) (p1 : Nat) (p2 : Int32) (K : Int32 → Mem → Prop) (hw : w_L_commands n M p1 p2 K) : CT E l yL_commands cL_commands 9 (some .boolean) rmL_commands n M [rV p1, iV p2] (PI E n K) := by
  refine g_met l (by decide) (Nat.le_of_ble_eq_true rfl) ?_
  intro p e s m args below meth c X hr hlk hnm hSz hOld
  change CX E p s m c _ _ RL at X
  unfold w_L_commands at hw
  refine g_aload_n X dL_commands_0 0 rfl ?_
  refine g_iconst X (0 : Int32) dL_commands_1 (by decide) ?_
  obtain ⟨hk1, hw⟩ := hw
  refine g_calli (pc' := 5) (rest := []) rfl (fun H locs ls d qR qL => g_runV X cw_L_13 iv_X5_count ⟨Nat.le_of_ble_eq_true rfl, Nat.le_of_ble_eq_true rfl⟩ dL_commands_2 (c_X5_count l E n M p1 (0 : Int32) _ hw) hk1 rfl rfl (Nat.le_of_ble_eq_true rfl) ⟨Nat.le_of_ble_eq_true rfl, Nat.le_of_ble_eq_true rfl⟩ qR qL) (fun x3 M2 hw => ?_)
  refine g_istore_n (lv' := [(2, iV x3), (0, rV p1), (1, iV p2)]) X dL_commands_5 (by decide) rfl ?_
  refine g_aload_n X dL_commands_6 1 rfl ?_
  refine g_iconst X (1 : Int32) dL_commands_7 (by decide) ?_
  refine g_calli (pc' := 11) (rest := []) rfl (fun H locs ls d qR qL => g_runV X cw_L_13 iv_X5_count ⟨Nat.le_of_ble_eq_true rfl, Nat.le_of_ble_eq_true rfl⟩ dL_commands_8 (c_X5_count l E n M2 p1 (1 : Int32) _ hw) hk1 rfl rfl (Nat.le_of_ble_eq_true rfl) ⟨Nat.le_of_ble_eq_true rfl, Nat.le_of_ble_eq_true rfl⟩ qR qL) (fun x5 M4 hw => ?_)
  refine g_istore_n (lv' := [(3, iV x5), (2, iV x3), (0, rV p1), (1, iV p2)]) X dL_commands_11 (by decide) rfl ?_
  refine g_aload_n X dL_commands_12 2 rfl ?_
  refine g_bipush X (7 : Int32) dL_commands_13 (by decide) ?_
  refine g_calli (pc' := 18) (rest := []) rfl (fun H locs ls d qR qL => g_runV X cw_L_13 iv_X5_count ⟨Nat.le_of_ble_eq_true rfl, Nat.le_of_ble_eq_true rfl⟩ dL_commands_15 (c_X5_count l E n M4 p1 (7 : Int32) _ hw) hk1 rfl rfl (Nat.le_of_ble_eq_true rfl) ⟨Nat.le_of_ble_eq_true rfl, Nat.le_of_ble_eq_true rfl⟩ qR qL) (fun x7 M6 hw => ?_)
  refine g_istore (lv' := [(4, iV x7), (3, iV x5), (2, iV x3), (0, rV p1), (1, iV p2)]) X dL_commands_18 (by decide) rfl ?_
  refine g_aload_n X dL_commands_20 3 rfl ?_
  refine g_iconst X (3 : Int32) dL_commands_21 (by decide) ?_
  refine g_calli (pc' := 25) (rest := []) rfl (fun H locs ls d qR qL => g_runV X cw_L_13 iv_X5_count ⟨Nat.le_of_ble_eq_true rfl, Nat.le_of_ble_eq_true rfl⟩ dL_commands_22 (c_X5_count l E n M6 p1 (3 : Int32) _ hw) hk1 rfl rfl (Nat.le_of_ble_eq_true rfl) ⟨Nat.le_of_ble_eq_true rfl, Nat.le_of_ble_eq_true rfl⟩ qR qL) (fun x9 M8 hw => ?_)
  refine g_istore (lv' := [(5, iV x9), (4, iV x7), (3, iV x5), (2, iV x3), (0, rV p1), (1, iV p2)]) X dL_commands_25 (by decide) rfl ?_
  refine g_aload_n X dL_commands_27 4 rfl ?_
  refine g_iconst X (4 : Int32) dL_commands_28 (by decide) ?_
  refine g_calli (pc' := 32) (rest := []) rfl (fun H locs ls d qR qL => g_runV X cw_L_13 iv_X5_count ⟨Nat.le_of_ble_eq_true rfl, Nat.le_of_ble_eq_true rfl⟩ dL_commands_29 (c_X5_count l E n M8 p1 (4 : Int32) _ hw) hk1 rfl rfl (Nat.le_of_ble_eq_true rfl) ⟨Nat.le_of_ble_eq_true rfl, Nat.le_of_ble_eq_true rfl⟩ qR qL) (fun x11 M10 hw => ?_)
  refine g_istore (lv' := [(6, iV x11), (5, iV x9), (4, iV x7), (3, iV x5), (2, iV x3), (0, rV p1), (1, iV p2)]) X dL_commands_32 (by decide) rfl ?_
  refine g_aload_n X dL_commands_34 5 rfl ?_
  refine g_bipush X (14 : Int32) dL_commands_35 (by decide) ?_
  refine g_calli (pc' := 40) (rest := []) rfl (fun H locs ls d qR qL => g_runV X cw_L_13 iv_X5_count ⟨Nat.le_of_ble_eq_true rfl, Nat.le_of_ble_eq_true rfl⟩ dL_commands_37 (c_X5_count l E n M10 p1 (14 : Int32) _ hw) hk1 rfl rfl (Nat.le_of_ble_eq_true rfl) ⟨Nat.le_of_ble_eq_true rfl, Nat.le_of_ble_eq_true rfl⟩ qR qL) (fun x13 M12 hw => ?_)
  refine g_istore (lv' := [(7, iV x13), (6, iV x11), (5, iV x9), (4, iV x7), (3, iV x5), (2, iV x3), (0, rV p1), (1, iV p2)]) X dL_commands_40 (by decide) rfl ?_
  refine g_aload_n X dL_commands_42 6 rfl ?_
  refine g_iload_n X dL_commands_43 7 rfl ?_
  refine g_calli (pc' := 47) (rest := []) rfl (fun H locs ls d qR qL => g_runS X cw_L_120 wt_L_command ⟨Nat.le_of_ble_eq_true rfl, Nat.le_of_ble_eq_true rfl⟩ dL_commands_44 (c_L_command l E n M12 p1 p2 _ hw) rfl rfl (Nat.le_of_ble_eq_true rfl) ⟨Nat.le_of_ble_eq_true rfl, Nat.le_of_ble_eq_true rfl⟩ qR qL) (fun x15 M14 hw => ?_)
  refine g_istore (lv' := [(8, iV x15), (7, iV x13), (6, iV x11), (5, iV x9), (4, iV x7), (3, iV x5), (2, iV x3), (0, rV p1), (1, iV p2)]) X dL_commands_47 (by decide) rfl ?_
  refine g_iload_n X dL_commands_49 8 rfl ?_
  refine g_iconst X (2 : Int32) dL_commands_50 (by decide) ?_
  refine g_icmp_ge X 93 dL_commands_51 (by decide) hw (fun hw => ?_) (fun hw => ?_)
  · refine g_iload_n X dL_commands_93 8 rfl ?_
    refine g_iconst X (2 : Int32) dL_commands_94 (by decide) ?_
    refine g_icmp_ne X 143 dL_commands_95 (by decide) hw (fun hw => ?_) (fun hw => ?_)
    · refine g_iload X dL_commands_143 0 rfl ?_
      refine g_iload X dL_commands_145 2 rfl ?_
      suffices kk : ∀ x16 : Int32, x16 = (if x11 = 0 then (-5 : Int32) else x11) → G E p l e rmL_commands s m args below meth c 9 n M14 0 0 (MQD lw_cs below (PI E n K) args s rmL_commands.cells rmL_commands.slots (Ab E)) 157 [(8, iV x15), (7, iV x13), (6, iV x11), (5, iV x9), (4, iV x7), (3, iV x5), (2, iV x3), (0, rV p1), (1, iV p2)] [iV x16, iV x15] by
        refine g_if_ne X 155 dL_commands_147 (by decide) ⟨fun h => h, fun h => h⟩ (fun hc => ?_) (fun hc => ?_)
        · refine g_iload X dL_commands_155 2 rfl ?_
          exact kk _ (if_neg hc).symm
        · refine g_bipush X (-5 : Int32) dL_commands_150 (by decide) ?_
          refine g_goto X 157 dL_commands_152 (by decide) ?_
          exact kk _ (if_pos hc).symm
      intro x16 hx16
      have hw := hw x16 hx16
      refine g_icmp_ne X 194 dL_commands_157 (by decide) hw (fun hw => ?_) (fun hw => ?_)
      · refine g_iconst X (0 : Int32) dL_commands_194 (by decide) ?_
        exact g_zret X hr hlk hSz hOld (Nat.le_refl _) dL_commands_195 ⟨rfl, hw⟩
      · refine g_aload_n X dL_commands_160 7 rfl ?_
        refine g_iconst X (4 : Int32) dL_commands_161 (by decide) ?_
        refine g_calli (pc' := 165) (rest := []) rfl (fun H locs ls d qR qL => g_runV X cw_L_13 iv_X5_count ⟨Nat.le_of_ble_eq_true rfl, Nat.le_of_ble_eq_true rfl⟩ dL_commands_162 (c_X5_count l E n M14 p1 (4 : Int32) _ hw) hk1 rfl rfl (Nat.le_of_ble_eq_true rfl) ⟨Nat.le_of_ble_eq_true rfl, Nat.le_of_ble_eq_true rfl⟩ qR qL) (fun x18 M17 hw => ?_)
        refine g_if_ne X 194 dL_commands_165 (by decide) hw (fun hw => ?_) (fun hw => ?_)
        · refine g_iconst X (0 : Int32) dL_commands_194 (by decide) ?_
          exact g_zret X hr hlk hSz hOld (Nat.le_refl _) dL_commands_195 ⟨rfl, hw⟩
        · refine g_aload_n X dL_commands_168 7 rfl ?_
          refine g_iconst X (3 : Int32) dL_commands_169 (by decide) ?_
          refine g_calli (pc' := 173) (rest := []) rfl (fun H locs ls d qR qL => g_runV X cw_L_13 iv_X5_count ⟨Nat.le_of_ble_eq_true rfl, Nat.le_of_ble_eq_true rfl⟩ dL_commands_170 (c_X5_count l E n M17 p1 (3 : Int32) _ hw) hk1 rfl rfl (Nat.le_of_ble_eq_true rfl) ⟨Nat.le_of_ble_eq_true rfl, Nat.le_of_ble_eq_true rfl⟩ qR qL) (fun x20 M19 hw => ?_)
          refine g_iload X dL_commands_173 3 rfl ?_
          refine g_iload X dL_commands_175 2 rfl ?_
          refine g_iadd X dL_commands_177 ?_
          refine g_icmp_ne X 194 dL_commands_178 (by decide) hw (fun hw => ?_) (fun hw => ?_)
          · refine g_iconst X (0 : Int32) dL_commands_194 (by decide) ?_
            exact g_zret X hr hlk hSz hOld (Nat.le_refl _) dL_commands_195 ⟨rfl, hw⟩
          · refine g_aload_n X dL_commands_181 7 rfl ?_
            refine g_iconst X (1 : Int32) dL_commands_182 (by decide) ?_
            refine g_calli (pc' := 186) (rest := []) rfl (fun H locs ls d qR qL => g_runV X cw_L_13 iv_X5_count ⟨Nat.le_of_ble_eq_true rfl, Nat.le_of_ble_eq_true rfl⟩ dL_commands_183 (c_X5_count l E n M19 p1 (1 : Int32) _ hw) hk1 rfl rfl (Nat.le_of_ble_eq_true rfl) ⟨Nat.le_of_ble_eq_true rfl, Nat.le_of_ble_eq_true rfl⟩ qR qL) (fun x22 M21 hw => ?_)
            refine g_iload_n X dL_commands_186 5 rfl ?_
            refine g_icmp_ne X 194 dL_commands_187 (by decide) hw (fun hw => ?_) (fun hw => ?_)
            · refine g_iconst X (0 : Int32) dL_commands_194 (by decide) ?_
              exact g_zret X hr hlk hSz hOld (Nat.le_refl _) dL_commands_195 ⟨rfl, hw⟩
            · refine g_iconst X (1 : Int32) dL_commands_190 (by decide) ?_
              refine g_goto X 195 dL_commands_191 (by decide) ?_
              exact g_zret X hr hlk hSz hOld (Nat.le_refl _) dL_commands_195 ⟨rfl, hw⟩
    · refine g_iload X dL_commands_98 0 rfl ?_
      refine g_iload X dL_commands_100 3 rfl ?_
      suffices kk : ∀ x23 : Int32, x23 = (if x9 = 0 then (-5 : Int32) else x9) → G E p l e rmL_commands s m args below meth c 9 n M14 0 0 (MQD lw_cs below (PI E n K) args s rmL_commands.cells rmL_commands.slots (Ab E)) 112 [(8, iV x15), (7, iV x13), (6, iV x11), (5, iV x9), (4, iV x7), (3, iV x5), (2, iV x3), (0, rV p1), (1, iV p2)] [iV x23, iV x15] by
        refine g_if_ne X 110 dL_commands_102 (by decide) ⟨fun h => h, fun h => h⟩ (fun hc => ?_) (fun hc => ?_)
        · refine g_iload X dL_commands_110 3 rfl ?_
          exact kk _ (if_neg hc).symm
        · refine g_bipush X (-5 : Int32) dL_commands_105 (by decide) ?_
          refine g_goto X 112 dL_commands_107 (by decide) ?_
          exact kk _ (if_pos hc).symm
      intro x23 hx23
      have hw := hw x23 hx23
      refine g_icmp_ne X 141 dL_commands_112 (by decide) hw (fun hw => ?_) (fun hw => ?_)
      · refine g_iconst X (0 : Int32) dL_commands_141 (by decide) ?_
        exact g_zret X hr hlk hSz hOld (Nat.le_refl _) dL_commands_142 ⟨rfl, hw⟩
      · refine g_aload_n X dL_commands_115 7 rfl ?_
        refine g_iconst X (3 : Int32) dL_commands_116 (by decide) ?_
        refine g_calli (pc' := 120) (rest := []) rfl (fun H locs ls d qR qL => g_runV X cw_L_13 iv_X5_count ⟨Nat.le_of_ble_eq_true rfl, Nat.le_of_ble_eq_true rfl⟩ dL_commands_117 (c_X5_count l E n M14 p1 (3 : Int32) _ hw) hk1 rfl rfl (Nat.le_of_ble_eq_true rfl) ⟨Nat.le_of_ble_eq_true rfl, Nat.le_of_ble_eq_true rfl⟩ qR qL) (fun x25 M24 hw => ?_)
        refine g_if_ne X 141 dL_commands_120 (by decide) hw (fun hw => ?_) (fun hw => ?_)
        · refine g_iconst X (0 : Int32) dL_commands_141 (by decide) ?_
          exact g_zret X hr hlk hSz hOld (Nat.le_refl _) dL_commands_142 ⟨rfl, hw⟩
        · refine g_aload_n X dL_commands_123 7 rfl ?_
          refine g_bipush X (14 : Int32) dL_commands_124 (by decide) ?_
          refine g_calli (pc' := 129) (rest := []) rfl (fun H locs ls d qR qL => g_runV X cw_L_13 iv_X5_count ⟨Nat.le_of_ble_eq_true rfl, Nat.le_of_ble_eq_true rfl⟩ dL_commands_126 (c_X5_count l E n M24 p1 (14 : Int32) _ hw) hk1 rfl rfl (Nat.le_of_ble_eq_true rfl) ⟨Nat.le_of_ble_eq_true rfl, Nat.le_of_ble_eq_true rfl⟩ qR qL) (fun x27 M26 hw => ?_)
          refine g_iload X dL_commands_129 1 rfl ?_
          refine g_iload X dL_commands_131 3 rfl ?_
          refine g_iadd X dL_commands_133 ?_
          refine g_icmp_ne X 141 dL_commands_134 (by decide) hw (fun hw => ?_) (fun hw => ?_)
          · refine g_iconst X (0 : Int32) dL_commands_141 (by decide) ?_
            exact g_zret X hr hlk hSz hOld (Nat.le_refl _) dL_commands_142 ⟨rfl, hw⟩
          · refine g_iconst X (1 : Int32) dL_commands_137 (by decide) ?_
            refine g_goto X 142 dL_commands_138 (by decide) ?_
            exact g_zret X hr hlk hSz hOld (Nat.le_refl _) dL_commands_142 ⟨rfl, hw⟩
  · refine g_aload_n X dL_commands_54 7 rfl ?_
    refine g_iconst X (1 : Int32) dL_commands_55 (by decide) ?_
    refine g_calli (pc' := 59) (rest := []) rfl (fun H locs ls d qR qL => g_runV X cw_L_13 iv_X5_count ⟨Nat.le_of_ble_eq_true rfl, Nat.le_of_ble_eq_true rfl⟩ dL_commands_56 (c_X5_count l E n M14 p1 (1 : Int32) _ hw) hk1 rfl rfl (Nat.le_of_ble_eq_true rfl) ⟨Nat.le_of_ble_eq_true rfl, Nat.le_of_ble_eq_true rfl⟩ qR qL) (fun x29 M28 hw => ?_)
    refine g_iload_n X dL_commands_59 5 rfl ?_
    refine g_iload_n X dL_commands_60 8 rfl ?_
    suffices kk : ∀ x30 : Int32, x30 = (if p2 = 0 then (1 : Int32) else x3) → G E p l e rmL_commands s m args below meth c 9 n M28 0 0 (MQD lw_cs below (PI E n K) args s rmL_commands.cells rmL_commands.slots (Ab E)) 69 [(8, iV x15), (7, iV x13), (6, iV x11), (5, iV x9), (4, iV x7), (3, iV x5), (2, iV x3), (0, rV p1), (1, iV p2)] [iV x30, iV x5, iV x29] by
      refine g_if_ne X 68 dL_commands_61 (by decide) ⟨fun h => h, fun h => h⟩ (fun hc => ?_) (fun hc => ?_)
      · refine g_iload_n X dL_commands_68 6 rfl ?_
        exact kk _ (if_neg hc).symm
      · refine g_iconst X (1 : Int32) dL_commands_64 (by decide) ?_
        refine g_goto X 69 dL_commands_65 (by decide) ?_
        exact kk _ (if_pos hc).symm
    intro x30 hx30
    have hw := hw x30 hx30
    refine g_iadd X dL_commands_69 ?_
    refine g_icmp_ne X 91 dL_commands_70 (by decide) hw (fun hw => ?_) (fun hw => ?_)
    · refine g_iconst X (0 : Int32) dL_commands_91 (by decide) ?_
      exact g_zret X hr hlk hSz hOld (Nat.le_refl _) dL_commands_92 ⟨rfl, hw⟩
    · refine g_iload X dL_commands_73 0 rfl ?_
      refine g_aload_n X dL_commands_75 7 rfl ?_
      refine g_bipush X (7 : Int32) dL_commands_76 (by decide) ?_
      refine g_calli (pc' := 81) (rest := [iV x15]) rfl (fun H locs ls d qR qL => g_runV X cw_L_13 iv_X5_count ⟨Nat.le_of_ble_eq_true rfl, Nat.le_of_ble_eq_true rfl⟩ dL_commands_78 (c_X5_count l E n M28 p1 (7 : Int32) _ hw) hk1 rfl rfl (Nat.le_of_ble_eq_true rfl) ⟨Nat.le_of_ble_eq_true rfl, Nat.le_of_ble_eq_true rfl⟩ qR qL) (fun x32 M31 hw => ?_)
      refine g_iload X dL_commands_81 4 rfl ?_
      refine g_isub X dL_commands_83 ?_
      refine g_icmp_ne X 91 dL_commands_84 (by decide) hw (fun hw => ?_) (fun hw => ?_)
      · refine g_iconst X (0 : Int32) dL_commands_91 (by decide) ?_
        exact g_zret X hr hlk hSz hOld (Nat.le_refl _) dL_commands_92 ⟨rfl, hw⟩
      · refine g_iconst X (1 : Int32) dL_commands_87 (by decide) ?_
        refine g_goto X 92 dL_commands_88 (by decide) ?_
        exact g_zret X hr hlk hSz hOld (Nat.le_refl _) dL_commands_92 ⟨rfl, hw⟩
theorem dL_runs_0 : decode cL_runs 0 = .ok (.aload_n 0, 1) := by decide +kernel
theorem dL_runs_1 : decode cL_runs 1 = .ok (.invokevirtual 124, 3) := by decide +kernel
theorem dL_runs_4 : decode cL_runs 4 = .ok (.istore_n 3, 1) := by decide +kernel
theorem dL_runs_5 : decode cL_runs 5 = .ok (.aload_n 0, 1) := by decide +kernel
theorem dL_runs_6 : decode cL_runs 6 = .ok (.bipush 7, 2) := by decide +kernel
theorem dL_runs_8 : decode cL_runs 8 = .ok (.invokevirtual 13, 3) := by decide +kernel
theorem dL_runs_11 : decode cL_runs 11 = .ok (.istore 4, 2) := by decide +kernel
theorem dL_runs_13 : decode cL_runs 13 = .ok (.aload_n 0, 1) := by decide +kernel
theorem dL_runs_14 : decode cL_runs 14 = .ok (.iload_n 1, 1) := by decide +kernel
theorem dL_runs_15 : decode cL_runs 15 = .ok (.iload_n 2, 1) := by decide +kernel
theorem dL_runs_16 : decode cL_runs 16 = .ok (.iadd, 1) := by decide +kernel
theorem dL_runs_17 : decode cL_runs 17 = .ok (.invokevirtual 127, 3) := by decide +kernel
theorem dL_runs_20 : decode cL_runs 20 = .ok (.istore 5, 2) := by decide +kernel
theorem dL_runs_22 : decode cL_runs 22 = .ok (.aload_n 0, 1) := by decide +kernel
theorem dL_runs_23 : decode cL_runs 23 = .ok (.invokestatic 130, 3) := by decide +kernel
theorem dL_runs_26 : decode cL_runs 26 = .ok (.lstore 6, 2) := by decide +kernel
theorem dL_runs_28 : decode cL_runs 28 = .ok (.iload 5, 2) := by decide +kernel
theorem dL_runs_30 : decode cL_runs 30 = .ok (.aload_n 0, 1) := by decide +kernel
theorem dL_runs_31 : decode cL_runs 31 = .ok (.bipush 7, 2) := by decide +kernel
theorem dL_runs_33 : decode cL_runs 33 = .ok (.invokevirtual 13, 3) := by decide +kernel
theorem dL_runs_36 : decode cL_runs 36 = .ok (.iload 4, 2) := by decide +kernel
theorem dL_runs_38 : decode cL_runs 38 = .ok (.isub, 1) := by decide +kernel
theorem dL_runs_39 : decode cL_runs 39 = .ok (.if_icmp .ne 22, 3) := by decide +kernel
theorem dL_runs_42 : decode cL_runs 42 = .ok (.aload_n 0, 1) := by decide +kernel
theorem dL_runs_43 : decode cL_runs 43 = .ok (.invokevirtual 134, 3) := by decide +kernel
theorem dL_runs_46 : decode cL_runs 46 = .ok (.iload_n 3, 1) := by decide +kernel
theorem dL_runs_47 : decode cL_runs 47 = .ok (.if_icmp .ne 14, 3) := by decide +kernel
theorem dL_runs_50 : decode cL_runs 50 = .ok (.aload_n 0, 1) := by decide +kernel
theorem dL_runs_51 : decode cL_runs 51 = .ok (.bipush 41, 2) := by decide +kernel
theorem dL_runs_53 : decode cL_runs 53 = .ok (.invokevirtual 127, 3) := by decide +kernel
theorem dL_runs_56 : decode cL_runs 56 = .ok (.bipush (-2), 2) := by decide +kernel
theorem dL_runs_58 : decode cL_runs 58 = .ok (.if_icmp .eq 5, 3) := by decide +kernel
theorem dL_runs_61 : decode cL_runs 61 = .ok (.iconst 0, 1) := by decide +kernel
theorem dL_runs_62 : decode cL_runs 62 = .ok (.ireturn, 1) := by decide +kernel
theorem dL_runs_63 : decode cL_runs 63 = .ok (.aload_n 0, 1) := by decide +kernel
theorem dL_runs_64 : decode cL_runs 64 = .ok (.iload_n 1, 1) := by decide +kernel
theorem dL_runs_65 : decode cL_runs 65 = .ok (.invokevirtual 127, 3) := by decide +kernel
theorem dL_runs_68 : decode cL_runs 68 = .ok (.istore 8, 2) := by decide +kernel
theorem dL_runs_70 : decode cL_runs 70 = .ok (.iload 8, 2) := by decide +kernel
theorem dL_runs_72 : decode cL_runs 72 = .ok (.aload_n 0, 1) := by decide +kernel
theorem dL_runs_73 : decode cL_runs 73 = .ok (.iload_n 2, 1) := by decide +kernel
theorem dL_runs_74 : decode cL_runs 74 = .ok (.invokevirtual 127, 3) := by decide +kernel
theorem dL_runs_77 : decode cL_runs 77 = .ok (.iadd, 1) := by decide +kernel
theorem dL_runs_78 : decode cL_runs 78 = .ok (.iload 5, 2) := by decide +kernel
theorem dL_runs_80 : decode cL_runs 80 = .ok (.if_icmp .ne 17, 3) := by decide +kernel
theorem dL_runs_83 : decode cL_runs 83 = .ok (.aload_n 0, 1) := by decide +kernel
theorem dL_runs_84 : decode cL_runs 84 = .ok (.invokestatic 130, 3) := by decide +kernel
theorem dL_runs_87 : decode cL_runs 87 = .ok (.lload 6, 2) := by decide +kernel
theorem dL_runs_89 : decode cL_runs 89 = .ok (.lcmp, 1) := by decide +kernel
theorem dL_runs_90 : decode cL_runs 90 = .ok (.ifCond .ne 7, 3) := by decide +kernel
theorem dL_runs_93 : decode cL_runs 93 = .ok (.iconst 1, 1) := by decide +kernel
theorem dL_runs_94 : decode cL_runs 94 = .ok (.goto 4, 3) := by decide +kernel
theorem dL_runs_97 : decode cL_runs 97 = .ok (.iconst 0, 1) := by decide +kernel
theorem dL_runs_98 : decode cL_runs 98 = .ok (.ireturn, 1) := by decide +kernel
abbrev rmL_runs : Room := { frames := 6, cells := 0, slots := 0, locals := 137 }
def w_L_runs (n : Nat) (M : Mem) (p1 : Nat) (p2 : Int32) (p3 : Int32) (K : Int32 → Mem → Prop) : Prop := ((p1 ≤ n ∧ kd p1 = (5, 0)) ∧ w_X5_keep n M p1  (fun x3 M2 => w_X5_count n M2 p1 (7 : Int32) (fun x5 M4 => w_X5_run n M4 p1 (p2 + p3) (fun x7 M6 => w_L_digest n M6 p1 (fun y9 M8 => w_X5_count n M8 p1 (7 : Int32) (fun x11 M10 => ((¬ x7 = (x11 - x5) → K (0 : Int32) M10) ∧ (x7 = (x11 - x5) → w_X5_restore n M10 p1  (fun x13 M12 => ((¬ x13 = x3 → K (0 : Int32) M12) ∧ (x13 = x3 → w_X5_run n M12 p1 (41 : Int32) (fun x15 M14 => ((x15 = (-2 : Int32) → w_X5_run n M14 p1 p2 (fun x17 M16 => w_X5_run n M16 p1 p3 (fun x19 M18 => ((¬ (x17 + x19) = x7 → K (0 : Int32) M18) ∧ ((x17 + x19) = x7 → w_L_digest n M18 p1 (fun y21 M20 => ((¬ (lg_cmp y21 y9) = 0 → K (0 : Int32) M20) ∧ ((lg_cmp y21 y9) = 0 → K (1 : Int32) M20)))))))) ∧ (¬ x15 = (-2 : Int32) → K (0 : Int32) M14))))))))))))))
set_option maxHeartbeats 4000000 in
set_option maxRecDepth 20000 in
theorem c_L_runs (l : Launch) (E : Gl) (n : Nat) (M : Mem) (p1 : Nat) (p2 : Int32) (p3 : Int32) (K : Int32 → Mem → Prop) (hw : w_L_runs n M p1 p2 p3 K) : CT E l yL_runs cL_runs 9 (some .boolean) rmL_runs n M [rV p1, iV p2, iV p3] (PI E n K) := by
  refine g_met l (by decide) (Nat.le_of_ble_eq_true rfl) ?_
  intro p e s m args below meth c X hr hlk hnm hSz hOld
  change CX E p s m c _ _ RL at X
  unfold w_L_runs at hw
  refine g_aload_n X dL_runs_0 0 rfl ?_
  obtain ⟨hk1, hw⟩ := hw
  refine g_calli (pc' := 4) (rest := []) rfl (fun H locs ls d qR qL => g_runV X cw_L_124 iv_X5_keep ⟨Nat.le_of_ble_eq_true rfl, Nat.le_of_ble_eq_true rfl⟩ dL_runs_1 (c_X5_keep l E n M p1  _ hw) hk1 rfl rfl (Nat.le_of_ble_eq_true rfl) ⟨Nat.le_of_ble_eq_true rfl, Nat.le_of_ble_eq_true rfl⟩ qR qL) (fun x3 M2 hw => ?_)
  refine g_istore_n (lv' := [(3, iV x3), (0, rV p1), (1, iV p2), (2, iV p3)]) X dL_runs_4 (by decide) rfl ?_
  refine g_aload_n X dL_runs_5 1 rfl ?_
  refine g_bipush X (7 : Int32) dL_runs_6 (by decide) ?_
  refine g_calli (pc' := 11) (rest := []) rfl (fun H locs ls d qR qL => g_runV X cw_L_13 iv_X5_count ⟨Nat.le_of_ble_eq_true rfl, Nat.le_of_ble_eq_true rfl⟩ dL_runs_8 (c_X5_count l E n M2 p1 (7 : Int32) _ hw) hk1 rfl rfl (Nat.le_of_ble_eq_true rfl) ⟨Nat.le_of_ble_eq_true rfl, Nat.le_of_ble_eq_true rfl⟩ qR qL) (fun x5 M4 hw => ?_)
  refine g_istore (lv' := [(4, iV x5), (3, iV x3), (0, rV p1), (1, iV p2), (2, iV p3)]) X dL_runs_11 (by decide) rfl ?_
  refine g_aload_n X dL_runs_13 2 rfl ?_
  refine g_iload_n X dL_runs_14 3 rfl ?_
  refine g_iload_n X dL_runs_15 4 rfl ?_
  refine g_iadd X dL_runs_16 ?_
  refine g_calli (pc' := 20) (rest := []) rfl (fun H locs ls d qR qL => g_runV X cw_L_127 iv_X5_run ⟨Nat.le_of_ble_eq_true rfl, Nat.le_of_ble_eq_true rfl⟩ dL_runs_17 (c_X5_run l E n M4 p1 (p2 + p3) _ hw) hk1 rfl rfl (Nat.le_of_ble_eq_true rfl) ⟨Nat.le_of_ble_eq_true rfl, Nat.le_of_ble_eq_true rfl⟩ qR qL) (fun x7 M6 hw => ?_)
  refine g_istore (lv' := [(5, iV x7), (4, iV x5), (3, iV x3), (0, rV p1), (1, iV p2), (2, iV p3)]) X dL_runs_20 (by decide) rfl ?_
  refine g_aload_n X dL_runs_22 3 rfl ?_
  refine g_calll (pc' := 26) (rest := []) rfl (fun H locs ls d qR qL => g_runS X cw_L_130 wt_L_digest ⟨Nat.le_of_ble_eq_true rfl, Nat.le_of_ble_eq_true rfl⟩ dL_runs_23 (c_L_digest l E n M6 p1 _ hw) rfl rfl (Nat.le_of_ble_eq_true rfl) ⟨Nat.le_of_ble_eq_true rfl, Nat.le_of_ble_eq_true rfl⟩ qR qL) (fun y9 M8 hw => ?_)
  refine g_lstore (lv' := [(6, lV y9), (5, iV x7), (4, iV x5), (3, iV x3), (0, rV p1), (1, iV p2), (2, iV p3)]) X dL_runs_26 (by decide) rfl ?_
  refine g_iload X dL_runs_28 1 rfl ?_
  refine g_aload_n X dL_runs_30 4 rfl ?_
  refine g_bipush X (7 : Int32) dL_runs_31 (by decide) ?_
  refine g_calli (pc' := 36) (rest := [iV x7]) rfl (fun H locs ls d qR qL => g_runV X cw_L_13 iv_X5_count ⟨Nat.le_of_ble_eq_true rfl, Nat.le_of_ble_eq_true rfl⟩ dL_runs_33 (c_X5_count l E n M8 p1 (7 : Int32) _ hw) hk1 rfl rfl (Nat.le_of_ble_eq_true rfl) ⟨Nat.le_of_ble_eq_true rfl, Nat.le_of_ble_eq_true rfl⟩ qR qL) (fun x11 M10 hw => ?_)
  refine g_iload X dL_runs_36 2 rfl ?_
  refine g_isub X dL_runs_38 ?_
  refine g_icmp_ne X 61 dL_runs_39 (by decide) hw (fun hw => ?_) (fun hw => ?_)
  · refine g_iconst X (0 : Int32) dL_runs_61 (by decide) ?_
    exact g_zret X hr hlk hSz hOld (Nat.le_refl _) dL_runs_62 ⟨rfl, hw⟩
  · refine g_aload_n X dL_runs_42 4 rfl ?_
    refine g_calli (pc' := 46) (rest := []) rfl (fun H locs ls d qR qL => g_runV X cw_L_134 iv_X5_restore ⟨Nat.le_of_ble_eq_true rfl, Nat.le_of_ble_eq_true rfl⟩ dL_runs_43 (c_X5_restore l E n M10 p1  _ hw) hk1 rfl rfl (Nat.le_of_ble_eq_true rfl) ⟨Nat.le_of_ble_eq_true rfl, Nat.le_of_ble_eq_true rfl⟩ qR qL) (fun x13 M12 hw => ?_)
    refine g_iload_n X dL_runs_46 3 rfl ?_
    refine g_icmp_ne X 61 dL_runs_47 (by decide) hw (fun hw => ?_) (fun hw => ?_)
    · refine g_iconst X (0 : Int32) dL_runs_61 (by decide) ?_
      exact g_zret X hr hlk hSz hOld (Nat.le_refl _) dL_runs_62 ⟨rfl, hw⟩
    · refine g_aload_n X dL_runs_50 4 rfl ?_
      refine g_bipush X (41 : Int32) dL_runs_51 (by decide) ?_
      refine g_calli (pc' := 56) (rest := []) rfl (fun H locs ls d qR qL => g_runV X cw_L_127 iv_X5_run ⟨Nat.le_of_ble_eq_true rfl, Nat.le_of_ble_eq_true rfl⟩ dL_runs_53 (c_X5_run l E n M12 p1 (41 : Int32) _ hw) hk1 rfl rfl (Nat.le_of_ble_eq_true rfl) ⟨Nat.le_of_ble_eq_true rfl, Nat.le_of_ble_eq_true rfl⟩ qR qL) (fun x15 M14 hw => ?_)
      refine g_bipush X (-2 : Int32) dL_runs_56 (by decide) ?_
      refine g_icmp_eq X 63 dL_runs_58 (by decide) hw (fun hw => ?_) (fun hw => ?_)
      · refine g_aload_n X dL_runs_63 4 rfl ?_
        refine g_iload_n X dL_runs_64 5 rfl ?_
        refine g_calli (pc' := 68) (rest := []) rfl (fun H locs ls d qR qL => g_runV X cw_L_127 iv_X5_run ⟨Nat.le_of_ble_eq_true rfl, Nat.le_of_ble_eq_true rfl⟩ dL_runs_65 (c_X5_run l E n M14 p1 p2 _ hw) hk1 rfl rfl (Nat.le_of_ble_eq_true rfl) ⟨Nat.le_of_ble_eq_true rfl, Nat.le_of_ble_eq_true rfl⟩ qR qL) (fun x17 M16 hw => ?_)
        refine g_istore (lv' := [(8, iV x17), (6, lV y9), (5, iV x7), (4, iV x5), (3, iV x3), (0, rV p1), (1, iV p2), (2, iV p3)]) X dL_runs_68 (by decide) rfl ?_
        refine g_iload X dL_runs_70 0 rfl ?_
        refine g_aload_n X dL_runs_72 5 rfl ?_
        refine g_iload_n X dL_runs_73 7 rfl ?_
        refine g_calli (pc' := 77) (rest := [iV x17]) rfl (fun H locs ls d qR qL => g_runV X cw_L_127 iv_X5_run ⟨Nat.le_of_ble_eq_true rfl, Nat.le_of_ble_eq_true rfl⟩ dL_runs_74 (c_X5_run l E n M16 p1 p3 _ hw) hk1 rfl rfl (Nat.le_of_ble_eq_true rfl) ⟨Nat.le_of_ble_eq_true rfl, Nat.le_of_ble_eq_true rfl⟩ qR qL) (fun x19 M18 hw => ?_)
        refine g_iadd X dL_runs_77 ?_
        refine g_iload X dL_runs_78 2 rfl ?_
        refine g_icmp_ne X 97 dL_runs_80 (by decide) hw (fun hw => ?_) (fun hw => ?_)
        · refine g_iconst X (0 : Int32) dL_runs_97 (by decide) ?_
          exact g_zret X hr hlk hSz hOld (Nat.le_refl _) dL_runs_98 ⟨rfl, hw⟩
        · refine g_aload_n X dL_runs_83 5 rfl ?_
          refine g_calll (pc' := 87) (rest := []) rfl (fun H locs ls d qR qL => g_runS X cw_L_130 wt_L_digest ⟨Nat.le_of_ble_eq_true rfl, Nat.le_of_ble_eq_true rfl⟩ dL_runs_84 (c_L_digest l E n M18 p1 _ hw) rfl rfl (Nat.le_of_ble_eq_true rfl) ⟨Nat.le_of_ble_eq_true rfl, Nat.le_of_ble_eq_true rfl⟩ qR qL) (fun y21 M20 hw => ?_)
          refine g_lload X dL_runs_87 1 rfl ?_
          refine g_lcmp X dL_runs_89 ?_
          refine g_if_ne X 97 dL_runs_90 (by decide) hw (fun hw => ?_) (fun hw => ?_)
          · refine g_iconst X (0 : Int32) dL_runs_97 (by decide) ?_
            exact g_zret X hr hlk hSz hOld (Nat.le_refl _) dL_runs_98 ⟨rfl, hw⟩
          · refine g_iconst X (1 : Int32) dL_runs_93 (by decide) ?_
            refine g_goto X 98 dL_runs_94 (by decide) ?_
            exact g_zret X hr hlk hSz hOld (Nat.le_refl _) dL_runs_98 ⟨rfl, hw⟩
      · refine g_iconst X (0 : Int32) dL_runs_61 (by decide) ?_
        exact g_zret X hr hlk hSz hOld (Nat.le_refl _) dL_runs_62 ⟨rfl, hw⟩
theorem dL_adds_0 : decode cL_adds 0 = .ok (.aload_n 0, 1) := by decide +kernel
theorem dL_adds_1 : decode cL_adds 1 = .ok (.iconst 2, 1) := by decide +kernel
theorem dL_adds_2 : decode cL_adds 2 = .ok (.invokevirtual 13, 3) := by decide +kernel
theorem dL_adds_5 : decode cL_adds 5 = .ok (.istore_n 3, 1) := by decide +kernel
theorem dL_adds_6 : decode cL_adds 6 = .ok (.iload_n 2, 1) := by decide +kernel
theorem dL_adds_7 : decode cL_adds 7 = .ok (.bipush 7, 2) := by decide +kernel
theorem dL_adds_9 : decode cL_adds 9 = .ok (.iand, 1) := by decide +kernel
theorem dL_adds_10 : decode cL_adds 10 = .ok (.ifCond .ne 7, 3) := by decide +kernel
theorem dL_adds_13 : decode cL_adds 13 = .ok (.iconst 0, 1) := by decide +kernel
theorem dL_adds_14 : decode cL_adds 14 = .ok (.goto 30, 3) := by decide +kernel
theorem dL_adds_17 : decode cL_adds 17 = .ok (.iload_n 2, 1) := by decide +kernel
theorem dL_adds_18 : decode cL_adds 18 = .ok (.bipush 7, 2) := by decide +kernel
theorem dL_adds_20 : decode cL_adds 20 = .ok (.iand, 1) := by decide +kernel
theorem dL_adds_21 : decode cL_adds 21 = .ok (.iconst 1, 1) := by decide +kernel
theorem dL_adds_22 : decode cL_adds 22 = .ok (.if_icmp .ne 14, 3) := by decide +kernel
theorem dL_adds_25 : decode cL_adds 25 = .ok (.iload_n 2, 1) := by decide +kernel
theorem dL_adds_26 : decode cL_adds 26 = .ok (.iconst 3, 1) := by decide +kernel
theorem dL_adds_27 : decode cL_adds 27 = .ok (.ishr, 1) := by decide +kernel
theorem dL_adds_28 : decode cL_adds 28 = .ok (.ldc 137, 2) := by decide +kernel
theorem dL_adds_30 : decode cL_adds 30 = .ok (.invokestatic 75, 3) := by decide +kernel
theorem dL_adds_33 : decode cL_adds 33 = .ok (.goto 11, 3) := by decide +kernel
theorem dL_adds_36 : decode cL_adds 36 = .ok (.iload_n 2, 1) := by decide +kernel
theorem dL_adds_37 : decode cL_adds 37 = .ok (.iconst 3, 1) := by decide +kernel
theorem dL_adds_38 : decode cL_adds 38 = .ok (.ishr, 1) := by decide +kernel
theorem dL_adds_39 : decode cL_adds 39 = .ok (.bipush 120, 2) := by decide +kernel
theorem dL_adds_41 : decode cL_adds 41 = .ok (.invokestatic 75, 3) := by decide +kernel
theorem dL_adds_44 : decode cL_adds 44 = .ok (.istore 4, 2) := by decide +kernel
theorem dL_adds_46 : decode cL_adds 46 = .ok (.iload_n 2, 1) := by decide +kernel
theorem dL_adds_47 : decode cL_adds 47 = .ok (.bipush 7, 2) := by decide +kernel
theorem dL_adds_49 : decode cL_adds 49 = .ok (.iand, 1) := by decide +kernel
theorem dL_adds_50 : decode cL_adds 50 = .ok (.iconst 4, 1) := by decide +kernel
theorem dL_adds_51 : decode cL_adds 51 = .ok (.if_icmp .ge 8, 3) := by decide +kernel
theorem dL_adds_54 : decode cL_adds 54 = .ok (.bipush 100, 2) := by decide +kernel
theorem dL_adds_56 : decode cL_adds 56 = .ok (.goto 15, 3) := by decide +kernel
theorem dL_adds_59 : decode cL_adds 59 = .ok (.iconst 1, 1) := by decide +kernel
theorem dL_adds_60 : decode cL_adds 60 = .ok (.iload_n 2, 1) := by decide +kernel
theorem dL_adds_61 : decode cL_adds 61 = .ok (.bipush 9, 2) := by decide +kernel
theorem dL_adds_63 : decode cL_adds 63 = .ok (.ishr, 1) := by decide +kernel
theorem dL_adds_64 : decode cL_adds 64 = .ok (.sipush 999, 3) := by decide +kernel
theorem dL_adds_67 : decode cL_adds 67 = .ok (.invokestatic 75, 3) := by decide +kernel
theorem dL_adds_70 : decode cL_adds 70 = .ok (.iadd, 1) := by decide +kernel
theorem dL_adds_71 : decode cL_adds 71 = .ok (.istore 5, 2) := by decide +kernel
theorem dL_adds_73 : decode cL_adds 73 = .ok (.aload_n 0, 1) := by decide +kernel
theorem dL_adds_74 : decode cL_adds 74 = .ok (.iload_n 1, 1) := by decide +kernel
theorem dL_adds_75 : decode cL_adds 75 = .ok (.iconst 1, 1) := by decide +kernel
theorem dL_adds_76 : decode cL_adds 76 = .ok (.iand, 1) := by decide +kernel
theorem dL_adds_77 : decode cL_adds 77 = .ok (.iconst 1, 1) := by decide +kernel
theorem dL_adds_78 : decode cL_adds 78 = .ok (.if_icmp .ne 7, 3) := by decide +kernel
theorem dL_adds_81 : decode cL_adds 81 = .ok (.iconst 1, 1) := by decide +kernel
theorem dL_adds_82 : decode cL_adds 82 = .ok (.goto 4, 3) := by decide +kernel
theorem dL_adds_85 : decode cL_adds 85 = .ok (.iconst 0, 1) := by decide +kernel
theorem dL_adds_86 : decode cL_adds 86 = .ok (.iload 4, 2) := by decide +kernel
theorem dL_adds_88 : decode cL_adds 88 = .ok (.iload 5, 2) := by decide +kernel
theorem dL_adds_90 : decode cL_adds 90 = .ok (.invokevirtual 138, 3) := by decide +kernel
theorem dL_adds_93 : decode cL_adds 93 = .ok (.istore 6, 2) := by decide +kernel
theorem dL_adds_95 : decode cL_adds 95 = .ok (.iload_n 3, 1) := by decide +kernel
theorem dL_adds_96 : decode cL_adds 96 = .ok (.bipush 60, 2) := by decide +kernel
theorem dL_adds_98 : decode cL_adds 98 = .ok (.if_icmp .ne 18, 3) := by decide +kernel
theorem dL_adds_101 : decode cL_adds 101 = .ok (.iload 6, 2) := by decide +kernel
theorem dL_adds_103 : decode cL_adds 103 = .ok (.bipush (-3), 2) := by decide +kernel
theorem dL_adds_105 : decode cL_adds 105 = .ok (.if_icmp .ne 7, 3) := by decide +kernel
theorem dL_adds_108 : decode cL_adds 108 = .ok (.iconst 1, 1) := by decide +kernel
theorem dL_adds_109 : decode cL_adds 109 = .ok (.goto 82, 3) := by decide +kernel
theorem dL_adds_112 : decode cL_adds 112 = .ok (.iconst 0, 1) := by decide +kernel
theorem dL_adds_113 : decode cL_adds 113 = .ok (.goto 78, 3) := by decide +kernel
theorem dL_adds_116 : decode cL_adds 116 = .ok (.iload 6, 2) := by decide +kernel
theorem dL_adds_118 : decode cL_adds 118 = .ok (.iload_n 3, 1) := by decide +kernel
theorem dL_adds_119 : decode cL_adds 119 = .ok (.if_icmp .ne 71, 3) := by decide +kernel
theorem dL_adds_122 : decode cL_adds 122 = .ok (.aload_n 0, 1) := by decide +kernel
theorem dL_adds_123 : decode cL_adds 123 = .ok (.iload_n 3, 1) := by decide +kernel
theorem dL_adds_124 : decode cL_adds 124 = .ok (.iconst 0, 1) := by decide +kernel
theorem dL_adds_125 : decode cL_adds 125 = .ok (.invokevirtual 30, 3) := by decide +kernel
theorem dL_adds_128 : decode cL_adds 128 = .ok (.iload_n 1, 1) := by decide +kernel
theorem dL_adds_129 : decode cL_adds 129 = .ok (.iconst 1, 1) := by decide +kernel
theorem dL_adds_130 : decode cL_adds 130 = .ok (.iand, 1) := by decide +kernel
theorem dL_adds_131 : decode cL_adds 131 = .ok (.if_icmp .ne 59, 3) := by decide +kernel
theorem dL_adds_134 : decode cL_adds 134 = .ok (.aload_n 0, 1) := by decide +kernel
theorem dL_adds_135 : decode cL_adds 135 = .ok (.iload_n 3, 1) := by decide +kernel
theorem dL_adds_136 : decode cL_adds 136 = .ok (.iconst 1, 1) := by decide +kernel
theorem dL_adds_137 : decode cL_adds 137 = .ok (.invokevirtual 30, 3) := by decide +kernel
theorem dL_adds_140 : decode cL_adds 140 = .ok (.iload 4, 2) := by decide +kernel
theorem dL_adds_142 : decode cL_adds 142 = .ok (.if_icmp .ne 48, 3) := by decide +kernel
theorem dL_adds_145 : decode cL_adds 145 = .ok (.aload_n 0, 1) := by decide +kernel
theorem dL_adds_146 : decode cL_adds 146 = .ok (.iload_n 3, 1) := by decide +kernel
theorem dL_adds_147 : decode cL_adds 147 = .ok (.iconst 2, 1) := by decide +kernel
theorem dL_adds_148 : decode cL_adds 148 = .ok (.invokevirtual 30, 3) := by decide +kernel
theorem dL_adds_151 : decode cL_adds 151 = .ok (.iload 5, 2) := by decide +kernel
theorem dL_adds_153 : decode cL_adds 153 = .ok (.if_icmp .ne 37, 3) := by decide +kernel
theorem dL_adds_156 : decode cL_adds 156 = .ok (.aload_n 0, 1) := by decide +kernel
theorem dL_adds_157 : decode cL_adds 157 = .ok (.iload_n 3, 1) := by decide +kernel
theorem dL_adds_158 : decode cL_adds 158 = .ok (.bipush 8, 2) := by decide +kernel
theorem dL_adds_160 : decode cL_adds 160 = .ok (.invokevirtual 30, 3) := by decide +kernel
theorem dL_adds_163 : decode cL_adds 163 = .ok (.aload_n 0, 1) := by decide +kernel
theorem dL_adds_164 : decode cL_adds 164 = .ok (.iconst 3, 1) := by decide +kernel
theorem dL_adds_165 : decode cL_adds 165 = .ok (.invokevirtual 13, 3) := by decide +kernel
theorem dL_adds_168 : decode cL_adds 168 = .ok (.iconst 1, 1) := by decide +kernel
theorem dL_adds_169 : decode cL_adds 169 = .ok (.isub, 1) := by decide +kernel
theorem dL_adds_170 : decode cL_adds 170 = .ok (.if_icmp .ne 20, 3) := by decide +kernel
theorem dL_adds_173 : decode cL_adds 173 = .ok (.aload_n 0, 1) := by decide +kernel
theorem dL_adds_174 : decode cL_adds 174 = .ok (.iconst 0, 1) := by decide +kernel
theorem dL_adds_175 : decode cL_adds 175 = .ok (.ldc 137, 2) := by decide +kernel
theorem dL_adds_177 : decode cL_adds 177 = .ok (.iconst 1, 1) := by decide +kernel
theorem dL_adds_178 : decode cL_adds 178 = .ok (.invokevirtual 138, 3) := by decide +kernel
theorem dL_adds_181 : decode cL_adds 181 = .ok (.bipush (-2), 2) := by decide +kernel
theorem dL_adds_183 : decode cL_adds 183 = .ok (.if_icmp .ne 7, 3) := by decide +kernel
theorem dL_adds_186 : decode cL_adds 186 = .ok (.iconst 1, 1) := by decide +kernel
theorem dL_adds_187 : decode cL_adds 187 = .ok (.goto 4, 3) := by decide +kernel
theorem dL_adds_190 : decode cL_adds 190 = .ok (.iconst 0, 1) := by decide +kernel
theorem dL_adds_191 : decode cL_adds 191 = .ok (.ireturn, 1) := by decide +kernel
abbrev rmL_adds : Room := { frames := 4, cells := 0, slots := 0, locals := 86 }
def w_L_adds_L73 (n : Nat) (K : Int32 → Mem → Prop) (M : Mem) (o0 : Nat) (a1 : Int32) (a3 : Int32) (a4 : Int32) (a5 : Int32) : Prop := (∀ x9 : Int32, x9 = (if (a1 &&& (1 : Int32)) = (1 : Int32) then (1 : Int32) else (0 : Int32)) → ((o0 ≤ n ∧ kd o0 = (5, 0)) ∧ w_X5_add n M o0 x9 a4 a5 (fun x12 M11 => ((¬ a3 = (60 : Int32) → ((¬ x12 = a3 → K (0 : Int32) M11) ∧ (x12 = a3 → w_X5_part n M11 o0 a3 (0 : Int32) (fun x14 M13 => ((¬ x14 = (a1 &&& (1 : Int32)) → K (0 : Int32) M13) ∧ (x14 = (a1 &&& (1 : Int32)) → w_X5_part n M13 o0 a3 (1 : Int32) (fun x16 M15 => ((¬ x16 = a4 → K (0 : Int32) M15) ∧ (x16 = a4 → w_X5_part n M15 o0 a3 (2 : Int32) (fun x18 M17 => ((¬ x18 = a5 → K (0 : Int32) M17) ∧ (x18 = a5 → w_X5_part n M17 o0 a3 (8 : Int32) (fun x20 M19 => w_X5_count n M19 o0 (3 : Int32) (fun x22 M21 => ((¬ x20 = (x22 - (1 : Int32)) → K (0 : Int32) M21) ∧ (x20 = (x22 - (1 : Int32)) → w_X5_add n M21 o0 (0 : Int32) (100000 : Int32) (1 : Int32) (fun x24 M23 => ((¬ x24 = (-2 : Int32) → K (0 : Int32) M23) ∧ (x24 = (-2 : Int32) → K (1 : Int32) M23))))))))))))))))))) ∧ (a3 = (60 : Int32) → ((¬ x12 = (-3 : Int32) → K (0 : Int32) M11) ∧ (x12 = (-3 : Int32) → K (1 : Int32) M11)))))))
def w_L_adds_L46 (n : Nat) (K : Int32 → Mem → Prop) (M : Mem) (o0 : Nat) (a1 : Int32) (a2 : Int32) (a3 : Int32) (a4 : Int32) : Prop := (((4 : Int32) ≤ (a2 &&& (7 : Int32)) → w_L_low n M (a2 >>> ((9 : Int32) &&& 31)) (999 : Int32) (fun x7 M6 => (∀ x8, x8 = (1 : Int32) + x7 → w_L_adds_L73 n K M6 o0 a1 a3 a4 x8))) ∧ (¬ (4 : Int32) ≤ (a2 &&& (7 : Int32)) → w_L_adds_L73 n K M o0 a1 a3 a4 (100 : Int32)))
def w_L_adds (n : Nat) (M : Mem) (p1 : Nat) (p2 : Int32) (p3 : Int32) (K : Int32 → Mem → Prop) : Prop := ((p1 ≤ n ∧ kd p1 = (5, 0)) ∧ w_X5_count n M p1 (2 : Int32) (fun x3 M2 => ((¬ (p3 &&& (7 : Int32)) = 0 → ((¬ (p3 &&& (7 : Int32)) = (1 : Int32) → w_L_low n M2 (p3 >>> ((3 : Int32) &&& 31)) (120 : Int32) (fun x5 M4 => w_L_adds_L46 n K M4 p1 p2 p3 x3 x5)) ∧ ((p3 &&& (7 : Int32)) = (1 : Int32) → w_L_low n M2 (p3 >>> ((3 : Int32) &&& 31)) (100000 : Int32) (fun x26 M25 => w_L_adds_L46 n K M25 p1 p2 p3 x3 x26)))) ∧ ((p3 &&& (7 : Int32)) = 0 → w_L_adds_L46 n K M2 p1 p2 p3 x3 (0 : Int32)))))
set_option maxHeartbeats 4000000 in
set_option maxRecDepth 20000 in
theorem c_L_adds (l : Launch) (E : Gl) (n : Nat) (M : Mem) (p1 : Nat) (p2 : Int32) (p3 : Int32) (K : Int32 → Mem → Prop) (hw : w_L_adds n M p1 p2 p3 K) : CT E l yL_adds cL_adds 7 (some .boolean) rmL_adds n M [rV p1, iV p2, iV p3] (PI E n K) := by
  refine g_met l (by decide) (Nat.le_of_ble_eq_true rfl) ?_
  intro p e s m args below meth c X hr hlk hnm hSz hOld
  change CX E p s m c _ _ RL at X
  have L73 : ∀ (M : Mem) (o0 : Nat) (a1 : Int32) (a3 : Int32) (a4 : Int32) (a5 : Int32), w_L_adds_L73 n K M o0 a1 a3 a4 a5 → G E p l e rmL_adds s m args below meth c 7 n M 0 0 (MQD lw_cs below (PI E n K) args s rmL_adds.cells rmL_adds.slots (Ab E)) 73 [(0, rV o0), (1, iV a1), (3, iV a3), (4, iV a4), (5, iV a5)] [] := by
    intro M o0 a1 a3 a4 a5 hw
    unfold w_L_adds_L73 at hw
    refine g_aload_n X dL_adds_73 0 rfl ?_
    refine g_iload_n X dL_adds_74 1 rfl ?_
    refine g_iconst X (1 : Int32) dL_adds_75 (by decide) ?_
    refine g_iand X dL_adds_76 ?_
    refine g_iconst X (1 : Int32) dL_adds_77 (by decide) ?_
    suffices kk : ∀ x9 : Int32, x9 = (if (a1 &&& (1 : Int32)) = (1 : Int32) then (1 : Int32) else (0 : Int32)) → G E p l e rmL_adds s m args below meth c 7 n M 0 0 (MQD lw_cs below (PI E n K) args s rmL_adds.cells rmL_adds.slots (Ab E)) 86 [(0, rV o0), (1, iV a1), (3, iV a3), (4, iV a4), (5, iV a5)] [iV x9, rV o0] by
      refine g_icmp_ne X 85 dL_adds_78 (by decide) ⟨fun h => h, fun h => h⟩ (fun hc => ?_) (fun hc => ?_)
      · refine g_iconst X (0 : Int32) dL_adds_85 (by decide) ?_
        exact kk _ (if_neg hc).symm
      · refine g_iconst X (1 : Int32) dL_adds_81 (by decide) ?_
        refine g_goto X 86 dL_adds_82 (by decide) ?_
        exact kk _ (if_pos hc).symm
    intro x9 hx9
    have hw := hw x9 hx9
    refine g_iload X dL_adds_86 3 rfl ?_
    refine g_iload X dL_adds_88 4 rfl ?_
    obtain ⟨hk10, hw⟩ := hw
    refine g_calli (pc' := 93) (rest := []) rfl (fun H locs ls d qR qL => g_runV X cw_L_138 iv_X5_add ⟨Nat.le_of_ble_eq_true rfl, Nat.le_of_ble_eq_true rfl⟩ dL_adds_90 (c_X5_add l E n M o0 x9 a4 a5 _ hw) hk10 rfl rfl (Nat.le_of_ble_eq_true rfl) ⟨Nat.le_of_ble_eq_true rfl, Nat.le_of_ble_eq_true rfl⟩ qR qL) (fun x12 M11 hw => ?_)
    refine g_istore (lv' := [(6, iV x12), (0, rV o0), (1, iV a1), (3, iV a3), (4, iV a4), (5, iV a5)]) X dL_adds_93 (by decide) rfl ?_
    refine g_iload_n X dL_adds_95 3 rfl ?_
    refine g_bipush X (60 : Int32) dL_adds_96 (by decide) ?_
    refine g_icmp_ne X 116 dL_adds_98 (by decide) hw (fun hw => ?_) (fun hw => ?_)
    · refine g_iload X dL_adds_116 0 rfl ?_
      refine g_iload_n X dL_adds_118 3 rfl ?_
      refine g_icmp_ne X 190 dL_adds_119 (by decide) hw (fun hw => ?_) (fun hw => ?_)
      · refine g_iconst X (0 : Int32) dL_adds_190 (by decide) ?_
        exact g_zret X hr hlk hSz hOld (Nat.le_refl _) dL_adds_191 ⟨rfl, hw⟩
      · refine g_aload_n X dL_adds_122 1 rfl ?_
        refine g_iload_n X dL_adds_123 3 rfl ?_
        refine g_iconst X (0 : Int32) dL_adds_124 (by decide) ?_
        refine g_calli (pc' := 128) (rest := []) rfl (fun H locs ls d qR qL => g_runV X cw_L_30 iv_X5_part ⟨Nat.le_of_ble_eq_true rfl, Nat.le_of_ble_eq_true rfl⟩ dL_adds_125 (c_X5_part l E n M11 o0 a3 (0 : Int32) _ hw) hk10 rfl rfl (Nat.le_of_ble_eq_true rfl) ⟨Nat.le_of_ble_eq_true rfl, Nat.le_of_ble_eq_true rfl⟩ qR qL) (fun x14 M13 hw => ?_)
        refine g_iload_n X dL_adds_128 2 rfl ?_
        refine g_iconst X (1 : Int32) dL_adds_129 (by decide) ?_
        refine g_iand X dL_adds_130 ?_
        refine g_icmp_ne X 190 dL_adds_131 (by decide) hw (fun hw => ?_) (fun hw => ?_)
        · refine g_iconst X (0 : Int32) dL_adds_190 (by decide) ?_
          exact g_zret X hr hlk hSz hOld (Nat.le_refl _) dL_adds_191 ⟨rfl, hw⟩
        · refine g_aload_n X dL_adds_134 1 rfl ?_
          refine g_iload_n X dL_adds_135 3 rfl ?_
          refine g_iconst X (1 : Int32) dL_adds_136 (by decide) ?_
          refine g_calli (pc' := 140) (rest := []) rfl (fun H locs ls d qR qL => g_runV X cw_L_30 iv_X5_part ⟨Nat.le_of_ble_eq_true rfl, Nat.le_of_ble_eq_true rfl⟩ dL_adds_137 (c_X5_part l E n M13 o0 a3 (1 : Int32) _ hw) hk10 rfl rfl (Nat.le_of_ble_eq_true rfl) ⟨Nat.le_of_ble_eq_true rfl, Nat.le_of_ble_eq_true rfl⟩ qR qL) (fun x16 M15 hw => ?_)
          refine g_iload X dL_adds_140 4 rfl ?_
          refine g_icmp_ne X 190 dL_adds_142 (by decide) hw (fun hw => ?_) (fun hw => ?_)
          · refine g_iconst X (0 : Int32) dL_adds_190 (by decide) ?_
            exact g_zret X hr hlk hSz hOld (Nat.le_refl _) dL_adds_191 ⟨rfl, hw⟩
          · refine g_aload_n X dL_adds_145 1 rfl ?_
            refine g_iload_n X dL_adds_146 3 rfl ?_
            refine g_iconst X (2 : Int32) dL_adds_147 (by decide) ?_
            refine g_calli (pc' := 151) (rest := []) rfl (fun H locs ls d qR qL => g_runV X cw_L_30 iv_X5_part ⟨Nat.le_of_ble_eq_true rfl, Nat.le_of_ble_eq_true rfl⟩ dL_adds_148 (c_X5_part l E n M15 o0 a3 (2 : Int32) _ hw) hk10 rfl rfl (Nat.le_of_ble_eq_true rfl) ⟨Nat.le_of_ble_eq_true rfl, Nat.le_of_ble_eq_true rfl⟩ qR qL) (fun x18 M17 hw => ?_)
            refine g_iload X dL_adds_151 5 rfl ?_
            refine g_icmp_ne X 190 dL_adds_153 (by decide) hw (fun hw => ?_) (fun hw => ?_)
            · refine g_iconst X (0 : Int32) dL_adds_190 (by decide) ?_
              exact g_zret X hr hlk hSz hOld (Nat.le_refl _) dL_adds_191 ⟨rfl, hw⟩
            · refine g_aload_n X dL_adds_156 1 rfl ?_
              refine g_iload_n X dL_adds_157 3 rfl ?_
              refine g_bipush X (8 : Int32) dL_adds_158 (by decide) ?_
              refine g_calli (pc' := 163) (rest := []) rfl (fun H locs ls d qR qL => g_runV X cw_L_30 iv_X5_part ⟨Nat.le_of_ble_eq_true rfl, Nat.le_of_ble_eq_true rfl⟩ dL_adds_160 (c_X5_part l E n M17 o0 a3 (8 : Int32) _ hw) hk10 rfl rfl (Nat.le_of_ble_eq_true rfl) ⟨Nat.le_of_ble_eq_true rfl, Nat.le_of_ble_eq_true rfl⟩ qR qL) (fun x20 M19 hw => ?_)
              refine g_aload_n X dL_adds_163 1 rfl ?_
              refine g_iconst X (3 : Int32) dL_adds_164 (by decide) ?_
              refine g_calli (pc' := 168) (rest := [iV x20]) rfl (fun H locs ls d qR qL => g_runV X cw_L_13 iv_X5_count ⟨Nat.le_of_ble_eq_true rfl, Nat.le_of_ble_eq_true rfl⟩ dL_adds_165 (c_X5_count l E n M19 o0 (3 : Int32) _ hw) hk10 rfl rfl (Nat.le_of_ble_eq_true rfl) ⟨Nat.le_of_ble_eq_true rfl, Nat.le_of_ble_eq_true rfl⟩ qR qL) (fun x22 M21 hw => ?_)
              refine g_iconst X (1 : Int32) dL_adds_168 (by decide) ?_
              refine g_isub X dL_adds_169 ?_
              refine g_icmp_ne X 190 dL_adds_170 (by decide) hw (fun hw => ?_) (fun hw => ?_)
              · refine g_iconst X (0 : Int32) dL_adds_190 (by decide) ?_
                exact g_zret X hr hlk hSz hOld (Nat.le_refl _) dL_adds_191 ⟨rfl, hw⟩
              · refine g_aload_n X dL_adds_173 1 rfl ?_
                refine g_iconst X (0 : Int32) dL_adds_174 (by decide) ?_
                refine g_ldc X (100000 : Int32) dL_adds_175 wk_L_137 ?_
                refine g_iconst X (1 : Int32) dL_adds_177 (by decide) ?_
                refine g_calli (pc' := 181) (rest := []) rfl (fun H locs ls d qR qL => g_runV X cw_L_138 iv_X5_add ⟨Nat.le_of_ble_eq_true rfl, Nat.le_of_ble_eq_true rfl⟩ dL_adds_178 (c_X5_add l E n M21 o0 (0 : Int32) (100000 : Int32) (1 : Int32) _ hw) hk10 rfl rfl (Nat.le_of_ble_eq_true rfl) ⟨Nat.le_of_ble_eq_true rfl, Nat.le_of_ble_eq_true rfl⟩ qR qL) (fun x24 M23 hw => ?_)
                refine g_bipush X (-2 : Int32) dL_adds_181 (by decide) ?_
                refine g_icmp_ne X 190 dL_adds_183 (by decide) hw (fun hw => ?_) (fun hw => ?_)
                · refine g_iconst X (0 : Int32) dL_adds_190 (by decide) ?_
                  exact g_zret X hr hlk hSz hOld (Nat.le_refl _) dL_adds_191 ⟨rfl, hw⟩
                · refine g_iconst X (1 : Int32) dL_adds_186 (by decide) ?_
                  refine g_goto X 191 dL_adds_187 (by decide) ?_
                  exact g_zret X hr hlk hSz hOld (Nat.le_refl _) dL_adds_191 ⟨rfl, hw⟩
    · refine g_iload X dL_adds_101 0 rfl ?_
      refine g_bipush X (-3 : Int32) dL_adds_103 (by decide) ?_
      refine g_icmp_ne X 112 dL_adds_105 (by decide) hw (fun hw => ?_) (fun hw => ?_)
      · refine g_iconst X (0 : Int32) dL_adds_112 (by decide) ?_
        refine g_goto X 191 dL_adds_113 (by decide) ?_
        exact g_zret X hr hlk hSz hOld (Nat.le_refl _) dL_adds_191 ⟨rfl, hw⟩
      · refine g_iconst X (1 : Int32) dL_adds_108 (by decide) ?_
        refine g_goto X 191 dL_adds_109 (by decide) ?_
        exact g_zret X hr hlk hSz hOld (Nat.le_refl _) dL_adds_191 ⟨rfl, hw⟩
  have L46 : ∀ (M : Mem) (o0 : Nat) (a1 : Int32) (a2 : Int32) (a3 : Int32) (a4 : Int32), w_L_adds_L46 n K M o0 a1 a2 a3 a4 → G E p l e rmL_adds s m args below meth c 7 n M 0 0 (MQD lw_cs below (PI E n K) args s rmL_adds.cells rmL_adds.slots (Ab E)) 46 [(0, rV o0), (1, iV a1), (2, iV a2), (3, iV a3), (4, iV a4)] [] := by
    intro M o0 a1 a2 a3 a4 hw
    unfold w_L_adds_L46 at hw
    refine g_iload_n X dL_adds_46 2 rfl ?_
    refine g_bipush X (7 : Int32) dL_adds_47 (by decide) ?_
    refine g_iand X dL_adds_49 ?_
    refine g_iconst X (4 : Int32) dL_adds_50 (by decide) ?_
    refine g_icmp_ge X 59 dL_adds_51 (by decide) hw (fun hw => ?_) (fun hw => ?_)
    · refine g_iconst X (1 : Int32) dL_adds_59 (by decide) ?_
      refine g_iload_n X dL_adds_60 2 rfl ?_
      refine g_bipush X (9 : Int32) dL_adds_61 (by decide) ?_
      refine g_ishr X dL_adds_63 ?_
      refine g_sipush X (999 : Int32) dL_adds_64 (by decide) ?_
      refine g_calli (pc' := 70) (rest := [iV (1 : Int32)]) rfl (fun H locs ls d qR qL => g_runS X cw_L_75 wt_L_low ⟨Nat.le_of_ble_eq_true rfl, Nat.le_of_ble_eq_true rfl⟩ dL_adds_67 (c_L_low l E n M (a2 >>> ((9 : Int32) &&& 31)) (999 : Int32) _ hw) rfl rfl (Nat.le_of_ble_eq_true rfl) ⟨Nat.le_of_ble_eq_true rfl, Nat.le_of_ble_eq_true rfl⟩ qR qL) (fun x7 M6 hw => ?_)
      refine g_iadd X dL_adds_70 ?_
      refine g_topI (fun x8 hx8 => ?_)
      have hw := hw x8 hx8
      refine g_istore (lv' := [(5, iV x8), (0, rV o0), (1, iV a1), (2, iV a2), (3, iV a3), (4, iV a4)]) X dL_adds_71 (by decide) rfl ?_
      refine g_lvsub (lv' := [(0, rV o0), (1, iV a1), (3, iV a3), (4, iV a4), (5, iV x8)]) [1, 2, 4, 5, 0] rfl ?_
      exact L73 _ _ _ _ _ _ hw
    · refine g_bipush X (100 : Int32) dL_adds_54 (by decide) ?_
      refine g_goto X 71 dL_adds_56 (by decide) ?_
      refine g_istore (lv' := [(5, iV (100 : Int32)), (0, rV o0), (1, iV a1), (2, iV a2), (3, iV a3), (4, iV a4)]) X dL_adds_71 (by decide) rfl ?_
      refine g_lvsub (lv' := [(0, rV o0), (1, iV a1), (3, iV a3), (4, iV a4), (5, iV (100 : Int32))]) [1, 2, 4, 5, 0] rfl ?_
      exact L73 _ _ _ _ _ _ hw
  unfold w_L_adds at hw
  refine g_aload_n X dL_adds_0 0 rfl ?_
  refine g_iconst X (2 : Int32) dL_adds_1 (by decide) ?_
  obtain ⟨hk1, hw⟩ := hw
  refine g_calli (pc' := 5) (rest := []) rfl (fun H locs ls d qR qL => g_runV X cw_L_13 iv_X5_count ⟨Nat.le_of_ble_eq_true rfl, Nat.le_of_ble_eq_true rfl⟩ dL_adds_2 (c_X5_count l E n M p1 (2 : Int32) _ hw) hk1 rfl rfl (Nat.le_of_ble_eq_true rfl) ⟨Nat.le_of_ble_eq_true rfl, Nat.le_of_ble_eq_true rfl⟩ qR qL) (fun x3 M2 hw => ?_)
  refine g_istore_n (lv' := [(3, iV x3), (0, rV p1), (1, iV p2), (2, iV p3)]) X dL_adds_5 (by decide) rfl ?_
  refine g_iload_n X dL_adds_6 3 rfl ?_
  refine g_bipush X (7 : Int32) dL_adds_7 (by decide) ?_
  refine g_iand X dL_adds_9 ?_
  refine g_if_ne X 17 dL_adds_10 (by decide) hw (fun hw => ?_) (fun hw => ?_)
  · refine g_iload_n X dL_adds_17 3 rfl ?_
    refine g_bipush X (7 : Int32) dL_adds_18 (by decide) ?_
    refine g_iand X dL_adds_20 ?_
    refine g_iconst X (1 : Int32) dL_adds_21 (by decide) ?_
    refine g_icmp_ne X 36 dL_adds_22 (by decide) hw (fun hw => ?_) (fun hw => ?_)
    · refine g_iload_n X dL_adds_36 3 rfl ?_
      refine g_iconst X (3 : Int32) dL_adds_37 (by decide) ?_
      refine g_ishr X dL_adds_38 ?_
      refine g_bipush X (120 : Int32) dL_adds_39 (by decide) ?_
      refine g_calli (pc' := 44) (rest := []) rfl (fun H locs ls d qR qL => g_runS X cw_L_75 wt_L_low ⟨Nat.le_of_ble_eq_true rfl, Nat.le_of_ble_eq_true rfl⟩ dL_adds_41 (c_L_low l E n M2 (p3 >>> ((3 : Int32) &&& 31)) (120 : Int32) _ hw) rfl rfl (Nat.le_of_ble_eq_true rfl) ⟨Nat.le_of_ble_eq_true rfl, Nat.le_of_ble_eq_true rfl⟩ qR qL) (fun x5 M4 hw => ?_)
      refine g_istore (lv' := [(4, iV x5), (3, iV x3), (0, rV p1), (1, iV p2), (2, iV p3)]) X dL_adds_44 (by decide) rfl ?_
      refine g_lvsub (lv' := [(0, rV p1), (1, iV p2), (2, iV p3), (3, iV x3), (4, iV x5)]) [2, 3, 4, 1, 0] rfl ?_
      exact L46 _ _ _ _ _ _ hw
    · refine g_iload_n X dL_adds_25 3 rfl ?_
      refine g_iconst X (3 : Int32) dL_adds_26 (by decide) ?_
      refine g_ishr X dL_adds_27 ?_
      refine g_ldc X (100000 : Int32) dL_adds_28 wk_L_137 ?_
      refine g_calli (pc' := 33) (rest := []) rfl (fun H locs ls d qR qL => g_runS X cw_L_75 wt_L_low ⟨Nat.le_of_ble_eq_true rfl, Nat.le_of_ble_eq_true rfl⟩ dL_adds_30 (c_L_low l E n M2 (p3 >>> ((3 : Int32) &&& 31)) (100000 : Int32) _ hw) rfl rfl (Nat.le_of_ble_eq_true rfl) ⟨Nat.le_of_ble_eq_true rfl, Nat.le_of_ble_eq_true rfl⟩ qR qL) (fun x26 M25 hw => ?_)
      refine g_goto X 44 dL_adds_33 (by decide) ?_
      refine g_istore (lv' := [(4, iV x26), (3, iV x3), (0, rV p1), (1, iV p2), (2, iV p3)]) X dL_adds_44 (by decide) rfl ?_
      refine g_lvsub (lv' := [(0, rV p1), (1, iV p2), (2, iV p3), (3, iV x3), (4, iV x26)]) [2, 3, 4, 1, 0] rfl ?_
      exact L46 _ _ _ _ _ _ hw
  · refine g_iconst X (0 : Int32) dL_adds_13 (by decide) ?_
    refine g_goto X 44 dL_adds_14 (by decide) ?_
    refine g_istore (lv' := [(4, iV (0 : Int32)), (3, iV x3), (0, rV p1), (1, iV p2), (2, iV p3)]) X dL_adds_44 (by decide) rfl ?_
    refine g_lvsub (lv' := [(0, rV p1), (1, iV p2), (2, iV p3), (3, iV x3), (4, iV (0 : Int32))]) [2, 3, 4, 1, 0] rfl ?_
    exact L46 _ _ _ _ _ _ hw
