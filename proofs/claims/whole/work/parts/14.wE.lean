/-! written by wip/whole/gen2.py out of the bytecode -/
theorem wc_X6_goes : Cond.code yX6_goes cX6_goes 4 (some .int) ∈ lwG := lwG_of (tb4 _ (List.mem_of_getElem? (i := 63) (by decide +kernel))) (by decide +kernel)
theorem wm_X6_147 : Cond.methodLink RX6 147 yX6_goes ∈ lwG := lwG_of (tb4 _ (List.mem_of_getElem? (i := 60) (by decide +kernel))) (by decide +kernel)
theorem cw_X6_147 : CW RX6 147 yX6_goes cX6_goes 4 (some .int) 1 := ⟨by decide +kernel, by decide +kernel, wc_X6_goes, wi_X6, wm_X6_147⟩
theorem wn_X6_goes : Cond.instanceMethod yX6_goes ∈ lwG := lwG_of (tb4 _ (List.mem_of_getElem? (i := 62) (by decide +kernel))) (by decide +kernel)
theorem ws_X6_goes : Cond.selects RX6 yX6_goes yX6_goes ∈ lwG := lwG_of (tb0 _ (List.mem_of_getElem? (i := 29) (by decide +kernel))) (by decide +kernel)
theorem iv_X6_goes : Cond.instanceMethod yX6_goes ∈ lwG ∧ Cond.selects (fC 6) yX6_goes yX6_goes ∈ lwG ∧ 6 < 7 := ⟨wn_X6_goes, ws_X6_goes, by decide⟩
theorem wfl_X6_150 : Cond.fieldLink RX6 150 RX6 "typed" "I" ∈ lwG := lwG_of (tb3 _ (List.mem_of_getElem? (i := 190) (by decide +kernel))) (by decide +kernel)
theorem fl_X6_150 : FL RX6 150 6 8 := ⟨by decide, by decide, rfl, wfl_X6_150⟩
theorem wfl_X6_153 : Cond.fieldLink RX6 153 RX6 "at" "I" ∈ lwG := lwG_of (tb3 _ (List.mem_of_getElem? (i := 192) (by decide +kernel))) (by decide +kernel)
theorem fl_X6_153 : FL RX6 153 6 10 := ⟨by decide, by decide, rfl, wfl_X6_153⟩
theorem wfl_X6_156 : Cond.fieldLink RX6 156 RX6 "readMany" "I" ∈ lwG := lwG_of (tb3 _ (List.mem_of_getElem? (i := 193) (by decide +kernel))) (by decide +kernel)
theorem fl_X6_156 : FL RX6 156 6 11 := ⟨by decide, by decide, rfl, wfl_X6_156⟩
theorem wc_X6_isSign : Cond.code yX6_isSign cX6_isSign 2 (some .boolean) ∈ lwG := lwG_of (tb4 _ (List.mem_of_getElem? (i := 132) (by decide +kernel))) (by decide +kernel)
theorem wm_X6_159 : Cond.methodLink RX6 159 yX6_isSign ∈ lwG := lwG_of (tb4 _ (List.mem_of_getElem? (i := 129) (by decide +kernel))) (by decide +kernel)
theorem cw_X6_159 : CW RX6 159 yX6_isSign cX6_isSign 2 (some .boolean) 1 := ⟨by decide +kernel, by decide +kernel, wc_X6_isSign, wi_X6, wm_X6_159⟩
theorem wn_X6_isSign : Cond.instanceMethod yX6_isSign ∈ lwG := lwG_of (tb4 _ (List.mem_of_getElem? (i := 131) (by decide +kernel))) (by decide +kernel)
theorem ws_X6_isSign : Cond.selects RX6 yX6_isSign yX6_isSign ∈ lwG := lwG_of (tb0 _ (List.mem_of_getElem? (i := 43) (by decide +kernel))) (by decide +kernel)
theorem iv_X6_isSign : Cond.instanceMethod yX6_isSign ∈ lwG ∧ Cond.selects (fC 6) yX6_isSign yX6_isSign ∈ lwG ∧ 6 < 7 := ⟨wn_X6_isSign, ws_X6_isSign, by decide⟩
theorem wc_X6_number : Cond.code yX6_number cX6_number 5 (some .int) ∈ lwG := lwG_of (tb4 _ (List.mem_of_getElem? (i := 136) (by decide +kernel))) (by decide +kernel)
theorem wm_X6_163 : Cond.methodLink RX6 163 yX6_number ∈ lwG := lwG_of (tb4 _ (List.mem_of_getElem? (i := 133) (by decide +kernel))) (by decide +kernel)
theorem cw_X6_163 : CW RX6 163 yX6_number cX6_number 5 (some .int) 2 := ⟨by decide +kernel, by decide +kernel, wc_X6_number, wi_X6, wm_X6_163⟩
theorem wn_X6_number : Cond.instanceMethod yX6_number ∈ lwG := lwG_of (tb4 _ (List.mem_of_getElem? (i := 135) (by decide +kernel))) (by decide +kernel)
theorem ws_X6_number : Cond.selects RX6 yX6_number yX6_number ∈ lwG := lwG_of (tb0 _ (List.mem_of_getElem? (i := 44) (by decide +kernel))) (by decide +kernel)
theorem iv_X6_number : Cond.instanceMethod yX6_number ∈ lwG ∧ Cond.selects (fC 6) yX6_number yX6_number ∈ lwG ∧ 6 < 7 := ⟨wn_X6_number, ws_X6_number, by decide⟩
theorem wc_X6_readsPart : Cond.code yX6_readsPart cX6_readsPart 2 (some .boolean) ∈ lwG := lwG_of (tb4 _ (List.mem_of_getElem? (i := 128) (by decide +kernel))) (by decide +kernel)
theorem wm_X6_166 : Cond.methodLink RX6 166 yX6_readsPart ∈ lwG := lwG_of (tb4 _ (List.mem_of_getElem? (i := 125) (by decide +kernel))) (by decide +kernel)
theorem cw_X6_166 : CW RX6 166 yX6_readsPart cX6_readsPart 2 (some .boolean) 0 := ⟨by decide +kernel, by decide +kernel, wc_X6_readsPart, wi_X6, wm_X6_166⟩
theorem wn_X6_readsPart : Cond.instanceMethod yX6_readsPart ∈ lwG := lwG_of (tb4 _ (List.mem_of_getElem? (i := 127) (by decide +kernel))) (by decide +kernel)
theorem ws_X6_readsPart : Cond.selects RX6 yX6_readsPart yX6_readsPart ∈ lwG := lwG_of (tb0 _ (List.mem_of_getElem? (i := 42) (by decide +kernel))) (by decide +kernel)
theorem iv_X6_readsPart : Cond.instanceMethod yX6_readsPart ∈ lwG ∧ Cond.selects (fC 6) yX6_readsPart yX6_readsPart ∈ lwG ∧ 6 < 7 := ⟨wn_X6_readsPart, ws_X6_readsPart, by decide⟩
theorem wc_X6_onHeads : Cond.code yX6_onHeads cX6_onHeads 3 (some .int) ∈ lwG := lwG_of (tb4 _ (List.mem_of_getElem? (i := 156) (by decide +kernel))) (by decide +kernel)
theorem wm_X6_170 : Cond.methodLink RX6 170 yX6_onHeads ∈ lwG := lwG_of (tb4 _ (List.mem_of_getElem? (i := 153) (by decide +kernel))) (by decide +kernel)
theorem cw_X6_170 : CW RX6 170 yX6_onHeads cX6_onHeads 3 (some .int) 0 := ⟨by decide +kernel, by decide +kernel, wc_X6_onHeads, wi_X6, wm_X6_170⟩
theorem wn_X6_onHeads : Cond.instanceMethod yX6_onHeads ∈ lwG := lwG_of (tb4 _ (List.mem_of_getElem? (i := 155) (by decide +kernel))) (by decide +kernel)
theorem ws_X6_onHeads : Cond.selects RX6 yX6_onHeads yX6_onHeads ∈ lwG := lwG_of (tb0 _ (List.mem_of_getElem? (i := 48) (by decide +kernel))) (by decide +kernel)
theorem iv_X6_onHeads : Cond.instanceMethod yX6_onHeads ∈ lwG ∧ Cond.selects (fC 6) yX6_onHeads yX6_onHeads ∈ lwG ∧ 6 < 7 := ⟨wn_X6_onHeads, ws_X6_onHeads, by decide⟩
theorem wc_X6_isWord : Cond.code yX6_isWord cX6_isWord 6 (some .boolean) ∈ lwG := lwG_of (tb4 _ (List.mem_of_getElem? (i := 144) (by decide +kernel))) (by decide +kernel)
theorem wm_X6_173 : Cond.methodLink RX6 173 yX6_isWord ∈ lwG := lwG_of (tb4 _ (List.mem_of_getElem? (i := 141) (by decide +kernel))) (by decide +kernel)
theorem cw_X6_173 : CW RX6 173 yX6_isWord cX6_isWord 6 (some .boolean) 5 := ⟨by decide +kernel, by decide +kernel, wc_X6_isWord, wi_X6, wm_X6_173⟩
theorem wn_X6_isWord : Cond.instanceMethod yX6_isWord ∈ lwG := lwG_of (tb4 _ (List.mem_of_getElem? (i := 143) (by decide +kernel))) (by decide +kernel)
theorem ws_X6_isWord : Cond.selects RX6 yX6_isWord yX6_isWord ∈ lwG := lwG_of (tb0 _ (List.mem_of_getElem? (i := 45) (by decide +kernel))) (by decide +kernel)
theorem iv_X6_isWord : Cond.instanceMethod yX6_isWord ∈ lwG ∧ Cond.selects (fC 6) yX6_isWord yX6_isWord ∈ lwG ∧ 6 < 7 := ⟨wn_X6_isWord, ws_X6_isWord, by decide⟩
theorem wc_X6_clears : Cond.code yX6_clears cX6_clears 3 (some .int) ∈ lwG := lwG_of (tb4 _ (List.mem_of_getElem? (i := 152) (by decide +kernel))) (by decide +kernel)
theorem wm_X6_180 : Cond.methodLink RX6 180 yX6_clears ∈ lwG := lwG_of (tb4 _ (List.mem_of_getElem? (i := 149) (by decide +kernel))) (by decide +kernel)
theorem cw_X6_180 : CW RX6 180 yX6_clears cX6_clears 3 (some .int) 0 := ⟨by decide +kernel, by decide +kernel, wc_X6_clears, wi_X6, wm_X6_180⟩
theorem wn_X6_clears : Cond.instanceMethod yX6_clears ∈ lwG := lwG_of (tb4 _ (List.mem_of_getElem? (i := 151) (by decide +kernel))) (by decide +kernel)
theorem ws_X6_clears : Cond.selects RX6 yX6_clears yX6_clears ∈ lwG := lwG_of (tb0 _ (List.mem_of_getElem? (i := 47) (by decide +kernel))) (by decide +kernel)
theorem iv_X6_clears : Cond.instanceMethod yX6_clears ∈ lwG ∧ Cond.selects (fC 6) yX6_clears yX6_clears ∈ lwG ∧ 6 < 7 := ⟨wn_X6_clears, ws_X6_clears, by decide⟩
theorem wc_X6_stops : Cond.code yX6_stops cX6_stops 3 (some .int) ∈ lwG := lwG_of (tb4 _ (List.mem_of_getElem? (i := 148) (by decide +kernel))) (by decide +kernel)
theorem wm_X6_177 : Cond.methodLink RX6 177 yX6_stops ∈ lwG := lwG_of (tb4 _ (List.mem_of_getElem? (i := 145) (by decide +kernel))) (by decide +kernel)
theorem cw_X6_177 : CW RX6 177 yX6_stops cX6_stops 3 (some .int) 0 := ⟨by decide +kernel, by decide +kernel, wc_X6_stops, wi_X6, wm_X6_177⟩
theorem wn_X6_stops : Cond.instanceMethod yX6_stops ∈ lwG := lwG_of (tb4 _ (List.mem_of_getElem? (i := 147) (by decide +kernel))) (by decide +kernel)
theorem ws_X6_stops : Cond.selects RX6 yX6_stops yX6_stops ∈ lwG := lwG_of (tb0 _ (List.mem_of_getElem? (i := 46) (by decide +kernel))) (by decide +kernel)
theorem iv_X6_stops : Cond.instanceMethod yX6_stops ∈ lwG ∧ Cond.selects (fC 6) yX6_stops yX6_stops ∈ lwG ∧ 6 < 7 := ⟨wn_X6_stops, ws_X6_stops, by decide⟩
theorem wfl_X6_183 : Cond.fieldLink RX6 183 RX6 "isFilled" "Z" ∈ lwG := lwG_of (tb3 _ (List.mem_of_getElem? (i := 189) (by decide +kernel))) (by decide +kernel)
theorem fl_X6_183 : FL RX6 183 6 7 := ⟨by decide, by decide, rfl, wfl_X6_183⟩
theorem wk_X6_187 : Cond.constantDouble RX6 187 (9221120237041090560) ∈ lwG := lwG_of (tb4 _ (List.mem_of_getElem? (i := 180) (by decide +kernel))) (by decide +kernel)
theorem wc_X6_nothing : Cond.code yX6_nothing cX6_nothing 0 (some .double) ∈ lwG := lwG_of (tb4 _ (List.mem_of_getElem? (i := 179) (by decide +kernel))) (by decide +kernel)
theorem wm_X6_189 : Cond.methodLink RX6 189 yX6_nothing ∈ lwG := lwG_of (tb4 _ (List.mem_of_getElem? (i := 177) (by decide +kernel))) (by decide +kernel)
theorem cw_X6_189 : CW RX6 189 yX6_nothing cX6_nothing 0 (some .double) 0 := ⟨by decide +kernel, by decide +kernel, wc_X6_nothing, wi_X6, wm_X6_189⟩
theorem wt_X6_nothing : Cond.static yX6_nothing ∈ lwG := lwG_of (tb4 _ (List.mem_of_getElem? (i := 178) (by decide +kernel))) (by decide +kernel)
theorem wc_Jxf58ca_isNaN_12338 : Cond.code yJxf58ca_isNaN_12338 cJxf58ca_isNaN_12338 1 (some .boolean) ∈ lwG := lwG_of (tb4 _ (List.mem_of_getElem? (i := 190) (by decide +kernel))) (by decide +kernel)
theorem wi_Jxf58ca : Cond.initialized RJxf58ca ∈ lwG := lwG_of (tb1 _ (List.mem_of_getElem? (i := 13) (by decide +kernel))) (by decide +kernel)
theorem wm_Jxf58ca_59 : Cond.methodLink RJxf58ca 59 yJxf58ca_isNaN_12338 ∈ lwG := lwG_of (tb4 _ (List.mem_of_getElem? (i := 188) (by decide +kernel))) (by decide +kernel)
theorem cw_Jxf58ca_59 : CW RJxf58ca 59 yJxf58ca_isNaN_12338 cJxf58ca_isNaN_12338 1 (some .boolean) 1 := ⟨by decide +kernel, by decide +kernel, wc_Jxf58ca_isNaN_12338, wi_Jxf58ca, wm_Jxf58ca_59⟩
theorem wt_Jxf58ca_isNaN_12338 : Cond.static yJxf58ca_isNaN_12338 ∈ lwG := lwG_of (tb4 _ (List.mem_of_getElem? (i := 189) (by decide +kernel))) (by decide +kernel)
theorem wk_Jxf58ca_77 : Cond.constant RJxf58ca 77 (2143289344) ∈ lwG := lwG_of (tb4 _ (List.mem_of_getElem? (i := 194) (by decide +kernel))) (by decide +kernel)
theorem wm_Jxf58ca_74 : Cond.methodLink RJxf58ca 74 ⟨"java/lang/Float", "floatToRawIntBits", "(F)I"⟩ ∈ lwG := lwG_of (tb4 _ (List.mem_of_getElem? (i := 191) (by decide +kernel))) (by decide +kernel)
theorem wv_floatToRawIntBits : Cond.native ⟨"java/lang/Float", "floatToRawIntBits", "(F)I"⟩ ∈ lwG := lwG_of (tb4 _ (List.mem_of_getElem? (i := 193) (by decide +kernel))) (by decide +kernel)
theorem wt_floatToRawIntBits : Cond.static ⟨"java/lang/Float", "floatToRawIntBits", "(F)I"⟩ ∈ lwG := lwG_of (tb4 _ (List.mem_of_getElem? (i := 192) (by decide +kernel))) (by decide +kernel)
theorem wiq_Jxf58ca : Cond.initialized "java/lang/Float" ∈ lwG := lwG_of (tb1 _ (List.mem_of_getElem? (i := 13) (by decide +kernel))) (by decide +kernel)
theorem wc_Jxf58ca_floatToIntBits_5c35a : Cond.code yJxf58ca_floatToIntBits_5c35a cJxf58ca_floatToIntBits_5c35a 1 (some .int) ∈ lwG := lwG_of (tb4 _ (List.mem_of_getElem? (i := 187) (by decide +kernel))) (by decide +kernel)
theorem wm_X6_193 : Cond.methodLink RX6 193 yJxf58ca_floatToIntBits_5c35a ∈ lwG := lwG_of (tb4 _ (List.mem_of_getElem? (i := 185) (by decide +kernel))) (by decide +kernel)
theorem cw_X6_193 : CW RX6 193 yJxf58ca_floatToIntBits_5c35a cJxf58ca_floatToIntBits_5c35a 1 (some .int) 1 := ⟨by decide +kernel, by decide +kernel, wc_Jxf58ca_floatToIntBits_5c35a, wi_Jxf58ca, wm_X6_193⟩
theorem wt_Jxf58ca_floatToIntBits_5c35a : Cond.static yJxf58ca_floatToIntBits_5c35a ∈ lwG := lwG_of (tb4 _ (List.mem_of_getElem? (i := 186) (by decide +kernel))) (by decide +kernel)
theorem wc_X6_noPart : Cond.code yX6_noPart cX6_noPart 2 (some .boolean) ∈ lwG := lwG_of (tb4 _ (List.mem_of_getElem? (i := 202) (by decide +kernel))) (by decide +kernel)
theorem wm_X6_199 : Cond.methodLink RX6 199 yX6_noPart ∈ lwG := lwG_of (tb4 _ (List.mem_of_getElem? (i := 199) (by decide +kernel))) (by decide +kernel)
theorem cw_X6_199 : CW RX6 199 yX6_noPart cX6_noPart 2 (some .boolean) 1 := ⟨by decide +kernel, by decide +kernel, wc_X6_noPart, wi_X6, wm_X6_199⟩
theorem wn_X6_noPart : Cond.instanceMethod yX6_noPart ∈ lwG := lwG_of (tb4 _ (List.mem_of_getElem? (i := 201) (by decide +kernel))) (by decide +kernel)
theorem ws_X6_noPart : Cond.selects RX6 yX6_noPart yX6_noPart ∈ lwG := lwG_of (tb0 _ (List.mem_of_getElem? (i := 49) (by decide +kernel))) (by decide +kernel)
theorem iv_X6_noPart : Cond.instanceMethod yX6_noPart ∈ lwG ∧ Cond.selects (fC 6) yX6_noPart yX6_noPart ∈ lwG ∧ 6 < 7 := ⟨wn_X6_noPart, ws_X6_noPart, by decide⟩
theorem wc_X6_placeOf : Cond.code yX6_placeOf cX6_placeOf 3 (some .int) ∈ lwG := lwG_of (tb4 _ (List.mem_of_getElem? (i := 206) (by decide +kernel))) (by decide +kernel)
theorem wm_X6_202 : Cond.methodLink RX6 202 yX6_placeOf ∈ lwG := lwG_of (tb4 _ (List.mem_of_getElem? (i := 203) (by decide +kernel))) (by decide +kernel)
theorem cw_X6_202 : CW RX6 202 yX6_placeOf cX6_placeOf 3 (some .int) 1 := ⟨by decide +kernel, by decide +kernel, wc_X6_placeOf, wi_X6, wm_X6_202⟩
theorem wn_X6_placeOf : Cond.instanceMethod yX6_placeOf ∈ lwG := lwG_of (tb4 _ (List.mem_of_getElem? (i := 205) (by decide +kernel))) (by decide +kernel)
theorem ws_X6_placeOf : Cond.selects RX6 yX6_placeOf yX6_placeOf ∈ lwG := lwG_of (tb0 _ (List.mem_of_getElem? (i := 50) (by decide +kernel))) (by decide +kernel)
theorem iv_X6_placeOf : Cond.instanceMethod yX6_placeOf ∈ lwG ∧ Cond.selects (fC 6) yX6_placeOf yX6_placeOf ∈ lwG ∧ 6 < 7 := ⟨wn_X6_placeOf, ws_X6_placeOf, by decide⟩
theorem wc_Jxe99ae_isNaN_b9ae7 : Cond.code yJxe99ae_isNaN_b9ae7 cJxe99ae_isNaN_b9ae7 2 (some .boolean) ∈ lwG := lwG_of (tb4 _ (List.mem_of_getElem? (i := 228) (by decide +kernel))) (by decide +kernel)
theorem wi_Jxe99ae : Cond.initialized RJxe99ae ∈ lwG := lwG_of (tb1 _ (List.mem_of_getElem? (i := 8) (by decide +kernel))) (by decide +kernel)
theorem wm_Jxe99ae_122 : Cond.methodLink RJxe99ae 122 yJxe99ae_isNaN_b9ae7 ∈ lwG := lwG_of (tb4 _ (List.mem_of_getElem? (i := 226) (by decide +kernel))) (by decide +kernel)
theorem cw_Jxe99ae_122 : CW RJxe99ae 122 yJxe99ae_isNaN_b9ae7 cJxe99ae_isNaN_b9ae7 2 (some .boolean) 1 := ⟨by decide +kernel, by decide +kernel, wc_Jxe99ae_isNaN_b9ae7, wi_Jxe99ae, wm_Jxe99ae_122⟩
theorem wt_Jxe99ae_isNaN_b9ae7 : Cond.static yJxe99ae_isNaN_b9ae7 ∈ lwG := lwG_of (tb4 _ (List.mem_of_getElem? (i := 227) (by decide +kernel))) (by decide +kernel)
theorem wk_Jxe99ae_137 : Cond.constantLong RJxe99ae 137 (9221120237041090560) ∈ lwG := lwG_of (tb4 _ (List.mem_of_getElem? (i := 232) (by decide +kernel))) (by decide +kernel)
theorem wm_Jxe99ae_134 : Cond.methodLink RJxe99ae 134 ⟨"java/lang/Double", "doubleToRawLongBits", "(D)J"⟩ ∈ lwG := lwG_of (tb4 _ (List.mem_of_getElem? (i := 229) (by decide +kernel))) (by decide +kernel)
theorem wv_doubleToRawLongBits : Cond.native ⟨"java/lang/Double", "doubleToRawLongBits", "(D)J"⟩ ∈ lwG := lwG_of (tb4 _ (List.mem_of_getElem? (i := 231) (by decide +kernel))) (by decide +kernel)
theorem wt_doubleToRawLongBits : Cond.static ⟨"java/lang/Double", "doubleToRawLongBits", "(D)J"⟩ ∈ lwG := lwG_of (tb4 _ (List.mem_of_getElem? (i := 230) (by decide +kernel))) (by decide +kernel)
theorem wk_X6_209 : Cond.constantLong RX6 209 (-2) ∈ lwG := lwG_of (tb4 _ (List.mem_of_getElem? (i := 233) (by decide +kernel))) (by decide +kernel)
theorem wc_Jxe99ae_doubleToLongBits_ccdee : Cond.code yJxe99ae_doubleToLongBits_ccdee cJxe99ae_doubleToLongBits_ccdee 2 (some .long) ∈ lwG := lwG_of (tb4 _ (List.mem_of_getElem? (i := 225) (by decide +kernel))) (by decide +kernel)
theorem wm_X6_205 : Cond.methodLink RX6 205 yJxe99ae_doubleToLongBits_ccdee ∈ lwG := lwG_of (tb4 _ (List.mem_of_getElem? (i := 223) (by decide +kernel))) (by decide +kernel)
theorem cw_X6_205 : CW RX6 205 yJxe99ae_doubleToLongBits_ccdee cJxe99ae_doubleToLongBits_ccdee 2 (some .long) 1 := ⟨by decide +kernel, by decide +kernel, wc_Jxe99ae_doubleToLongBits_ccdee, wi_Jxe99ae, wm_X6_205⟩
theorem wt_Jxe99ae_doubleToLongBits_ccdee : Cond.static yJxe99ae_doubleToLongBits_ccdee ∈ lwG := lwG_of (tb4 _ (List.mem_of_getElem? (i := 224) (by decide +kernel))) (by decide +kernel)
theorem wc_X6_inState : Cond.code yX6_inState cX6_inState 4 (some .int) ∈ lwG := lwG_of (tb5 _ (List.mem_of_getElem? (i := 5) (by decide +kernel))) (by decide +kernel)
theorem wm_X6_211 : Cond.methodLink RX6 211 yX6_inState ∈ lwG := lwG_of (tb5 _ (List.mem_of_getElem? (i := 2) (by decide +kernel))) (by decide +kernel)
theorem cw_X6_211 : CW RX6 211 yX6_inState cX6_inState 4 (some .int) 1 := ⟨by decide +kernel, by decide +kernel, wc_X6_inState, wi_X6, wm_X6_211⟩
theorem wn_X6_inState : Cond.instanceMethod yX6_inState ∈ lwG := lwG_of (tb5 _ (List.mem_of_getElem? (i := 4) (by decide +kernel))) (by decide +kernel)
theorem ws_X6_inState : Cond.selects RX6 yX6_inState yX6_inState ∈ lwG := lwG_of (tb0 _ (List.mem_of_getElem? (i := 51) (by decide +kernel))) (by decide +kernel)
theorem iv_X6_inState : Cond.instanceMethod yX6_inState ∈ lwG ∧ Cond.selects (fC 6) yX6_inState yX6_inState ∈ lwG ∧ 6 < 7 := ⟨wn_X6_inState, ws_X6_inState, by decide⟩
theorem dX6_run_0 : decode cX6_run 0 = .ok (.iload_n 1, 1) := by decide +kernel
theorem dX6_run_1 : decode cX6_run 1 = .ok (.iconst 1, 1) := by decide +kernel
theorem dX6_run_2 : decode cX6_run 2 = .ok (.bipush 40, 2) := by decide +kernel
theorem dX6_run_4 : decode cX6_run 4 = .ok (.invokestatic 50, 3) := by decide +kernel
theorem dX6_run_7 : decode cX6_run 7 = .ok (.ifCond .ne 6, 3) := by decide +kernel
theorem dX6_run_10 : decode cX6_run 10 = .ok (.bipush (-2), 2) := by decide +kernel
theorem dX6_run_12 : decode cX6_run 12 = .ok (.ireturn, 1) := by decide +kernel
theorem dX6_run_13 : decode cX6_run 13 = .ok (.aload_n 0, 1) := by decide +kernel
theorem dX6_run_14 : decode cX6_run 14 = .ok (.invokevirtual 62, 3) := by decide +kernel
theorem dX6_run_17 : decode cX6_run 17 = .ok (.aload_n 0, 1) := by decide +kernel
theorem dX6_run_18 : decode cX6_run 18 = .ok (.iload_n 1, 1) := by decide +kernel
theorem dX6_run_19 : decode cX6_run 19 = .ok (.invokevirtual 147, 3) := by decide +kernel
theorem dX6_run_22 : decode cX6_run 22 = .ok (.ireturn, 1) := by decide +kernel
abbrev rmX6_run : Room := { frames := 6, cells := 0, slots := 0, locals := 143 }
def w_X6_run (n : Nat) (M : Mem) (t : Nat) (p1 : Int32) (K : Int32 → Mem → Prop) : Prop := w_X6_in n M p1 (1 : Int32) (40 : Int32) (fun x2 M1 => ((¬ x2 = 0 → ((t ≤ n ∧ kd t = (6, 0)) ∧ w_X6_record n M1 t  (fun M4 => w_X6_goes n M4 t p1 (fun x6 M5 => K x6 M5)))) ∧ (x2 = 0 → K (-2 : Int32) M1)))
set_option maxHeartbeats 4000000 in
set_option maxRecDepth 20000 in
theorem c_X6_run (l : Launch) (E : Gl) (n : Nat) (M : Mem) (t : Nat) (p1 : Int32) (K : Int32 → Mem → Prop) (hw : w_X6_run n M t p1 K) : CT E l yX6_run cX6_run 2 (some .int) rmX6_run n M [rV t, iV p1] (PI E n K) := by
  refine g_met l (by decide) (Nat.le_of_ble_eq_true rfl) ?_
  intro p e s m args below meth c X hr hlk hnm hSz hOld
  change CX E p s m c _ _ RX6 at X
  unfold w_X6_run at hw
  refine g_iload_n X dX6_run_0 1 rfl ?_
  refine g_iconst X (1 : Int32) dX6_run_1 (by decide) ?_
  refine g_bipush X (40 : Int32) dX6_run_2 (by decide) ?_
  refine g_calli (pc' := 7) (rest := []) rfl (fun H locs ls d qR qL => g_runS X cw_X6_50 wt_X6_in ⟨Nat.le_of_ble_eq_true rfl, Nat.le_of_ble_eq_true rfl⟩ dX6_run_4 (c_X6_in l E n M p1 (1 : Int32) (40 : Int32) _ hw) rfl rfl (Nat.le_of_ble_eq_true rfl) ⟨Nat.le_of_ble_eq_true rfl, Nat.le_of_ble_eq_true rfl⟩ qR qL) (fun x2 M1 hw => ?_)
  refine g_if_ne X 13 dX6_run_7 (by decide) hw (fun hw => ?_) (fun hw => ?_)
  · refine g_aload_n X dX6_run_13 0 rfl ?_
    obtain ⟨hk3, hw⟩ := hw
    refine g_callv (pc' := 17) (rest := []) rfl (fun H locs ls d qR qL => g_runV X cw_X6_62 iv_X6_record ⟨Nat.le_of_ble_eq_true rfl, Nat.le_of_ble_eq_true rfl⟩ dX6_run_14 (c_X6_record l E n M1 t  _ hw) hk3 rfl rfl (Nat.le_of_ble_eq_true rfl) ⟨Nat.le_of_ble_eq_true rfl, Nat.le_of_ble_eq_true rfl⟩ qR qL) (fun M4 hw => ?_)
    refine g_aload_n X dX6_run_17 0 rfl ?_
    refine g_iload_n X dX6_run_18 1 rfl ?_
    refine g_calli (pc' := 22) (rest := []) rfl (fun H locs ls d qR qL => g_runV X cw_X6_147 iv_X6_goes ⟨Nat.le_of_ble_eq_true rfl, Nat.le_of_ble_eq_true rfl⟩ dX6_run_19 (c_X6_goes l E n M4 t p1 _ hw) hk3 rfl rfl (Nat.le_of_ble_eq_true rfl) ⟨Nat.le_of_ble_eq_true rfl, Nat.le_of_ble_eq_true rfl⟩ qR qL) (fun x6 M5 hw => ?_)
    exact g_iret X hr hlk hSz hOld (Nat.le_refl _) dX6_run_22 hw
  · refine g_bipush X (-2 : Int32) dX6_run_10 (by decide) ?_
    exact g_iret X hr hlk hSz hOld (Nat.le_refl _) dX6_run_12 hw
theorem dX6_type_0 : decode cX6_type 0 = .ok (.aload_n 0, 1) := by decide +kernel
theorem dX6_type_1 : decode cX6_type 1 = .ok (.getfield 150, 3) := by decide +kernel
theorem dX6_type_4 : decode cX6_type 4 = .ok (.bipush 60, 2) := by decide +kernel
theorem dX6_type_6 : decode cX6_type 6 = .ok (.if_icmp .ne 6, 3) := by decide +kernel
theorem dX6_type_9 : decode cX6_type 9 = .ok (.bipush (-3), 2) := by decide +kernel
theorem dX6_type_11 : decode cX6_type 11 = .ok (.ireturn, 1) := by decide +kernel
theorem dX6_type_12 : decode cX6_type 12 = .ok (.aload_n 0, 1) := by decide +kernel
theorem dX6_type_13 : decode cX6_type 13 = .ok (.getfield 29, 3) := by decide +kernel
theorem dX6_type_16 : decode cX6_type 16 = .ok (.aload_n 0, 1) := by decide +kernel
theorem dX6_type_17 : decode cX6_type 17 = .ok (.getfield 150, 3) := by decide +kernel
theorem dX6_type_20 : decode cX6_type 20 = .ok (.iload_n 1, 1) := by decide +kernel
theorem dX6_type_21 : decode cX6_type 21 = .ok (.castore, 1) := by decide +kernel
theorem dX6_type_22 : decode cX6_type 22 = .ok (.aload_n 0, 1) := by decide +kernel
theorem dX6_type_23 : decode cX6_type 23 = .ok (.dup, 1) := by decide +kernel
theorem dX6_type_24 : decode cX6_type 24 = .ok (.getfield 150, 3) := by decide +kernel
theorem dX6_type_27 : decode cX6_type 27 = .ok (.iconst 1, 1) := by decide +kernel
theorem dX6_type_28 : decode cX6_type 28 = .ok (.iadd, 1) := by decide +kernel
theorem dX6_type_29 : decode cX6_type 29 = .ok (.putfield 150, 3) := by decide +kernel
theorem dX6_type_32 : decode cX6_type 32 = .ok (.aload_n 0, 1) := by decide +kernel
theorem dX6_type_33 : decode cX6_type 33 = .ok (.getfield 150, 3) := by decide +kernel
theorem dX6_type_36 : decode cX6_type 36 = .ok (.ireturn, 1) := by decide +kernel
abbrev rmX6_type : Room := { frames := 0, cells := 0, slots := 0, locals := 0 }
def w_X6_type (n : Nat) (M : Mem) (t : Nat) (p1 : Int32) (K : Int32 → Mem → Prop) : Prop := ((t ≤ n ∧ kd t = (6, 0)) ∧ ((¬ (gI M t 8) = (60 : Int32) → (∀ r2, r2 = gR M t 9 → ((r2 ≤ n ∧ (kd r2).1 = 9 ∧ vp_in (gI M t 8) (kd r2).2) ∧ (∀ M3, M3 = sI M r2 (Int32.toNatClampNeg (gI M t 8)) (vp_nar .char p1) → (∀ M4, M4 = sI M3 t 8 ((gI M3 t 8) + (1 : Int32)) → K (gI M4 t 8) M4))))) ∧ ((gI M t 8) = (60 : Int32) → K (-3 : Int32) M)))
set_option maxHeartbeats 4000000 in
set_option maxRecDepth 20000 in
theorem c_X6_type (l : Launch) (E : Gl) (n : Nat) (M : Mem) (t : Nat) (p1 : Int32) (K : Int32 → Mem → Prop) (hw : w_X6_type n M t p1 K) : CT E l yX6_type cX6_type 2 (some .int) rmX6_type n M [rV t, iV p1] (PI E n K) := by
  refine g_met l (by decide) (Nat.le_of_ble_eq_true rfl) ?_
  intro p e s m args below meth c X hr hlk hnm hSz hOld
  change CX E p s m c _ _ RX6 at X
  unfold w_X6_type at hw
  refine g_aload_n X dX6_type_0 0 rfl ?_
  obtain ⟨hk1, hw⟩ := hw
  refine g_get X (iV (gI M t 8)) dX6_type_1 fl_X6_150 (fun _ => rfl) ⟨hk1, hw⟩ (fun hw => ?_)
  refine g_bipush X (60 : Int32) dX6_type_4 (by decide) ?_
  refine g_icmp_ne X 12 dX6_type_6 (by decide) hw (fun hw => ?_) (fun hw => ?_)
  · refine g_aload_n X dX6_type_12 0 rfl ?_
    refine g_get X (rV (gR M t 9)) dX6_type_13 fl_X6_29 (fun _ => rfl) ⟨hk1, hw⟩ (fun hw => ?_)
    refine g_topR (fun r2 hr2 => ?_)
    have hw := hw r2 hr2
    refine g_aload_n X dX6_type_16 0 rfl ?_
    refine g_get X (iV (gI M t 8)) dX6_type_17 fl_X6_150 (fun _ => rfl) ⟨hk1, hw⟩ (fun hw => ?_)
    refine g_iload_n X dX6_type_20 1 rfl ?_
    refine g_cast X dX6_type_21 hw (fun hw => ?_)
    refine g_topM (fun M3 hM3 => ?_)
    have hw := hw M3 hM3
    refine g_aload_n X dX6_type_22 0 rfl ?_
    refine g_dup X dX6_type_23 rfl ?_
    refine g_get X (iV (gI M3 t 8)) dX6_type_24 fl_X6_150 (fun _ => rfl) ⟨hk1, hw⟩ (fun hw => ?_)
    refine g_iconst X (1 : Int32) dX6_type_27 (by decide) ?_
    refine g_iadd X dX6_type_28 ?_
    refine g_putI X dX6_type_29 fl_X6_150 rfl (Or.inl rfl) ⟨hk1, hw⟩ (fun hw => ?_)
    refine g_topM (fun M4 hM4 => ?_)
    have hw := hw M4 hM4
    refine g_aload_n X dX6_type_32 0 rfl ?_
    refine g_get X (iV (gI M4 t 8)) dX6_type_33 fl_X6_150 (fun _ => rfl) ⟨hk1, hw⟩ (fun hw => ?_)
    exact g_iret X hr hlk hSz hOld (Nat.le_refl _) dX6_type_36 hw
  · refine g_bipush X (-3 : Int32) dX6_type_9 (by decide) ?_
    exact g_iret X hr hlk hSz hOld (Nat.le_refl _) dX6_type_11 hw
theorem dX6_clearText_0 : decode cX6_clearText 0 = .ok (.aload_n 0, 1) := by decide +kernel
theorem dX6_clearText_1 : decode cX6_clearText 1 = .ok (.getfield 150, 3) := by decide +kernel
theorem dX6_clearText_4 : decode cX6_clearText 4 = .ok (.istore_n 1, 1) := by decide +kernel
theorem dX6_clearText_5 : decode cX6_clearText 5 = .ok (.aload_n 0, 1) := by decide +kernel
theorem dX6_clearText_6 : decode cX6_clearText 6 = .ok (.iconst 0, 1) := by decide +kernel
theorem dX6_clearText_7 : decode cX6_clearText 7 = .ok (.putfield 150, 3) := by decide +kernel
theorem dX6_clearText_10 : decode cX6_clearText 10 = .ok (.iload_n 1, 1) := by decide +kernel
theorem dX6_clearText_11 : decode cX6_clearText 11 = .ok (.ireturn, 1) := by decide +kernel
abbrev rmX6_clearText : Room := { frames := 0, cells := 0, slots := 0, locals := 0 }
def w_X6_clearText (n : Nat) (M : Mem) (t : Nat) (K : Int32 → Mem → Prop) : Prop := ((t ≤ n ∧ kd t = (6, 0)) ∧ (∀ x2, x2 = gI M t 8 → (∀ M3, M3 = sI M t 8 (0 : Int32) → K x2 M3)))
set_option maxHeartbeats 4000000 in
set_option maxRecDepth 20000 in
theorem c_X6_clearText (l : Launch) (E : Gl) (n : Nat) (M : Mem) (t : Nat) (K : Int32 → Mem → Prop) (hw : w_X6_clearText n M t K) : CT E l yX6_clearText cX6_clearText 2 (some .int) rmX6_clearText n M [rV t] (PI E n K) := by
  refine g_met l (by decide) (Nat.le_of_ble_eq_true rfl) ?_
  intro p e s m args below meth c X hr hlk hnm hSz hOld
  change CX E p s m c _ _ RX6 at X
  unfold w_X6_clearText at hw
  refine g_aload_n X dX6_clearText_0 0 rfl ?_
  obtain ⟨hk1, hw⟩ := hw
  refine g_get X (iV (gI M t 8)) dX6_clearText_1 fl_X6_150 (fun _ => rfl) ⟨hk1, hw⟩ (fun hw => ?_)
  refine g_topI (fun x2 hx2 => ?_)
  have hw := hw x2 hx2
  refine g_istore_n (lv' := [(1, iV x2), (0, rV t)]) X dX6_clearText_4 (by decide) rfl ?_
  refine g_aload_n X dX6_clearText_5 1 rfl ?_
  refine g_iconst X (0 : Int32) dX6_clearText_6 (by decide) ?_
  refine g_putI X dX6_clearText_7 fl_X6_150 rfl (Or.inl rfl) ⟨hk1, hw⟩ (fun hw => ?_)
  refine g_topM (fun M3 hM3 => ?_)
  have hw := hw M3 hM3
  refine g_iload_n X dX6_clearText_10 0 rfl ?_
  exact g_iret X hr hlk hSz hOld (Nat.le_refl _) dX6_clearText_11 hw
theorem dX6_isSign_0 : decode cX6_isSign 0 = .ok (.aload_n 0, 1) := by decide +kernel
theorem dX6_isSign_1 : decode cX6_isSign 1 = .ok (.getfield 153, 3) := by decide +kernel
theorem dX6_isSign_4 : decode cX6_isSign 4 = .ok (.aload_n 0, 1) := by decide +kernel
theorem dX6_isSign_5 : decode cX6_isSign 5 = .ok (.getfield 150, 3) := by decide +kernel
theorem dX6_isSign_8 : decode cX6_isSign 8 = .ok (.if_icmp .ge 20, 3) := by decide +kernel
theorem dX6_isSign_11 : decode cX6_isSign 11 = .ok (.aload_n 0, 1) := by decide +kernel
theorem dX6_isSign_12 : decode cX6_isSign 12 = .ok (.getfield 29, 3) := by decide +kernel
theorem dX6_isSign_15 : decode cX6_isSign 15 = .ok (.aload_n 0, 1) := by decide +kernel
theorem dX6_isSign_16 : decode cX6_isSign 16 = .ok (.getfield 153, 3) := by decide +kernel
theorem dX6_isSign_19 : decode cX6_isSign 19 = .ok (.caload, 1) := by decide +kernel
theorem dX6_isSign_20 : decode cX6_isSign 20 = .ok (.iload_n 1, 1) := by decide +kernel
theorem dX6_isSign_21 : decode cX6_isSign 21 = .ok (.if_icmp .ne 7, 3) := by decide +kernel
theorem dX6_isSign_24 : decode cX6_isSign 24 = .ok (.iconst 1, 1) := by decide +kernel
theorem dX6_isSign_25 : decode cX6_isSign 25 = .ok (.goto 4, 3) := by decide +kernel
theorem dX6_isSign_28 : decode cX6_isSign 28 = .ok (.iconst 0, 1) := by decide +kernel
theorem dX6_isSign_29 : decode cX6_isSign 29 = .ok (.ireturn, 1) := by decide +kernel
abbrev rmX6_isSign : Room := { frames := 0, cells := 0, slots := 0, locals := 0 }
def w_X6_isSign (n : Nat) (M : Mem) (t : Nat) (p1 : Int32) (K : Int32 → Mem → Prop) : Prop := ((t ≤ n ∧ kd t = (6, 0)) ∧ (((gI M t 8) ≤ (gI M t 10) → K (0 : Int32) M) ∧ (¬ (gI M t 8) ≤ (gI M t 10) → (∀ r2, r2 = gR M t 9 → ((r2 ≤ n ∧ (kd r2).1 = 9 ∧ vp_in (gI M t 10) (kd r2).2) ∧ (∀ x3, x3 = gI M r2 (Int32.toNatClampNeg (gI M t 10)) → ((¬ x3 = p1 → K (0 : Int32) M) ∧ (x3 = p1 → K (1 : Int32) M))))))))
set_option maxHeartbeats 4000000 in
set_option maxRecDepth 20000 in
theorem c_X6_isSign (l : Launch) (E : Gl) (n : Nat) (M : Mem) (t : Nat) (p1 : Int32) (K : Int32 → Mem → Prop) (hw : w_X6_isSign n M t p1 K) : CT E l yX6_isSign cX6_isSign 2 (some .boolean) rmX6_isSign n M [rV t, iV p1] (PI E n K) := by
  refine g_met l (by decide) (Nat.le_of_ble_eq_true rfl) ?_
  intro p e s m args below meth c X hr hlk hnm hSz hOld
  change CX E p s m c _ _ RX6 at X
  unfold w_X6_isSign at hw
  refine g_aload_n X dX6_isSign_0 0 rfl ?_
  obtain ⟨hk1, hw⟩ := hw
  refine g_get X (iV (gI M t 10)) dX6_isSign_1 fl_X6_153 (fun _ => rfl) ⟨hk1, hw⟩ (fun hw => ?_)
  refine g_aload_n X dX6_isSign_4 0 rfl ?_
  refine g_get X (iV (gI M t 8)) dX6_isSign_5 fl_X6_150 (fun _ => rfl) ⟨hk1, hw⟩ (fun hw => ?_)
  refine g_icmp_ge X 28 dX6_isSign_8 (by decide) hw (fun hw => ?_) (fun hw => ?_)
  · refine g_iconst X (0 : Int32) dX6_isSign_28 (by decide) ?_
    exact g_zret X hr hlk hSz hOld (Nat.le_refl _) dX6_isSign_29 ⟨rfl, hw⟩
  · refine g_aload_n X dX6_isSign_11 0 rfl ?_
    refine g_get X (rV (gR M t 9)) dX6_isSign_12 fl_X6_29 (fun _ => rfl) ⟨hk1, hw⟩ (fun hw => ?_)
    refine g_topR (fun r2 hr2 => ?_)
    have hw := hw r2 hr2
    refine g_aload_n X dX6_isSign_15 0 rfl ?_
    refine g_get X (iV (gI M t 10)) dX6_isSign_16 fl_X6_153 (fun _ => rfl) ⟨hk1, hw⟩ (fun hw => ?_)
    refine g_cald X dX6_isSign_19 hw (fun hw => ?_)
    refine g_topI (fun x3 hx3 => ?_)
    have hw := hw x3 hx3
    refine g_iload_n X dX6_isSign_20 1 rfl ?_
    refine g_icmp_ne X 28 dX6_isSign_21 (by decide) hw (fun hw => ?_) (fun hw => ?_)
    · refine g_iconst X (0 : Int32) dX6_isSign_28 (by decide) ?_
      exact g_zret X hr hlk hSz hOld (Nat.le_refl _) dX6_isSign_29 ⟨rfl, hw⟩
    · refine g_iconst X (1 : Int32) dX6_isSign_24 (by decide) ?_
      refine g_goto X 29 dX6_isSign_25 (by decide) ?_
      exact g_zret X hr hlk hSz hOld (Nat.le_refl _) dX6_isSign_29 ⟨rfl, hw⟩
theorem dX6_number_0 : decode cX6_number 0 = .ok (.aload_n 0, 1) := by decide +kernel
theorem dX6_number_1 : decode cX6_number 1 = .ok (.getfield 153, 3) := by decide +kernel
theorem dX6_number_4 : decode cX6_number 4 = .ok (.aload_n 0, 1) := by decide +kernel
theorem dX6_number_5 : decode cX6_number 5 = .ok (.getfield 150, 3) := by decide +kernel
theorem dX6_number_8 : decode cX6_number 8 = .ok (.if_icmp .ge 24, 3) := by decide +kernel
theorem dX6_number_11 : decode cX6_number 11 = .ok (.aload_n 0, 1) := by decide +kernel
theorem dX6_number_12 : decode cX6_number 12 = .ok (.getfield 29, 3) := by decide +kernel
theorem dX6_number_15 : decode cX6_number 15 = .ok (.aload_n 0, 1) := by decide +kernel
theorem dX6_number_16 : decode cX6_number 16 = .ok (.getfield 153, 3) := by decide +kernel
theorem dX6_number_19 : decode cX6_number 19 = .ok (.caload, 1) := by decide +kernel
theorem dX6_number_20 : decode cX6_number 20 = .ok (.bipush 48, 2) := by decide +kernel
theorem dX6_number_22 : decode cX6_number 22 = .ok (.iload_n 2, 1) := by decide +kernel
theorem dX6_number_23 : decode cX6_number 23 = .ok (.iadd, 1) := by decide +kernel
theorem dX6_number_24 : decode cX6_number 24 = .ok (.bipush 57, 2) := by decide +kernel
theorem dX6_number_26 : decode cX6_number 26 = .ok (.invokestatic 50, 3) := by decide +kernel
theorem dX6_number_29 : decode cX6_number 29 = .ok (.ifCond .ne 6, 3) := by decide +kernel
theorem dX6_number_32 : decode cX6_number 32 = .ok (.bipush (-5), 2) := by decide +kernel
theorem dX6_number_34 : decode cX6_number 34 = .ok (.ireturn, 1) := by decide +kernel
theorem dX6_number_35 : decode cX6_number 35 = .ok (.aload_n 0, 1) := by decide +kernel
theorem dX6_number_36 : decode cX6_number 36 = .ok (.getfield 29, 3) := by decide +kernel
theorem dX6_number_39 : decode cX6_number 39 = .ok (.aload_n 0, 1) := by decide +kernel
theorem dX6_number_40 : decode cX6_number 40 = .ok (.getfield 153, 3) := by decide +kernel
theorem dX6_number_43 : decode cX6_number 43 = .ok (.caload, 1) := by decide +kernel
theorem dX6_number_44 : decode cX6_number 44 = .ok (.bipush 48, 2) := by decide +kernel
theorem dX6_number_46 : decode cX6_number 46 = .ok (.isub, 1) := by decide +kernel
theorem dX6_number_47 : decode cX6_number 47 = .ok (.istore_n 3, 1) := by decide +kernel
theorem dX6_number_48 : decode cX6_number 48 = .ok (.aload_n 0, 1) := by decide +kernel
theorem dX6_number_49 : decode cX6_number 49 = .ok (.dup, 1) := by decide +kernel
theorem dX6_number_50 : decode cX6_number 50 = .ok (.getfield 153, 3) := by decide +kernel
theorem dX6_number_53 : decode cX6_number 53 = .ok (.iconst 1, 1) := by decide +kernel
theorem dX6_number_54 : decode cX6_number 54 = .ok (.iadd, 1) := by decide +kernel
theorem dX6_number_55 : decode cX6_number 55 = .ok (.putfield 153, 3) := by decide +kernel
theorem dX6_number_58 : decode cX6_number 58 = .ok (.iconst 1, 1) := by decide +kernel
theorem dX6_number_59 : decode cX6_number 59 = .ok (.istore 4, 2) := by decide +kernel
theorem dX6_number_61 : decode cX6_number 61 = .ok (.iload 4, 2) := by decide +kernel
theorem dX6_number_63 : decode cX6_number 63 = .ok (.iload_n 1, 1) := by decide +kernel
theorem dX6_number_64 : decode cX6_number 64 = .ok (.if_icmp .ge 71, 3) := by decide +kernel
theorem dX6_number_67 : decode cX6_number 67 = .ok (.iload_n 3, 1) := by decide +kernel
theorem dX6_number_68 : decode cX6_number 68 = .ok (.ifCond .le 67, 3) := by decide +kernel
theorem dX6_number_71 : decode cX6_number 71 = .ok (.aload_n 0, 1) := by decide +kernel
theorem dX6_number_72 : decode cX6_number 72 = .ok (.getfield 153, 3) := by decide +kernel
theorem dX6_number_75 : decode cX6_number 75 = .ok (.aload_n 0, 1) := by decide +kernel
theorem dX6_number_76 : decode cX6_number 76 = .ok (.getfield 150, 3) := by decide +kernel
theorem dX6_number_79 : decode cX6_number 79 = .ok (.if_icmp .ge 56, 3) := by decide +kernel
theorem dX6_number_82 : decode cX6_number 82 = .ok (.aload_n 0, 1) := by decide +kernel
theorem dX6_number_83 : decode cX6_number 83 = .ok (.getfield 29, 3) := by decide +kernel
theorem dX6_number_86 : decode cX6_number 86 = .ok (.aload_n 0, 1) := by decide +kernel
theorem dX6_number_87 : decode cX6_number 87 = .ok (.getfield 153, 3) := by decide +kernel
theorem dX6_number_90 : decode cX6_number 90 = .ok (.caload, 1) := by decide +kernel
theorem dX6_number_91 : decode cX6_number 91 = .ok (.bipush 48, 2) := by decide +kernel
theorem dX6_number_93 : decode cX6_number 93 = .ok (.bipush 57, 2) := by decide +kernel
theorem dX6_number_95 : decode cX6_number 95 = .ok (.invokestatic 50, 3) := by decide +kernel
theorem dX6_number_98 : decode cX6_number 98 = .ok (.ifCond .eq 37, 3) := by decide +kernel
theorem dX6_number_101 : decode cX6_number 101 = .ok (.bipush 10, 2) := by decide +kernel
theorem dX6_number_103 : decode cX6_number 103 = .ok (.iload_n 3, 1) := by decide +kernel
theorem dX6_number_104 : decode cX6_number 104 = .ok (.imul, 1) := by decide +kernel
theorem dX6_number_105 : decode cX6_number 105 = .ok (.aload_n 0, 1) := by decide +kernel
theorem dX6_number_106 : decode cX6_number 106 = .ok (.getfield 29, 3) := by decide +kernel
theorem dX6_number_109 : decode cX6_number 109 = .ok (.aload_n 0, 1) := by decide +kernel
theorem dX6_number_110 : decode cX6_number 110 = .ok (.getfield 153, 3) := by decide +kernel
theorem dX6_number_113 : decode cX6_number 113 = .ok (.caload, 1) := by decide +kernel
theorem dX6_number_114 : decode cX6_number 114 = .ok (.iadd, 1) := by decide +kernel
theorem dX6_number_115 : decode cX6_number 115 = .ok (.bipush 48, 2) := by decide +kernel
theorem dX6_number_117 : decode cX6_number 117 = .ok (.isub, 1) := by decide +kernel
theorem dX6_number_118 : decode cX6_number 118 = .ok (.istore_n 3, 1) := by decide +kernel
theorem dX6_number_119 : decode cX6_number 119 = .ok (.aload_n 0, 1) := by decide +kernel
theorem dX6_number_120 : decode cX6_number 120 = .ok (.dup, 1) := by decide +kernel
theorem dX6_number_121 : decode cX6_number 121 = .ok (.getfield 153, 3) := by decide +kernel
theorem dX6_number_124 : decode cX6_number 124 = .ok (.iconst 1, 1) := by decide +kernel
theorem dX6_number_125 : decode cX6_number 125 = .ok (.iadd, 1) := by decide +kernel
theorem dX6_number_126 : decode cX6_number 126 = .ok (.putfield 153, 3) := by decide +kernel
theorem dX6_number_129 : decode cX6_number 129 = .ok (.iinc 4 1, 3) := by decide +kernel
theorem dX6_number_132 : decode cX6_number 132 = .ok (.goto (-71), 3) := by decide +kernel
theorem dX6_number_135 : decode cX6_number 135 = .ok (.iload_n 3, 1) := by decide +kernel
theorem dX6_number_136 : decode cX6_number 136 = .ok (.ireturn, 1) := by decide +kernel
abbrev rmX6_number : Room := { frames := 1, cells := 0, slots := 0, locals := 22 }
def w_X6_number_L61 (n : Nat) (K : Int32 → Mem → Prop) : Nat → Mem → Nat → Int32 → Int32 → Int32 → Prop
  | 0, _, _, _, _, _ => False
  | fuel + 1, M, o0, a1, a3, a4 => ((a1 ≤ a4 → K a3 M) ∧ (¬ a1 ≤ a4 → ((a3 ≤ 0 → K a3 M) ∧ (¬ a3 ≤ 0 → ((o0 ≤ n ∧ kd o0 = (6, 0)) ∧ (((gI M o0 8) ≤ (gI M o0 10) → K a3 M) ∧ (¬ (gI M o0 8) ≤ (gI M o0 10) → (∀ r11, r11 = gR M o0 9 → ((r11 ≤ n ∧ (kd r11).1 = 9 ∧ vp_in (gI M o0 10) (kd r11).2) ∧ (∀ x12, x12 = gI M r11 (Int32.toNatClampNeg (gI M o0 10)) → w_X6_in n M x12 (48 : Int32) (57 : Int32) (fun x14 M13 => ((x14 = 0 → K a3 M13) ∧ (¬ x14 = 0 → (∀ r15, r15 = gR M13 o0 9 → ((r15 ≤ n ∧ (kd r15).1 = 9 ∧ vp_in (gI M13 o0 10) (kd r15).2) ∧ (∀ x16, x16 = gI M13 r15 (Int32.toNatClampNeg (gI M13 o0 10)) → (∀ x17, x17 = (((10 : Int32) * a3) + x16) - (48 : Int32) → (∀ M18, M18 = sI M13 o0 10 ((gI M13 o0 10) + (1 : Int32)) → (∀ x19, x19 = a4 + (1 : Int32) → w_X6_number_L61 n K fuel M18 o0 a1 x17 x19)))))))))))))))))))
def w_X6_number (n : Nat) (M : Mem) (t : Nat) (p1 : Int32) (p2 : Int32) (K : Int32 → Mem → Prop) : Prop := ((t ≤ n ∧ kd t = (6, 0)) ∧ (((gI M t 8) ≤ (gI M t 10) → K (-5 : Int32) M) ∧ (¬ (gI M t 8) ≤ (gI M t 10) → (∀ r2, r2 = gR M t 9 → ((r2 ≤ n ∧ (kd r2).1 = 9 ∧ vp_in (gI M t 10) (kd r2).2) ∧ (∀ x3, x3 = gI M r2 (Int32.toNatClampNeg (gI M t 10)) → w_X6_in n M x3 ((48 : Int32) + p2) (57 : Int32) (fun x5 M4 => ((¬ x5 = 0 → (∀ r6, r6 = gR M4 t 9 → ((r6 ≤ n ∧ (kd r6).1 = 9 ∧ vp_in (gI M4 t 10) (kd r6).2) ∧ (∀ x7, x7 = gI M4 r6 (Int32.toNatClampNeg (gI M4 t 10)) → (∀ x8, x8 = x7 - (48 : Int32) → (∀ M9, M9 = sI M4 t 10 ((gI M4 t 10) + (1 : Int32)) → w_X6_number_L61 n K 4000 M9 t p1 x8 (1 : Int32))))))) ∧ (x5 = 0 → K (-5 : Int32) M4)))))))))
set_option maxHeartbeats 4000000 in
set_option maxRecDepth 20000 in
theorem c_X6_number (l : Launch) (E : Gl) (n : Nat) (M : Mem) (t : Nat) (p1 : Int32) (p2 : Int32) (K : Int32 → Mem → Prop) (hw : w_X6_number n M t p1 p2 K) : CT E l yX6_number cX6_number 5 (some .int) rmX6_number n M [rV t, iV p1, iV p2] (PI E n K) := by
  refine g_met l (by decide) (Nat.le_of_ble_eq_true rfl) ?_
  intro p e s m args below meth c X hr hlk hnm hSz hOld
  change CX E p s m c _ _ RX6 at X
  have L61 : ∀ (fuel : Nat) (M : Mem) (o0 : Nat) (a1 : Int32) (a3 : Int32) (a4 : Int32), w_X6_number_L61 n K fuel M o0 a1 a3 a4 → G E p l e rmX6_number s m args below meth c 5 n M 0 0 (MQD lw_cs below (PI E n K) args s rmX6_number.cells rmX6_number.slots (Ab E)) 61 [(0, rV o0), (1, iV a1), (3, iV a3), (4, iV a4)] [] := by
    intro fuel
    induction fuel with
    | zero => intro M o0 a1 a3 a4 hw; exact False.elim hw
    | succ fuel ih =>
      intro M o0 a1 a3 a4 hw
      unfold w_X6_number_L61 at hw
      refine g_iload X dX6_number_61 3 rfl ?_
      refine g_iload_n X dX6_number_63 1 rfl ?_
      refine g_icmp_ge X 135 dX6_number_64 (by decide) hw (fun hw => ?_) (fun hw => ?_)
      · refine g_iload_n X dX6_number_135 2 rfl ?_
        exact g_iret X hr hlk hSz hOld (Nat.le_refl _) dX6_number_136 hw
      · refine g_iload_n X dX6_number_67 2 rfl ?_
        refine g_if_le X 135 dX6_number_68 (by decide) hw (fun hw => ?_) (fun hw => ?_)
        · refine g_iload_n X dX6_number_135 2 rfl ?_
          exact g_iret X hr hlk hSz hOld (Nat.le_refl _) dX6_number_136 hw
        · refine g_aload_n X dX6_number_71 0 rfl ?_
          obtain ⟨hk10, hw⟩ := hw
          refine g_get X (iV (gI M o0 10)) dX6_number_72 fl_X6_153 (fun _ => rfl) ⟨hk10, hw⟩ (fun hw => ?_)
          refine g_aload_n X dX6_number_75 0 rfl ?_
          refine g_get X (iV (gI M o0 8)) dX6_number_76 fl_X6_150 (fun _ => rfl) ⟨hk10, hw⟩ (fun hw => ?_)
          refine g_icmp_ge X 135 dX6_number_79 (by decide) hw (fun hw => ?_) (fun hw => ?_)
          · refine g_iload_n X dX6_number_135 2 rfl ?_
            exact g_iret X hr hlk hSz hOld (Nat.le_refl _) dX6_number_136 hw
          · refine g_aload_n X dX6_number_82 0 rfl ?_
            refine g_get X (rV (gR M o0 9)) dX6_number_83 fl_X6_29 (fun _ => rfl) ⟨hk10, hw⟩ (fun hw => ?_)
            refine g_topR (fun r11 hr11 => ?_)
            have hw := hw r11 hr11
            refine g_aload_n X dX6_number_86 0 rfl ?_
            refine g_get X (iV (gI M o0 10)) dX6_number_87 fl_X6_153 (fun _ => rfl) ⟨hk10, hw⟩ (fun hw => ?_)
            refine g_cald X dX6_number_90 hw (fun hw => ?_)
            refine g_topI (fun x12 hx12 => ?_)
            have hw := hw x12 hx12
            refine g_bipush X (48 : Int32) dX6_number_91 (by decide) ?_
            refine g_bipush X (57 : Int32) dX6_number_93 (by decide) ?_
            refine g_calli (pc' := 98) (rest := []) rfl (fun H locs ls d qR qL => g_runS X cw_X6_50 wt_X6_in ⟨Nat.le_of_ble_eq_true rfl, Nat.le_of_ble_eq_true rfl⟩ dX6_number_95 (c_X6_in l E n M x12 (48 : Int32) (57 : Int32) _ hw) rfl rfl (Nat.le_of_ble_eq_true rfl) ⟨Nat.le_of_ble_eq_true rfl, Nat.le_of_ble_eq_true rfl⟩ qR qL) (fun x14 M13 hw => ?_)
            refine g_if_eq X 135 dX6_number_98 (by decide) hw (fun hw => ?_) (fun hw => ?_)
            · refine g_iload_n X dX6_number_135 2 rfl ?_
              exact g_iret X hr hlk hSz hOld (Nat.le_refl _) dX6_number_136 hw
            · refine g_bipush X (10 : Int32) dX6_number_101 (by decide) ?_
              refine g_iload_n X dX6_number_103 2 rfl ?_
              refine g_imul X dX6_number_104 ?_
              refine g_aload_n X dX6_number_105 0 rfl ?_
              refine g_get X (rV (gR M13 o0 9)) dX6_number_106 fl_X6_29 (fun _ => rfl) ⟨hk10, hw⟩ (fun hw => ?_)
              refine g_topR (fun r15 hr15 => ?_)
              have hw := hw r15 hr15
              refine g_aload_n X dX6_number_109 0 rfl ?_
              refine g_get X (iV (gI M13 o0 10)) dX6_number_110 fl_X6_153 (fun _ => rfl) ⟨hk10, hw⟩ (fun hw => ?_)
              refine g_cald X dX6_number_113 hw (fun hw => ?_)
              refine g_topI (fun x16 hx16 => ?_)
              have hw := hw x16 hx16
              refine g_iadd X dX6_number_114 ?_
              refine g_bipush X (48 : Int32) dX6_number_115 (by decide) ?_
              refine g_isub X dX6_number_117 ?_
              refine g_topI (fun x17 hx17 => ?_)
              have hw := hw x17 hx17
              refine g_istore_n (lv' := [(3, iV x17), (0, rV o0), (1, iV a1), (4, iV a4)]) X dX6_number_118 (by decide) rfl ?_
              refine g_aload_n X dX6_number_119 1 rfl ?_
              refine g_dup X dX6_number_120 rfl ?_
              refine g_get X (iV (gI M13 o0 10)) dX6_number_121 fl_X6_153 (fun _ => rfl) ⟨hk10, hw⟩ (fun hw => ?_)
              refine g_iconst X (1 : Int32) dX6_number_124 (by decide) ?_
              refine g_iadd X dX6_number_125 ?_
              refine g_putI X dX6_number_126 fl_X6_153 rfl (Or.inl rfl) ⟨hk10, hw⟩ (fun hw => ?_)
              refine g_topM (fun M18 hM18 => ?_)
              have hw := hw M18 hM18
              obtain ⟨x19, hx19⟩ : ∃ y : Int32, y = a4 + (1 : Int32) := ⟨_, rfl⟩
              have hw := hw x19 hx19
              refine g_iinc (lv' := [(4, iV x19), (3, iV x17), (0, rV o0), (1, iV a1)]) X x19 dX6_number_129 3 rfl (by rw [hx19]; rfl) (by decide) rfl ?_
              refine g_goto X 61 dX6_number_132 (by decide) ?_
              refine g_lvsub (lv' := [(0, rV o0), (1, iV a1), (3, iV x17), (4, iV x19)]) [2, 3, 1, 0] rfl ?_
              exact ih _ _ _ _ _ hw
  unfold w_X6_number at hw
  refine g_aload_n X dX6_number_0 0 rfl ?_
  obtain ⟨hk1, hw⟩ := hw
  refine g_get X (iV (gI M t 10)) dX6_number_1 fl_X6_153 (fun _ => rfl) ⟨hk1, hw⟩ (fun hw => ?_)
  refine g_aload_n X dX6_number_4 0 rfl ?_
  refine g_get X (iV (gI M t 8)) dX6_number_5 fl_X6_150 (fun _ => rfl) ⟨hk1, hw⟩ (fun hw => ?_)
  refine g_icmp_ge X 32 dX6_number_8 (by decide) hw (fun hw => ?_) (fun hw => ?_)
  · refine g_bipush X (-5 : Int32) dX6_number_32 (by decide) ?_
    exact g_iret X hr hlk hSz hOld (Nat.le_refl _) dX6_number_34 hw
  · refine g_aload_n X dX6_number_11 0 rfl ?_
    refine g_get X (rV (gR M t 9)) dX6_number_12 fl_X6_29 (fun _ => rfl) ⟨hk1, hw⟩ (fun hw => ?_)
    refine g_topR (fun r2 hr2 => ?_)
    have hw := hw r2 hr2
    refine g_aload_n X dX6_number_15 0 rfl ?_
    refine g_get X (iV (gI M t 10)) dX6_number_16 fl_X6_153 (fun _ => rfl) ⟨hk1, hw⟩ (fun hw => ?_)
    refine g_cald X dX6_number_19 hw (fun hw => ?_)
    refine g_topI (fun x3 hx3 => ?_)
    have hw := hw x3 hx3
    refine g_bipush X (48 : Int32) dX6_number_20 (by decide) ?_
    refine g_iload_n X dX6_number_22 2 rfl ?_
    refine g_iadd X dX6_number_23 ?_
    refine g_bipush X (57 : Int32) dX6_number_24 (by decide) ?_
    refine g_calli (pc' := 29) (rest := []) rfl (fun H locs ls d qR qL => g_runS X cw_X6_50 wt_X6_in ⟨Nat.le_of_ble_eq_true rfl, Nat.le_of_ble_eq_true rfl⟩ dX6_number_26 (c_X6_in l E n M x3 ((48 : Int32) + p2) (57 : Int32) _ hw) rfl rfl (Nat.le_of_ble_eq_true rfl) ⟨Nat.le_of_ble_eq_true rfl, Nat.le_of_ble_eq_true rfl⟩ qR qL) (fun x5 M4 hw => ?_)
    refine g_if_ne X 35 dX6_number_29 (by decide) hw (fun hw => ?_) (fun hw => ?_)
    · refine g_aload_n X dX6_number_35 0 rfl ?_
      refine g_get X (rV (gR M4 t 9)) dX6_number_36 fl_X6_29 (fun _ => rfl) ⟨hk1, hw⟩ (fun hw => ?_)
      refine g_topR (fun r6 hr6 => ?_)
      have hw := hw r6 hr6
      refine g_aload_n X dX6_number_39 0 rfl ?_
      refine g_get X (iV (gI M4 t 10)) dX6_number_40 fl_X6_153 (fun _ => rfl) ⟨hk1, hw⟩ (fun hw => ?_)
      refine g_cald X dX6_number_43 hw (fun hw => ?_)
      refine g_topI (fun x7 hx7 => ?_)
      have hw := hw x7 hx7
      refine g_bipush X (48 : Int32) dX6_number_44 (by decide) ?_
      refine g_isub X dX6_number_46 ?_
      refine g_topI (fun x8 hx8 => ?_)
      have hw := hw x8 hx8
      refine g_istore_n (lv' := [(3, iV x8), (0, rV t), (1, iV p1), (2, iV p2)]) X dX6_number_47 (by decide) rfl ?_
      refine g_aload_n X dX6_number_48 1 rfl ?_
      refine g_dup X dX6_number_49 rfl ?_
      refine g_get X (iV (gI M4 t 10)) dX6_number_50 fl_X6_153 (fun _ => rfl) ⟨hk1, hw⟩ (fun hw => ?_)
      refine g_iconst X (1 : Int32) dX6_number_53 (by decide) ?_
      refine g_iadd X dX6_number_54 ?_
      refine g_putI X dX6_number_55 fl_X6_153 rfl (Or.inl rfl) ⟨hk1, hw⟩ (fun hw => ?_)
      refine g_topM (fun M9 hM9 => ?_)
      have hw := hw M9 hM9
      refine g_iconst X (1 : Int32) dX6_number_58 (by decide) ?_
      refine g_istore (lv' := [(4, iV (1 : Int32)), (3, iV x8), (0, rV t), (1, iV p1), (2, iV p2)]) X dX6_number_59 (by decide) rfl ?_
      refine g_lvsub (lv' := [(0, rV t), (1, iV p1), (3, iV x8), (4, iV (1 : Int32))]) [2, 3, 1, 0] rfl ?_
      exact L61 _ _ _ _ _ _ hw
    · refine g_bipush X (-5 : Int32) dX6_number_32 (by decide) ?_
      exact g_iret X hr hlk hSz hOld (Nat.le_refl _) dX6_number_34 hw
theorem dX6_readsPart_0 : decode cX6_readsPart 0 = .ok (.iconst 3, 1) := by decide +kernel
theorem dX6_readsPart_1 : decode cX6_readsPart 1 = .ok (.aload_n 0, 1) := by decide +kernel
theorem dX6_readsPart_2 : decode cX6_readsPart 2 = .ok (.getfield 156, 3) := by decide +kernel
theorem dX6_readsPart_5 : decode cX6_readsPart 5 = .ok (.imul, 1) := by decide +kernel
theorem dX6_readsPart_6 : decode cX6_readsPart 6 = .ok (.istore_n 1, 1) := by decide +kernel
theorem dX6_readsPart_7 : decode cX6_readsPart 7 = .ok (.aload_n 0, 1) := by decide +kernel
theorem dX6_readsPart_8 : decode cX6_readsPart 8 = .ok (.getfield 33, 3) := by decide +kernel
theorem dX6_readsPart_11 : decode cX6_readsPart 11 = .ok (.iload_n 1, 1) := by decide +kernel
theorem dX6_readsPart_12 : decode cX6_readsPart 12 = .ok (.aload_n 0, 1) := by decide +kernel
theorem dX6_readsPart_13 : decode cX6_readsPart 13 = .ok (.bipush 118, 2) := by decide +kernel
theorem dX6_readsPart_15 : decode cX6_readsPart 15 = .ok (.invokevirtual 159, 3) := by decide +kernel
theorem dX6_readsPart_18 : decode cX6_readsPart 18 = .ok (.ifCond .eq 7, 3) := by decide +kernel
theorem dX6_readsPart_21 : decode cX6_readsPart 21 = .ok (.iconst 0, 1) := by decide +kernel
theorem dX6_readsPart_22 : decode cX6_readsPart 22 = .ok (.goto 18, 3) := by decide +kernel
theorem dX6_readsPart_25 : decode cX6_readsPart 25 = .ok (.aload_n 0, 1) := by decide +kernel
theorem dX6_readsPart_26 : decode cX6_readsPart 26 = .ok (.bipush 112, 2) := by decide +kernel
theorem dX6_readsPart_28 : decode cX6_readsPart 28 = .ok (.invokevirtual 159, 3) := by decide +kernel
theorem dX6_readsPart_31 : decode cX6_readsPart 31 = .ok (.ifCond .eq 7, 3) := by decide +kernel
theorem dX6_readsPart_34 : decode cX6_readsPart 34 = .ok (.iconst 1, 1) := by decide +kernel
theorem dX6_readsPart_35 : decode cX6_readsPart 35 = .ok (.goto 5, 3) := by decide +kernel
theorem dX6_readsPart_38 : decode cX6_readsPart 38 = .ok (.bipush (-5), 2) := by decide +kernel
theorem dX6_readsPart_40 : decode cX6_readsPart 40 = .ok (.iastore, 1) := by decide +kernel
theorem dX6_readsPart_41 : decode cX6_readsPart 41 = .ok (.aload_n 0, 1) := by decide +kernel
theorem dX6_readsPart_42 : decode cX6_readsPart 42 = .ok (.getfield 33, 3) := by decide +kernel
theorem dX6_readsPart_45 : decode cX6_readsPart 45 = .ok (.iload_n 1, 1) := by decide +kernel
theorem dX6_readsPart_46 : decode cX6_readsPart 46 = .ok (.iaload, 1) := by decide +kernel
theorem dX6_readsPart_47 : decode cX6_readsPart 47 = .ok (.bipush (-5), 2) := by decide +kernel
theorem dX6_readsPart_49 : decode cX6_readsPart 49 = .ok (.if_icmp .ne 5, 3) := by decide +kernel
theorem dX6_readsPart_52 : decode cX6_readsPart 52 = .ok (.iconst 0, 1) := by decide +kernel
theorem dX6_readsPart_53 : decode cX6_readsPart 53 = .ok (.ireturn, 1) := by decide +kernel
theorem dX6_readsPart_54 : decode cX6_readsPart 54 = .ok (.aload_n 0, 1) := by decide +kernel
theorem dX6_readsPart_55 : decode cX6_readsPart 55 = .ok (.dup, 1) := by decide +kernel
theorem dX6_readsPart_56 : decode cX6_readsPart 56 = .ok (.getfield 153, 3) := by decide +kernel
theorem dX6_readsPart_59 : decode cX6_readsPart 59 = .ok (.iconst 1, 1) := by decide +kernel
theorem dX6_readsPart_60 : decode cX6_readsPart 60 = .ok (.iadd, 1) := by decide +kernel
theorem dX6_readsPart_61 : decode cX6_readsPart 61 = .ok (.putfield 153, 3) := by decide +kernel
theorem dX6_readsPart_64 : decode cX6_readsPart 64 = .ok (.aload_n 0, 1) := by decide +kernel
theorem dX6_readsPart_65 : decode cX6_readsPart 65 = .ok (.getfield 33, 3) := by decide +kernel
theorem dX6_readsPart_68 : decode cX6_readsPart 68 = .ok (.iload_n 1, 1) := by decide +kernel
theorem dX6_readsPart_69 : decode cX6_readsPart 69 = .ok (.iconst 1, 1) := by decide +kernel
theorem dX6_readsPart_70 : decode cX6_readsPart 70 = .ok (.iadd, 1) := by decide +kernel
theorem dX6_readsPart_71 : decode cX6_readsPart 71 = .ok (.aload_n 0, 1) := by decide +kernel
theorem dX6_readsPart_72 : decode cX6_readsPart 72 = .ok (.iconst 5, 1) := by decide +kernel
theorem dX6_readsPart_73 : decode cX6_readsPart 73 = .ok (.iconst 0, 1) := by decide +kernel
theorem dX6_readsPart_74 : decode cX6_readsPart 74 = .ok (.invokevirtual 163, 3) := by decide +kernel
theorem dX6_readsPart_77 : decode cX6_readsPart 77 = .ok (.iastore, 1) := by decide +kernel
theorem dX6_readsPart_78 : decode cX6_readsPart 78 = .ok (.aload_n 0, 1) := by decide +kernel
theorem dX6_readsPart_79 : decode cX6_readsPart 79 = .ok (.getfield 33, 3) := by decide +kernel
theorem dX6_readsPart_82 : decode cX6_readsPart 82 = .ok (.iload_n 1, 1) := by decide +kernel
theorem dX6_readsPart_83 : decode cX6_readsPart 83 = .ok (.iconst 1, 1) := by decide +kernel
theorem dX6_readsPart_84 : decode cX6_readsPart 84 = .ok (.iadd, 1) := by decide +kernel
theorem dX6_readsPart_85 : decode cX6_readsPart 85 = .ok (.iaload, 1) := by decide +kernel
theorem dX6_readsPart_86 : decode cX6_readsPart 86 = .ok (.bipush (-5), 2) := by decide +kernel
theorem dX6_readsPart_88 : decode cX6_readsPart 88 = .ok (.if_icmp .eq 12, 3) := by decide +kernel
theorem dX6_readsPart_91 : decode cX6_readsPart 91 = .ok (.aload_n 0, 1) := by decide +kernel
theorem dX6_readsPart_92 : decode cX6_readsPart 92 = .ok (.bipush 47, 2) := by decide +kernel
theorem dX6_readsPart_94 : decode cX6_readsPart 94 = .ok (.invokevirtual 159, 3) := by decide +kernel
theorem dX6_readsPart_97 : decode cX6_readsPart 97 = .ok (.ifCond .ne 5, 3) := by decide +kernel
theorem dX6_readsPart_100 : decode cX6_readsPart 100 = .ok (.iconst 0, 1) := by decide +kernel
theorem dX6_readsPart_101 : decode cX6_readsPart 101 = .ok (.ireturn, 1) := by decide +kernel
theorem dX6_readsPart_102 : decode cX6_readsPart 102 = .ok (.aload_n 0, 1) := by decide +kernel
theorem dX6_readsPart_103 : decode cX6_readsPart 103 = .ok (.dup, 1) := by decide +kernel
theorem dX6_readsPart_104 : decode cX6_readsPart 104 = .ok (.getfield 153, 3) := by decide +kernel
theorem dX6_readsPart_107 : decode cX6_readsPart 107 = .ok (.iconst 1, 1) := by decide +kernel
theorem dX6_readsPart_108 : decode cX6_readsPart 108 = .ok (.iadd, 1) := by decide +kernel
theorem dX6_readsPart_109 : decode cX6_readsPart 109 = .ok (.putfield 153, 3) := by decide +kernel
theorem dX6_readsPart_112 : decode cX6_readsPart 112 = .ok (.aload_n 0, 1) := by decide +kernel
theorem dX6_readsPart_113 : decode cX6_readsPart 113 = .ok (.getfield 33, 3) := by decide +kernel
theorem dX6_readsPart_116 : decode cX6_readsPart 116 = .ok (.iload_n 1, 1) := by decide +kernel
theorem dX6_readsPart_117 : decode cX6_readsPart 117 = .ok (.iconst 2, 1) := by decide +kernel
theorem dX6_readsPart_118 : decode cX6_readsPart 118 = .ok (.iadd, 1) := by decide +kernel
theorem dX6_readsPart_119 : decode cX6_readsPart 119 = .ok (.aload_n 0, 1) := by decide +kernel
theorem dX6_readsPart_120 : decode cX6_readsPart 120 = .ok (.iconst 3, 1) := by decide +kernel
theorem dX6_readsPart_121 : decode cX6_readsPart 121 = .ok (.iconst 1, 1) := by decide +kernel
theorem dX6_readsPart_122 : decode cX6_readsPart 122 = .ok (.invokevirtual 163, 3) := by decide +kernel
theorem dX6_readsPart_125 : decode cX6_readsPart 125 = .ok (.iastore, 1) := by decide +kernel
theorem dX6_readsPart_126 : decode cX6_readsPart 126 = .ok (.aload_n 0, 1) := by decide +kernel
theorem dX6_readsPart_127 : decode cX6_readsPart 127 = .ok (.getfield 33, 3) := by decide +kernel
theorem dX6_readsPart_130 : decode cX6_readsPart 130 = .ok (.iload_n 1, 1) := by decide +kernel
theorem dX6_readsPart_131 : decode cX6_readsPart 131 = .ok (.iconst 2, 1) := by decide +kernel
theorem dX6_readsPart_132 : decode cX6_readsPart 132 = .ok (.iadd, 1) := by decide +kernel
theorem dX6_readsPart_133 : decode cX6_readsPart 133 = .ok (.iaload, 1) := by decide +kernel
theorem dX6_readsPart_134 : decode cX6_readsPart 134 = .ok (.bipush (-5), 2) := by decide +kernel
theorem dX6_readsPart_136 : decode cX6_readsPart 136 = .ok (.if_icmp .ne 5, 3) := by decide +kernel
theorem dX6_readsPart_139 : decode cX6_readsPart 139 = .ok (.iconst 0, 1) := by decide +kernel
theorem dX6_readsPart_140 : decode cX6_readsPart 140 = .ok (.ireturn, 1) := by decide +kernel
theorem dX6_readsPart_141 : decode cX6_readsPart 141 = .ok (.aload_n 0, 1) := by decide +kernel
theorem dX6_readsPart_142 : decode cX6_readsPart 142 = .ok (.dup, 1) := by decide +kernel
theorem dX6_readsPart_143 : decode cX6_readsPart 143 = .ok (.getfield 156, 3) := by decide +kernel
theorem dX6_readsPart_146 : decode cX6_readsPart 146 = .ok (.iconst 1, 1) := by decide +kernel
theorem dX6_readsPart_147 : decode cX6_readsPart 147 = .ok (.iadd, 1) := by decide +kernel
theorem dX6_readsPart_148 : decode cX6_readsPart 148 = .ok (.putfield 156, 3) := by decide +kernel
theorem dX6_readsPart_151 : decode cX6_readsPart 151 = .ok (.aload_n 0, 1) := by decide +kernel
theorem dX6_readsPart_152 : decode cX6_readsPart 152 = .ok (.getfield 153, 3) := by decide +kernel
theorem dX6_readsPart_155 : decode cX6_readsPart 155 = .ok (.aload_n 0, 1) := by decide +kernel
theorem dX6_readsPart_156 : decode cX6_readsPart 156 = .ok (.getfield 150, 3) := by decide +kernel
theorem dX6_readsPart_159 : decode cX6_readsPart 159 = .ok (.if_icmp .eq 17, 3) := by decide +kernel
theorem dX6_readsPart_162 : decode cX6_readsPart 162 = .ok (.aload_n 0, 1) := by decide +kernel
theorem dX6_readsPart_163 : decode cX6_readsPart 163 = .ok (.getfield 29, 3) := by decide +kernel
theorem dX6_readsPart_166 : decode cX6_readsPart 166 = .ok (.aload_n 0, 1) := by decide +kernel
theorem dX6_readsPart_167 : decode cX6_readsPart 167 = .ok (.getfield 153, 3) := by decide +kernel
theorem dX6_readsPart_170 : decode cX6_readsPart 170 = .ok (.caload, 1) := by decide +kernel
theorem dX6_readsPart_171 : decode cX6_readsPart 171 = .ok (.bipush 59, 2) := by decide +kernel
theorem dX6_readsPart_173 : decode cX6_readsPart 173 = .ok (.if_icmp .ne 7, 3) := by decide +kernel
theorem dX6_readsPart_176 : decode cX6_readsPart 176 = .ok (.iconst 1, 1) := by decide +kernel
theorem dX6_readsPart_177 : decode cX6_readsPart 177 = .ok (.goto 4, 3) := by decide +kernel
theorem dX6_readsPart_180 : decode cX6_readsPart 180 = .ok (.iconst 0, 1) := by decide +kernel
theorem dX6_readsPart_181 : decode cX6_readsPart 181 = .ok (.ireturn, 1) := by decide +kernel
abbrev rmX6_readsPart : Room := { frames := 2, cells := 0, slots := 0, locals := 46 }
def w_X6_readsPart (n : Nat) (M : Mem) (t : Nat) (K : Int32 → Mem → Prop) : Prop := ((t ≤ n ∧ kd t = (6, 0)) ∧ (∀ x2, x2 = (3 : Int32) * (gI M t 11) → (∀ r3, r3 = gR M t 12 → w_X6_isSign n M t (118 : Int32) (fun x5 M4 => ((x5 = 0 → w_X6_isSign n M4 t (112 : Int32) (fun x7 M6 => ((x7 = 0 → ((r3 ≤ n ∧ (kd r3).1 = 7 ∧ vp_in x2 (kd r3).2) ∧ (∀ M8, M8 = sI M6 r3 (Int32.toNatClampNeg x2) (-5 : Int32) → (∀ r9, r9 = gR M8 t 12 → ((r9 ≤ n ∧ (kd r9).1 = 7 ∧ vp_in x2 (kd r9).2) ∧ (∀ x10, x10 = gI M8 r9 (Int32.toNatClampNeg x2) → ((¬ x10 = (-5 : Int32) → (∀ M11, M11 = sI M8 t 10 ((gI M8 t 10) + (1 : Int32)) → (∀ r12, r12 = gR M11 t 12 → w_X6_number n M11 t (5 : Int32) (0 : Int32) (fun x14 M13 => ((r12 ≤ n ∧ (kd r12).1 = 7 ∧ vp_in (x2 + (1 : Int32)) (kd r12).2) ∧ (∀ M15, M15 = sI M13 r12 (Int32.toNatClampNeg (x2 + (1 : Int32))) x14 → (∀ r16, r16 = gR M15 t 12 → ((r16 ≤ n ∧ (kd r16).1 = 7 ∧ vp_in (x2 + (1 : Int32)) (kd r16).2) ∧ (∀ x17, x17 = gI M15 r16 (Int32.toNatClampNeg (x2 + (1 : Int32))) → ((x17 = (-5 : Int32) → K (0 : Int32) M15) ∧ (¬ x17 = (-5 : Int32) → w_X6_isSign n M15 t (47 : Int32) (fun x19 M18 => ((¬ x19 = 0 → (∀ M20, M20 = sI M18 t 10 ((gI M18 t 10) + (1 : Int32)) → (∀ r21, r21 = gR M20 t 12 → w_X6_number n M20 t (3 : Int32) (1 : Int32) (fun x23 M22 => ((r21 ≤ n ∧ (kd r21).1 = 7 ∧ vp_in (x2 + (2 : Int32)) (kd r21).2) ∧ (∀ M24, M24 = sI M22 r21 (Int32.toNatClampNeg (x2 + (2 : Int32))) x23 → (∀ r25, r25 = gR M24 t 12 → ((r25 ≤ n ∧ (kd r25).1 = 7 ∧ vp_in (x2 + (2 : Int32)) (kd r25).2) ∧ (∀ x26, x26 = gI M24 r25 (Int32.toNatClampNeg (x2 + (2 : Int32))) → ((¬ x26 = (-5 : Int32) → (∀ M27, M27 = sI M24 t 11 ((gI M24 t 11) + (1 : Int32)) → (((gI M27 t 10) = (gI M27 t 8) → K (1 : Int32) M27) ∧ (¬ (gI M27 t 10) = (gI M27 t 8) → (∀ r28, r28 = gR M27 t 9 → ((r28 ≤ n ∧ (kd r28).1 = 9 ∧ vp_in (gI M27 t 10) (kd r28).2) ∧ (∀ x29, x29 = gI M27 r28 (Int32.toNatClampNeg (gI M27 t 10)) → ((¬ x29 = (59 : Int32) → K (0 : Int32) M27) ∧ (x29 = (59 : Int32) → K (1 : Int32) M27))))))))) ∧ (x26 = (-5 : Int32) → K (0 : Int32) M24))))))))))) ∧ (x19 = 0 → K (0 : Int32) M18)))))))))))))) ∧ (x10 = (-5 : Int32) → K (0 : Int32) M8)))))))) ∧ (¬ x7 = 0 → ((r3 ≤ n ∧ (kd r3).1 = 7 ∧ vp_in x2 (kd r3).2) ∧ (∀ M30, M30 = sI M6 r3 (Int32.toNatClampNeg x2) (1 : Int32) → (∀ r31, r31 = gR M30 t 12 → ((r31 ≤ n ∧ (kd r31).1 = 7 ∧ vp_in x2 (kd r31).2) ∧ (∀ x32, x32 = gI M30 r31 (Int32.toNatClampNeg x2) → ((¬ x32 = (-5 : Int32) → (∀ M33, M33 = sI M30 t 10 ((gI M30 t 10) + (1 : Int32)) → (∀ r34, r34 = gR M33 t 12 → w_X6_number n M33 t (5 : Int32) (0 : Int32) (fun x36 M35 => ((r34 ≤ n ∧ (kd r34).1 = 7 ∧ vp_in (x2 + (1 : Int32)) (kd r34).2) ∧ (∀ M37, M37 = sI M35 r34 (Int32.toNatClampNeg (x2 + (1 : Int32))) x36 → (∀ r38, r38 = gR M37 t 12 → ((r38 ≤ n ∧ (kd r38).1 = 7 ∧ vp_in (x2 + (1 : Int32)) (kd r38).2) ∧ (∀ x39, x39 = gI M37 r38 (Int32.toNatClampNeg (x2 + (1 : Int32))) → ((x39 = (-5 : Int32) → K (0 : Int32) M37) ∧ (¬ x39 = (-5 : Int32) → w_X6_isSign n M37 t (47 : Int32) (fun x41 M40 => ((¬ x41 = 0 → (∀ M42, M42 = sI M40 t 10 ((gI M40 t 10) + (1 : Int32)) → (∀ r43, r43 = gR M42 t 12 → w_X6_number n M42 t (3 : Int32) (1 : Int32) (fun x45 M44 => ((r43 ≤ n ∧ (kd r43).1 = 7 ∧ vp_in (x2 + (2 : Int32)) (kd r43).2) ∧ (∀ M46, M46 = sI M44 r43 (Int32.toNatClampNeg (x2 + (2 : Int32))) x45 → (∀ r47, r47 = gR M46 t 12 → ((r47 ≤ n ∧ (kd r47).1 = 7 ∧ vp_in (x2 + (2 : Int32)) (kd r47).2) ∧ (∀ x48, x48 = gI M46 r47 (Int32.toNatClampNeg (x2 + (2 : Int32))) → ((¬ x48 = (-5 : Int32) → (∀ M49, M49 = sI M46 t 11 ((gI M46 t 11) + (1 : Int32)) → (((gI M49 t 10) = (gI M49 t 8) → K (1 : Int32) M49) ∧ (¬ (gI M49 t 10) = (gI M49 t 8) → (∀ r50, r50 = gR M49 t 9 → ((r50 ≤ n ∧ (kd r50).1 = 9 ∧ vp_in (gI M49 t 10) (kd r50).2) ∧ (∀ x51, x51 = gI M49 r50 (Int32.toNatClampNeg (gI M49 t 10)) → ((¬ x51 = (59 : Int32) → K (0 : Int32) M49) ∧ (x51 = (59 : Int32) → K (1 : Int32) M49))))))))) ∧ (x48 = (-5 : Int32) → K (0 : Int32) M46))))))))))) ∧ (x41 = 0 → K (0 : Int32) M40)))))))))))))) ∧ (x32 = (-5 : Int32) → K (0 : Int32) M30))))))))))) ∧ (¬ x5 = 0 → ((r3 ≤ n ∧ (kd r3).1 = 7 ∧ vp_in x2 (kd r3).2) ∧ (∀ M52, M52 = sI M4 r3 (Int32.toNatClampNeg x2) (0 : Int32) → (∀ r53, r53 = gR M52 t 12 → ((r53 ≤ n ∧ (kd r53).1 = 7 ∧ vp_in x2 (kd r53).2) ∧ (∀ x54, x54 = gI M52 r53 (Int32.toNatClampNeg x2) → ((¬ x54 = (-5 : Int32) → (∀ M55, M55 = sI M52 t 10 ((gI M52 t 10) + (1 : Int32)) → (∀ r56, r56 = gR M55 t 12 → w_X6_number n M55 t (5 : Int32) (0 : Int32) (fun x58 M57 => ((r56 ≤ n ∧ (kd r56).1 = 7 ∧ vp_in (x2 + (1 : Int32)) (kd r56).2) ∧ (∀ M59, M59 = sI M57 r56 (Int32.toNatClampNeg (x2 + (1 : Int32))) x58 → (∀ r60, r60 = gR M59 t 12 → ((r60 ≤ n ∧ (kd r60).1 = 7 ∧ vp_in (x2 + (1 : Int32)) (kd r60).2) ∧ (∀ x61, x61 = gI M59 r60 (Int32.toNatClampNeg (x2 + (1 : Int32))) → ((x61 = (-5 : Int32) → K (0 : Int32) M59) ∧ (¬ x61 = (-5 : Int32) → w_X6_isSign n M59 t (47 : Int32) (fun x63 M62 => ((¬ x63 = 0 → (∀ M64, M64 = sI M62 t 10 ((gI M62 t 10) + (1 : Int32)) → (∀ r65, r65 = gR M64 t 12 → w_X6_number n M64 t (3 : Int32) (1 : Int32) (fun x67 M66 => ((r65 ≤ n ∧ (kd r65).1 = 7 ∧ vp_in (x2 + (2 : Int32)) (kd r65).2) ∧ (∀ M68, M68 = sI M66 r65 (Int32.toNatClampNeg (x2 + (2 : Int32))) x67 → (∀ r69, r69 = gR M68 t 12 → ((r69 ≤ n ∧ (kd r69).1 = 7 ∧ vp_in (x2 + (2 : Int32)) (kd r69).2) ∧ (∀ x70, x70 = gI M68 r69 (Int32.toNatClampNeg (x2 + (2 : Int32))) → ((¬ x70 = (-5 : Int32) → (∀ M71, M71 = sI M68 t 11 ((gI M68 t 11) + (1 : Int32)) → (((gI M71 t 10) = (gI M71 t 8) → K (1 : Int32) M71) ∧ (¬ (gI M71 t 10) = (gI M71 t 8) → (∀ r72, r72 = gR M71 t 9 → ((r72 ≤ n ∧ (kd r72).1 = 9 ∧ vp_in (gI M71 t 10) (kd r72).2) ∧ (∀ x73, x73 = gI M71 r72 (Int32.toNatClampNeg (gI M71 t 10)) → ((¬ x73 = (59 : Int32) → K (0 : Int32) M71) ∧ (x73 = (59 : Int32) → K (1 : Int32) M71))))))))) ∧ (x70 = (-5 : Int32) → K (0 : Int32) M68))))))))))) ∧ (x63 = 0 → K (0 : Int32) M62)))))))))))))) ∧ (x54 = (-5 : Int32) → K (0 : Int32) M52)))))))))))))
set_option maxHeartbeats 4000000 in
set_option maxRecDepth 20000 in
theorem c_X6_readsPart (l : Launch) (E : Gl) (n : Nat) (M : Mem) (t : Nat) (K : Int32 → Mem → Prop) (hw : w_X6_readsPart n M t K) : CT E l yX6_readsPart cX6_readsPart 2 (some .boolean) rmX6_readsPart n M [rV t] (PI E n K) := by
  refine g_met l (by decide) (Nat.le_of_ble_eq_true rfl) ?_
  intro p e s m args below meth c X hr hlk hnm hSz hOld
  change CX E p s m c _ _ RX6 at X
  unfold w_X6_readsPart at hw
  refine g_iconst X (3 : Int32) dX6_readsPart_0 (by decide) ?_
  refine g_aload_n X dX6_readsPart_1 0 rfl ?_
  obtain ⟨hk1, hw⟩ := hw
  refine g_get X (iV (gI M t 11)) dX6_readsPart_2 fl_X6_156 (fun _ => rfl) ⟨hk1, hw⟩ (fun hw => ?_)
  refine g_imul X dX6_readsPart_5 ?_
  refine g_topI (fun x2 hx2 => ?_)
  have hw := hw x2 hx2
  refine g_istore_n (lv' := [(1, iV x2), (0, rV t)]) X dX6_readsPart_6 (by decide) rfl ?_
  refine g_aload_n X dX6_readsPart_7 1 rfl ?_
  refine g_get X (rV (gR M t 12)) dX6_readsPart_8 fl_X6_33 (fun _ => rfl) ⟨hk1, hw⟩ (fun hw => ?_)
  refine g_topR (fun r3 hr3 => ?_)
  have hw := hw r3 hr3
  refine g_iload_n X dX6_readsPart_11 0 rfl ?_
  refine g_aload_n X dX6_readsPart_12 1 rfl ?_
  refine g_bipush X (118 : Int32) dX6_readsPart_13 (by decide) ?_
  refine g_calli (pc' := 18) (rest := [iV x2, rV r3]) rfl (fun H locs ls d qR qL => g_runV X cw_X6_159 iv_X6_isSign ⟨Nat.le_of_ble_eq_true rfl, Nat.le_of_ble_eq_true rfl⟩ dX6_readsPart_15 (c_X6_isSign l E n M t (118 : Int32) _ hw) hk1 rfl rfl (Nat.le_of_ble_eq_true rfl) ⟨Nat.le_of_ble_eq_true rfl, Nat.le_of_ble_eq_true rfl⟩ qR qL) (fun x5 M4 hw => ?_)
  refine g_if_eq X 25 dX6_readsPart_18 (by decide) hw (fun hw => ?_) (fun hw => ?_)
  · refine g_aload_n X dX6_readsPart_25 1 rfl ?_
    refine g_bipush X (112 : Int32) dX6_readsPart_26 (by decide) ?_
    refine g_calli (pc' := 31) (rest := [iV x2, rV r3]) rfl (fun H locs ls d qR qL => g_runV X cw_X6_159 iv_X6_isSign ⟨Nat.le_of_ble_eq_true rfl, Nat.le_of_ble_eq_true rfl⟩ dX6_readsPart_28 (c_X6_isSign l E n M4 t (112 : Int32) _ hw) hk1 rfl rfl (Nat.le_of_ble_eq_true rfl) ⟨Nat.le_of_ble_eq_true rfl, Nat.le_of_ble_eq_true rfl⟩ qR qL) (fun x7 M6 hw => ?_)
    refine g_if_eq X 38 dX6_readsPart_31 (by decide) hw (fun hw => ?_) (fun hw => ?_)
    · refine g_bipush X (-5 : Int32) dX6_readsPart_38 (by decide) ?_
      refine g_iast X dX6_readsPart_40 hw (fun hw => ?_)
      refine g_topM (fun M8 hM8 => ?_)
      have hw := hw M8 hM8
      refine g_aload_n X dX6_readsPart_41 1 rfl ?_
      refine g_get X (rV (gR M8 t 12)) dX6_readsPart_42 fl_X6_33 (fun _ => rfl) ⟨hk1, hw⟩ (fun hw => ?_)
      refine g_topR (fun r9 hr9 => ?_)
      have hw := hw r9 hr9
      refine g_iload_n X dX6_readsPart_45 0 rfl ?_
      refine g_iald X dX6_readsPart_46 hw (fun hw => ?_)
      refine g_topI (fun x10 hx10 => ?_)
      have hw := hw x10 hx10
      refine g_bipush X (-5 : Int32) dX6_readsPart_47 (by decide) ?_
      refine g_icmp_ne X 54 dX6_readsPart_49 (by decide) hw (fun hw => ?_) (fun hw => ?_)
      · refine g_aload_n X dX6_readsPart_54 1 rfl ?_
        refine g_dup X dX6_readsPart_55 rfl ?_
        refine g_get X (iV (gI M8 t 10)) dX6_readsPart_56 fl_X6_153 (fun _ => rfl) ⟨hk1, hw⟩ (fun hw => ?_)
        refine g_iconst X (1 : Int32) dX6_readsPart_59 (by decide) ?_
        refine g_iadd X dX6_readsPart_60 ?_
        refine g_putI X dX6_readsPart_61 fl_X6_153 rfl (Or.inl rfl) ⟨hk1, hw⟩ (fun hw => ?_)
        refine g_topM (fun M11 hM11 => ?_)
        have hw := hw M11 hM11
        refine g_aload_n X dX6_readsPart_64 1 rfl ?_
        refine g_get X (rV (gR M11 t 12)) dX6_readsPart_65 fl_X6_33 (fun _ => rfl) ⟨hk1, hw⟩ (fun hw => ?_)
        refine g_topR (fun r12 hr12 => ?_)
        have hw := hw r12 hr12
        refine g_iload_n X dX6_readsPart_68 0 rfl ?_
        refine g_iconst X (1 : Int32) dX6_readsPart_69 (by decide) ?_
        refine g_iadd X dX6_readsPart_70 ?_
        refine g_aload_n X dX6_readsPart_71 1 rfl ?_
        refine g_iconst X (5 : Int32) dX6_readsPart_72 (by decide) ?_
        refine g_iconst X (0 : Int32) dX6_readsPart_73 (by decide) ?_
        refine g_calli (pc' := 77) (rest := [iV (x2 + (1 : Int32)), rV r12]) rfl (fun H locs ls d qR qL => g_runV X cw_X6_163 iv_X6_number ⟨Nat.le_of_ble_eq_true rfl, Nat.le_of_ble_eq_true rfl⟩ dX6_readsPart_74 (c_X6_number l E n M11 t (5 : Int32) (0 : Int32) _ hw) hk1 rfl rfl (Nat.le_of_ble_eq_true rfl) ⟨Nat.le_of_ble_eq_true rfl, Nat.le_of_ble_eq_true rfl⟩ qR qL) (fun x14 M13 hw => ?_)
        refine g_iast X dX6_readsPart_77 hw (fun hw => ?_)
        refine g_topM (fun M15 hM15 => ?_)
        have hw := hw M15 hM15
        refine g_aload_n X dX6_readsPart_78 1 rfl ?_
        refine g_get X (rV (gR M15 t 12)) dX6_readsPart_79 fl_X6_33 (fun _ => rfl) ⟨hk1, hw⟩ (fun hw => ?_)
        refine g_topR (fun r16 hr16 => ?_)
        have hw := hw r16 hr16
        refine g_iload_n X dX6_readsPart_82 0 rfl ?_
        refine g_iconst X (1 : Int32) dX6_readsPart_83 (by decide) ?_
        refine g_iadd X dX6_readsPart_84 ?_
        refine g_iald X dX6_readsPart_85 hw (fun hw => ?_)
        refine g_topI (fun x17 hx17 => ?_)
        have hw := hw x17 hx17
        refine g_bipush X (-5 : Int32) dX6_readsPart_86 (by decide) ?_
        refine g_icmp_eq X 100 dX6_readsPart_88 (by decide) hw (fun hw => ?_) (fun hw => ?_)
        · refine g_iconst X (0 : Int32) dX6_readsPart_100 (by decide) ?_
          exact g_zret X hr hlk hSz hOld (Nat.le_refl _) dX6_readsPart_101 ⟨rfl, hw⟩
        · refine g_aload_n X dX6_readsPart_91 1 rfl ?_
          refine g_bipush X (47 : Int32) dX6_readsPart_92 (by decide) ?_
          refine g_calli (pc' := 97) (rest := []) rfl (fun H locs ls d qR qL => g_runV X cw_X6_159 iv_X6_isSign ⟨Nat.le_of_ble_eq_true rfl, Nat.le_of_ble_eq_true rfl⟩ dX6_readsPart_94 (c_X6_isSign l E n M15 t (47 : Int32) _ hw) hk1 rfl rfl (Nat.le_of_ble_eq_true rfl) ⟨Nat.le_of_ble_eq_true rfl, Nat.le_of_ble_eq_true rfl⟩ qR qL) (fun x19 M18 hw => ?_)
          refine g_if_ne X 102 dX6_readsPart_97 (by decide) hw (fun hw => ?_) (fun hw => ?_)
          · refine g_aload_n X dX6_readsPart_102 1 rfl ?_
            refine g_dup X dX6_readsPart_103 rfl ?_
            refine g_get X (iV (gI M18 t 10)) dX6_readsPart_104 fl_X6_153 (fun _ => rfl) ⟨hk1, hw⟩ (fun hw => ?_)
            refine g_iconst X (1 : Int32) dX6_readsPart_107 (by decide) ?_
            refine g_iadd X dX6_readsPart_108 ?_
            refine g_putI X dX6_readsPart_109 fl_X6_153 rfl (Or.inl rfl) ⟨hk1, hw⟩ (fun hw => ?_)
            refine g_topM (fun M20 hM20 => ?_)
            have hw := hw M20 hM20
            refine g_aload_n X dX6_readsPart_112 1 rfl ?_
            refine g_get X (rV (gR M20 t 12)) dX6_readsPart_113 fl_X6_33 (fun _ => rfl) ⟨hk1, hw⟩ (fun hw => ?_)
            refine g_topR (fun r21 hr21 => ?_)
            have hw := hw r21 hr21
            refine g_iload_n X dX6_readsPart_116 0 rfl ?_
            refine g_iconst X (2 : Int32) dX6_readsPart_117 (by decide) ?_
            refine g_iadd X dX6_readsPart_118 ?_
            refine g_aload_n X dX6_readsPart_119 1 rfl ?_
            refine g_iconst X (3 : Int32) dX6_readsPart_120 (by decide) ?_
            refine g_iconst X (1 : Int32) dX6_readsPart_121 (by decide) ?_
            refine g_calli (pc' := 125) (rest := [iV (x2 + (2 : Int32)), rV r21]) rfl (fun H locs ls d qR qL => g_runV X cw_X6_163 iv_X6_number ⟨Nat.le_of_ble_eq_true rfl, Nat.le_of_ble_eq_true rfl⟩ dX6_readsPart_122 (c_X6_number l E n M20 t (3 : Int32) (1 : Int32) _ hw) hk1 rfl rfl (Nat.le_of_ble_eq_true rfl) ⟨Nat.le_of_ble_eq_true rfl, Nat.le_of_ble_eq_true rfl⟩ qR qL) (fun x23 M22 hw => ?_)
            refine g_iast X dX6_readsPart_125 hw (fun hw => ?_)
            refine g_topM (fun M24 hM24 => ?_)
            have hw := hw M24 hM24
            refine g_aload_n X dX6_readsPart_126 1 rfl ?_
            refine g_get X (rV (gR M24 t 12)) dX6_readsPart_127 fl_X6_33 (fun _ => rfl) ⟨hk1, hw⟩ (fun hw => ?_)
            refine g_topR (fun r25 hr25 => ?_)
            have hw := hw r25 hr25
            refine g_iload_n X dX6_readsPart_130 0 rfl ?_
            refine g_iconst X (2 : Int32) dX6_readsPart_131 (by decide) ?_
            refine g_iadd X dX6_readsPart_132 ?_
            refine g_iald X dX6_readsPart_133 hw (fun hw => ?_)
            refine g_topI (fun x26 hx26 => ?_)
            have hw := hw x26 hx26
            refine g_bipush X (-5 : Int32) dX6_readsPart_134 (by decide) ?_
            refine g_icmp_ne X 141 dX6_readsPart_136 (by decide) hw (fun hw => ?_) (fun hw => ?_)
            · refine g_aload_n X dX6_readsPart_141 1 rfl ?_
              refine g_dup X dX6_readsPart_142 rfl ?_
              refine g_get X (iV (gI M24 t 11)) dX6_readsPart_143 fl_X6_156 (fun _ => rfl) ⟨hk1, hw⟩ (fun hw => ?_)
              refine g_iconst X (1 : Int32) dX6_readsPart_146 (by decide) ?_
              refine g_iadd X dX6_readsPart_147 ?_
              refine g_putI X dX6_readsPart_148 fl_X6_156 rfl (Or.inl rfl) ⟨hk1, hw⟩ (fun hw => ?_)
              refine g_topM (fun M27 hM27 => ?_)
              have hw := hw M27 hM27
              refine g_aload_n X dX6_readsPart_151 1 rfl ?_
              refine g_get X (iV (gI M27 t 10)) dX6_readsPart_152 fl_X6_153 (fun _ => rfl) ⟨hk1, hw⟩ (fun hw => ?_)
              refine g_aload_n X dX6_readsPart_155 1 rfl ?_
              refine g_get X (iV (gI M27 t 8)) dX6_readsPart_156 fl_X6_150 (fun _ => rfl) ⟨hk1, hw⟩ (fun hw => ?_)
              refine g_icmp_eq X 176 dX6_readsPart_159 (by decide) hw (fun hw => ?_) (fun hw => ?_)
              · refine g_iconst X (1 : Int32) dX6_readsPart_176 (by decide) ?_
                refine g_goto X 181 dX6_readsPart_177 (by decide) ?_
                exact g_zret X hr hlk hSz hOld (Nat.le_refl _) dX6_readsPart_181 ⟨rfl, hw⟩
              · refine g_aload_n X dX6_readsPart_162 1 rfl ?_
                refine g_get X (rV (gR M27 t 9)) dX6_readsPart_163 fl_X6_29 (fun _ => rfl) ⟨hk1, hw⟩ (fun hw => ?_)
                refine g_topR (fun r28 hr28 => ?_)
                have hw := hw r28 hr28
                refine g_aload_n X dX6_readsPart_166 1 rfl ?_
                refine g_get X (iV (gI M27 t 10)) dX6_readsPart_167 fl_X6_153 (fun _ => rfl) ⟨hk1, hw⟩ (fun hw => ?_)
                refine g_cald X dX6_readsPart_170 hw (fun hw => ?_)
                refine g_topI (fun x29 hx29 => ?_)
                have hw := hw x29 hx29
                refine g_bipush X (59 : Int32) dX6_readsPart_171 (by decide) ?_
                refine g_icmp_ne X 180 dX6_readsPart_173 (by decide) hw (fun hw => ?_) (fun hw => ?_)
                · refine g_iconst X (0 : Int32) dX6_readsPart_180 (by decide) ?_
                  exact g_zret X hr hlk hSz hOld (Nat.le_refl _) dX6_readsPart_181 ⟨rfl, hw⟩
                · refine g_iconst X (1 : Int32) dX6_readsPart_176 (by decide) ?_
                  refine g_goto X 181 dX6_readsPart_177 (by decide) ?_
                  exact g_zret X hr hlk hSz hOld (Nat.le_refl _) dX6_readsPart_181 ⟨rfl, hw⟩
            · refine g_iconst X (0 : Int32) dX6_readsPart_139 (by decide) ?_
              exact g_zret X hr hlk hSz hOld (Nat.le_refl _) dX6_readsPart_140 ⟨rfl, hw⟩
          · refine g_iconst X (0 : Int32) dX6_readsPart_100 (by decide) ?_
            exact g_zret X hr hlk hSz hOld (Nat.le_refl _) dX6_readsPart_101 ⟨rfl, hw⟩
      · refine g_iconst X (0 : Int32) dX6_readsPart_52 (by decide) ?_
        exact g_zret X hr hlk hSz hOld (Nat.le_refl _) dX6_readsPart_53 ⟨rfl, hw⟩
    · refine g_iconst X (1 : Int32) dX6_readsPart_34 (by decide) ?_
      refine g_goto X 40 dX6_readsPart_35 (by decide) ?_
      refine g_iast X dX6_readsPart_40 hw (fun hw => ?_)
      refine g_topM (fun M30 hM30 => ?_)
      have hw := hw M30 hM30
      refine g_aload_n X dX6_readsPart_41 1 rfl ?_
      refine g_get X (rV (gR M30 t 12)) dX6_readsPart_42 fl_X6_33 (fun _ => rfl) ⟨hk1, hw⟩ (fun hw => ?_)
      refine g_topR (fun r31 hr31 => ?_)
      have hw := hw r31 hr31
      refine g_iload_n X dX6_readsPart_45 0 rfl ?_
      refine g_iald X dX6_readsPart_46 hw (fun hw => ?_)
      refine g_topI (fun x32 hx32 => ?_)
      have hw := hw x32 hx32
      refine g_bipush X (-5 : Int32) dX6_readsPart_47 (by decide) ?_
      refine g_icmp_ne X 54 dX6_readsPart_49 (by decide) hw (fun hw => ?_) (fun hw => ?_)
      · refine g_aload_n X dX6_readsPart_54 1 rfl ?_
        refine g_dup X dX6_readsPart_55 rfl ?_
        refine g_get X (iV (gI M30 t 10)) dX6_readsPart_56 fl_X6_153 (fun _ => rfl) ⟨hk1, hw⟩ (fun hw => ?_)
        refine g_iconst X (1 : Int32) dX6_readsPart_59 (by decide) ?_
        refine g_iadd X dX6_readsPart_60 ?_
        refine g_putI X dX6_readsPart_61 fl_X6_153 rfl (Or.inl rfl) ⟨hk1, hw⟩ (fun hw => ?_)
        refine g_topM (fun M33 hM33 => ?_)
        have hw := hw M33 hM33
        refine g_aload_n X dX6_readsPart_64 1 rfl ?_
        refine g_get X (rV (gR M33 t 12)) dX6_readsPart_65 fl_X6_33 (fun _ => rfl) ⟨hk1, hw⟩ (fun hw => ?_)
        refine g_topR (fun r34 hr34 => ?_)
        have hw := hw r34 hr34
        refine g_iload_n X dX6_readsPart_68 0 rfl ?_
        refine g_iconst X (1 : Int32) dX6_readsPart_69 (by decide) ?_
        refine g_iadd X dX6_readsPart_70 ?_
        refine g_aload_n X dX6_readsPart_71 1 rfl ?_
        refine g_iconst X (5 : Int32) dX6_readsPart_72 (by decide) ?_
        refine g_iconst X (0 : Int32) dX6_readsPart_73 (by decide) ?_
        refine g_calli (pc' := 77) (rest := [iV (x2 + (1 : Int32)), rV r34]) rfl (fun H locs ls d qR qL => g_runV X cw_X6_163 iv_X6_number ⟨Nat.le_of_ble_eq_true rfl, Nat.le_of_ble_eq_true rfl⟩ dX6_readsPart_74 (c_X6_number l E n M33 t (5 : Int32) (0 : Int32) _ hw) hk1 rfl rfl (Nat.le_of_ble_eq_true rfl) ⟨Nat.le_of_ble_eq_true rfl, Nat.le_of_ble_eq_true rfl⟩ qR qL) (fun x36 M35 hw => ?_)
        refine g_iast X dX6_readsPart_77 hw (fun hw => ?_)
        refine g_topM (fun M37 hM37 => ?_)
        have hw := hw M37 hM37
        refine g_aload_n X dX6_readsPart_78 1 rfl ?_
        refine g_get X (rV (gR M37 t 12)) dX6_readsPart_79 fl_X6_33 (fun _ => rfl) ⟨hk1, hw⟩ (fun hw => ?_)
        refine g_topR (fun r38 hr38 => ?_)
        have hw := hw r38 hr38
        refine g_iload_n X dX6_readsPart_82 0 rfl ?_
        refine g_iconst X (1 : Int32) dX6_readsPart_83 (by decide) ?_
        refine g_iadd X dX6_readsPart_84 ?_
        refine g_iald X dX6_readsPart_85 hw (fun hw => ?_)
        refine g_topI (fun x39 hx39 => ?_)
        have hw := hw x39 hx39
        refine g_bipush X (-5 : Int32) dX6_readsPart_86 (by decide) ?_
        refine g_icmp_eq X 100 dX6_readsPart_88 (by decide) hw (fun hw => ?_) (fun hw => ?_)
        · refine g_iconst X (0 : Int32) dX6_readsPart_100 (by decide) ?_
          exact g_zret X hr hlk hSz hOld (Nat.le_refl _) dX6_readsPart_101 ⟨rfl, hw⟩
        · refine g_aload_n X dX6_readsPart_91 1 rfl ?_
          refine g_bipush X (47 : Int32) dX6_readsPart_92 (by decide) ?_
          refine g_calli (pc' := 97) (rest := []) rfl (fun H locs ls d qR qL => g_runV X cw_X6_159 iv_X6_isSign ⟨Nat.le_of_ble_eq_true rfl, Nat.le_of_ble_eq_true rfl⟩ dX6_readsPart_94 (c_X6_isSign l E n M37 t (47 : Int32) _ hw) hk1 rfl rfl (Nat.le_of_ble_eq_true rfl) ⟨Nat.le_of_ble_eq_true rfl, Nat.le_of_ble_eq_true rfl⟩ qR qL) (fun x41 M40 hw => ?_)
          refine g_if_ne X 102 dX6_readsPart_97 (by decide) hw (fun hw => ?_) (fun hw => ?_)
          · refine g_aload_n X dX6_readsPart_102 1 rfl ?_
            refine g_dup X dX6_readsPart_103 rfl ?_
            refine g_get X (iV (gI M40 t 10)) dX6_readsPart_104 fl_X6_153 (fun _ => rfl) ⟨hk1, hw⟩ (fun hw => ?_)
            refine g_iconst X (1 : Int32) dX6_readsPart_107 (by decide) ?_
            refine g_iadd X dX6_readsPart_108 ?_
            refine g_putI X dX6_readsPart_109 fl_X6_153 rfl (Or.inl rfl) ⟨hk1, hw⟩ (fun hw => ?_)
            refine g_topM (fun M42 hM42 => ?_)
            have hw := hw M42 hM42
            refine g_aload_n X dX6_readsPart_112 1 rfl ?_
            refine g_get X (rV (gR M42 t 12)) dX6_readsPart_113 fl_X6_33 (fun _ => rfl) ⟨hk1, hw⟩ (fun hw => ?_)
            refine g_topR (fun r43 hr43 => ?_)
            have hw := hw r43 hr43
            refine g_iload_n X dX6_readsPart_116 0 rfl ?_
            refine g_iconst X (2 : Int32) dX6_readsPart_117 (by decide) ?_
            refine g_iadd X dX6_readsPart_118 ?_
            refine g_aload_n X dX6_readsPart_119 1 rfl ?_
            refine g_iconst X (3 : Int32) dX6_readsPart_120 (by decide) ?_
            refine g_iconst X (1 : Int32) dX6_readsPart_121 (by decide) ?_
            refine g_calli (pc' := 125) (rest := [iV (x2 + (2 : Int32)), rV r43]) rfl (fun H locs ls d qR qL => g_runV X cw_X6_163 iv_X6_number ⟨Nat.le_of_ble_eq_true rfl, Nat.le_of_ble_eq_true rfl⟩ dX6_readsPart_122 (c_X6_number l E n M42 t (3 : Int32) (1 : Int32) _ hw) hk1 rfl rfl (Nat.le_of_ble_eq_true rfl) ⟨Nat.le_of_ble_eq_true rfl, Nat.le_of_ble_eq_true rfl⟩ qR qL) (fun x45 M44 hw => ?_)
            refine g_iast X dX6_readsPart_125 hw (fun hw => ?_)
            refine g_topM (fun M46 hM46 => ?_)
            have hw := hw M46 hM46
            refine g_aload_n X dX6_readsPart_126 1 rfl ?_
            refine g_get X (rV (gR M46 t 12)) dX6_readsPart_127 fl_X6_33 (fun _ => rfl) ⟨hk1, hw⟩ (fun hw => ?_)
            refine g_topR (fun r47 hr47 => ?_)
            have hw := hw r47 hr47
            refine g_iload_n X dX6_readsPart_130 0 rfl ?_
            refine g_iconst X (2 : Int32) dX6_readsPart_131 (by decide) ?_
            refine g_iadd X dX6_readsPart_132 ?_
            refine g_iald X dX6_readsPart_133 hw (fun hw => ?_)
            refine g_topI (fun x48 hx48 => ?_)
            have hw := hw x48 hx48
            refine g_bipush X (-5 : Int32) dX6_readsPart_134 (by decide) ?_
            refine g_icmp_ne X 141 dX6_readsPart_136 (by decide) hw (fun hw => ?_) (fun hw => ?_)
            · refine g_aload_n X dX6_readsPart_141 1 rfl ?_
              refine g_dup X dX6_readsPart_142 rfl ?_
              refine g_get X (iV (gI M46 t 11)) dX6_readsPart_143 fl_X6_156 (fun _ => rfl) ⟨hk1, hw⟩ (fun hw => ?_)
              refine g_iconst X (1 : Int32) dX6_readsPart_146 (by decide) ?_
              refine g_iadd X dX6_readsPart_147 ?_
              refine g_putI X dX6_readsPart_148 fl_X6_156 rfl (Or.inl rfl) ⟨hk1, hw⟩ (fun hw => ?_)
              refine g_topM (fun M49 hM49 => ?_)
              have hw := hw M49 hM49
              refine g_aload_n X dX6_readsPart_151 1 rfl ?_
              refine g_get X (iV (gI M49 t 10)) dX6_readsPart_152 fl_X6_153 (fun _ => rfl) ⟨hk1, hw⟩ (fun hw => ?_)
              refine g_aload_n X dX6_readsPart_155 1 rfl ?_
              refine g_get X (iV (gI M49 t 8)) dX6_readsPart_156 fl_X6_150 (fun _ => rfl) ⟨hk1, hw⟩ (fun hw => ?_)
              refine g_icmp_eq X 176 dX6_readsPart_159 (by decide) hw (fun hw => ?_) (fun hw => ?_)
              · refine g_iconst X (1 : Int32) dX6_readsPart_176 (by decide) ?_
                refine g_goto X 181 dX6_readsPart_177 (by decide) ?_
                exact g_zret X hr hlk hSz hOld (Nat.le_refl _) dX6_readsPart_181 ⟨rfl, hw⟩
              · refine g_aload_n X dX6_readsPart_162 1 rfl ?_
                refine g_get X (rV (gR M49 t 9)) dX6_readsPart_163 fl_X6_29 (fun _ => rfl) ⟨hk1, hw⟩ (fun hw => ?_)
                refine g_topR (fun r50 hr50 => ?_)
                have hw := hw r50 hr50
                refine g_aload_n X dX6_readsPart_166 1 rfl ?_
                refine g_get X (iV (gI M49 t 10)) dX6_readsPart_167 fl_X6_153 (fun _ => rfl) ⟨hk1, hw⟩ (fun hw => ?_)
                refine g_cald X dX6_readsPart_170 hw (fun hw => ?_)
                refine g_topI (fun x51 hx51 => ?_)
                have hw := hw x51 hx51
                refine g_bipush X (59 : Int32) dX6_readsPart_171 (by decide) ?_
                refine g_icmp_ne X 180 dX6_readsPart_173 (by decide) hw (fun hw => ?_) (fun hw => ?_)
                · refine g_iconst X (0 : Int32) dX6_readsPart_180 (by decide) ?_
                  exact g_zret X hr hlk hSz hOld (Nat.le_refl _) dX6_readsPart_181 ⟨rfl, hw⟩
                · refine g_iconst X (1 : Int32) dX6_readsPart_176 (by decide) ?_
                  refine g_goto X 181 dX6_readsPart_177 (by decide) ?_
                  exact g_zret X hr hlk hSz hOld (Nat.le_refl _) dX6_readsPart_181 ⟨rfl, hw⟩
            · refine g_iconst X (0 : Int32) dX6_readsPart_139 (by decide) ?_
              exact g_zret X hr hlk hSz hOld (Nat.le_refl _) dX6_readsPart_140 ⟨rfl, hw⟩
          · refine g_iconst X (0 : Int32) dX6_readsPart_100 (by decide) ?_
            exact g_zret X hr hlk hSz hOld (Nat.le_refl _) dX6_readsPart_101 ⟨rfl, hw⟩
      · refine g_iconst X (0 : Int32) dX6_readsPart_52 (by decide) ?_
        exact g_zret X hr hlk hSz hOld (Nat.le_refl _) dX6_readsPart_53 ⟨rfl, hw⟩
  · refine g_iconst X (0 : Int32) dX6_readsPart_21 (by decide) ?_
    refine g_goto X 40 dX6_readsPart_22 (by decide) ?_
    refine g_iast X dX6_readsPart_40 hw (fun hw => ?_)
    refine g_topM (fun M52 hM52 => ?_)
    have hw := hw M52 hM52
    refine g_aload_n X dX6_readsPart_41 1 rfl ?_
    refine g_get X (rV (gR M52 t 12)) dX6_readsPart_42 fl_X6_33 (fun _ => rfl) ⟨hk1, hw⟩ (fun hw => ?_)
    refine g_topR (fun r53 hr53 => ?_)
    have hw := hw r53 hr53
    refine g_iload_n X dX6_readsPart_45 0 rfl ?_
    refine g_iald X dX6_readsPart_46 hw (fun hw => ?_)
    refine g_topI (fun x54 hx54 => ?_)
    have hw := hw x54 hx54
    refine g_bipush X (-5 : Int32) dX6_readsPart_47 (by decide) ?_
    refine g_icmp_ne X 54 dX6_readsPart_49 (by decide) hw (fun hw => ?_) (fun hw => ?_)
    · refine g_aload_n X dX6_readsPart_54 1 rfl ?_
      refine g_dup X dX6_readsPart_55 rfl ?_
      refine g_get X (iV (gI M52 t 10)) dX6_readsPart_56 fl_X6_153 (fun _ => rfl) ⟨hk1, hw⟩ (fun hw => ?_)
      refine g_iconst X (1 : Int32) dX6_readsPart_59 (by decide) ?_
      refine g_iadd X dX6_readsPart_60 ?_
      refine g_putI X dX6_readsPart_61 fl_X6_153 rfl (Or.inl rfl) ⟨hk1, hw⟩ (fun hw => ?_)
      refine g_topM (fun M55 hM55 => ?_)
      have hw := hw M55 hM55
      refine g_aload_n X dX6_readsPart_64 1 rfl ?_
      refine g_get X (rV (gR M55 t 12)) dX6_readsPart_65 fl_X6_33 (fun _ => rfl) ⟨hk1, hw⟩ (fun hw => ?_)
      refine g_topR (fun r56 hr56 => ?_)
      have hw := hw r56 hr56
      refine g_iload_n X dX6_readsPart_68 0 rfl ?_
      refine g_iconst X (1 : Int32) dX6_readsPart_69 (by decide) ?_
      refine g_iadd X dX6_readsPart_70 ?_
      refine g_aload_n X dX6_readsPart_71 1 rfl ?_
      refine g_iconst X (5 : Int32) dX6_readsPart_72 (by decide) ?_
      refine g_iconst X (0 : Int32) dX6_readsPart_73 (by decide) ?_
      refine g_calli (pc' := 77) (rest := [iV (x2 + (1 : Int32)), rV r56]) rfl (fun H locs ls d qR qL => g_runV X cw_X6_163 iv_X6_number ⟨Nat.le_of_ble_eq_true rfl, Nat.le_of_ble_eq_true rfl⟩ dX6_readsPart_74 (c_X6_number l E n M55 t (5 : Int32) (0 : Int32) _ hw) hk1 rfl rfl (Nat.le_of_ble_eq_true rfl) ⟨Nat.le_of_ble_eq_true rfl, Nat.le_of_ble_eq_true rfl⟩ qR qL) (fun x58 M57 hw => ?_)
      refine g_iast X dX6_readsPart_77 hw (fun hw => ?_)
      refine g_topM (fun M59 hM59 => ?_)
      have hw := hw M59 hM59
      refine g_aload_n X dX6_readsPart_78 1 rfl ?_
      refine g_get X (rV (gR M59 t 12)) dX6_readsPart_79 fl_X6_33 (fun _ => rfl) ⟨hk1, hw⟩ (fun hw => ?_)
      refine g_topR (fun r60 hr60 => ?_)
      have hw := hw r60 hr60
      refine g_iload_n X dX6_readsPart_82 0 rfl ?_
      refine g_iconst X (1 : Int32) dX6_readsPart_83 (by decide) ?_
      refine g_iadd X dX6_readsPart_84 ?_
      refine g_iald X dX6_readsPart_85 hw (fun hw => ?_)
      refine g_topI (fun x61 hx61 => ?_)
      have hw := hw x61 hx61
      refine g_bipush X (-5 : Int32) dX6_readsPart_86 (by decide) ?_
      refine g_icmp_eq X 100 dX6_readsPart_88 (by decide) hw (fun hw => ?_) (fun hw => ?_)
      · refine g_iconst X (0 : Int32) dX6_readsPart_100 (by decide) ?_
        exact g_zret X hr hlk hSz hOld (Nat.le_refl _) dX6_readsPart_101 ⟨rfl, hw⟩
      · refine g_aload_n X dX6_readsPart_91 1 rfl ?_
        refine g_bipush X (47 : Int32) dX6_readsPart_92 (by decide) ?_
        refine g_calli (pc' := 97) (rest := []) rfl (fun H locs ls d qR qL => g_runV X cw_X6_159 iv_X6_isSign ⟨Nat.le_of_ble_eq_true rfl, Nat.le_of_ble_eq_true rfl⟩ dX6_readsPart_94 (c_X6_isSign l E n M59 t (47 : Int32) _ hw) hk1 rfl rfl (Nat.le_of_ble_eq_true rfl) ⟨Nat.le_of_ble_eq_true rfl, Nat.le_of_ble_eq_true rfl⟩ qR qL) (fun x63 M62 hw => ?_)
        refine g_if_ne X 102 dX6_readsPart_97 (by decide) hw (fun hw => ?_) (fun hw => ?_)
        · refine g_aload_n X dX6_readsPart_102 1 rfl ?_
          refine g_dup X dX6_readsPart_103 rfl ?_
          refine g_get X (iV (gI M62 t 10)) dX6_readsPart_104 fl_X6_153 (fun _ => rfl) ⟨hk1, hw⟩ (fun hw => ?_)
          refine g_iconst X (1 : Int32) dX6_readsPart_107 (by decide) ?_
          refine g_iadd X dX6_readsPart_108 ?_
          refine g_putI X dX6_readsPart_109 fl_X6_153 rfl (Or.inl rfl) ⟨hk1, hw⟩ (fun hw => ?_)
          refine g_topM (fun M64 hM64 => ?_)
          have hw := hw M64 hM64
          refine g_aload_n X dX6_readsPart_112 1 rfl ?_
          refine g_get X (rV (gR M64 t 12)) dX6_readsPart_113 fl_X6_33 (fun _ => rfl) ⟨hk1, hw⟩ (fun hw => ?_)
          refine g_topR (fun r65 hr65 => ?_)
          have hw := hw r65 hr65
          refine g_iload_n X dX6_readsPart_116 0 rfl ?_
          refine g_iconst X (2 : Int32) dX6_readsPart_117 (by decide) ?_
          refine g_iadd X dX6_readsPart_118 ?_
          refine g_aload_n X dX6_readsPart_119 1 rfl ?_
          refine g_iconst X (3 : Int32) dX6_readsPart_120 (by decide) ?_
          refine g_iconst X (1 : Int32) dX6_readsPart_121 (by decide) ?_
          refine g_calli (pc' := 125) (rest := [iV (x2 + (2 : Int32)), rV r65]) rfl (fun H locs ls d qR qL => g_runV X cw_X6_163 iv_X6_number ⟨Nat.le_of_ble_eq_true rfl, Nat.le_of_ble_eq_true rfl⟩ dX6_readsPart_122 (c_X6_number l E n M64 t (3 : Int32) (1 : Int32) _ hw) hk1 rfl rfl (Nat.le_of_ble_eq_true rfl) ⟨Nat.le_of_ble_eq_true rfl, Nat.le_of_ble_eq_true rfl⟩ qR qL) (fun x67 M66 hw => ?_)
          refine g_iast X dX6_readsPart_125 hw (fun hw => ?_)
          refine g_topM (fun M68 hM68 => ?_)
          have hw := hw M68 hM68
          refine g_aload_n X dX6_readsPart_126 1 rfl ?_
          refine g_get X (rV (gR M68 t 12)) dX6_readsPart_127 fl_X6_33 (fun _ => rfl) ⟨hk1, hw⟩ (fun hw => ?_)
          refine g_topR (fun r69 hr69 => ?_)
          have hw := hw r69 hr69
          refine g_iload_n X dX6_readsPart_130 0 rfl ?_
          refine g_iconst X (2 : Int32) dX6_readsPart_131 (by decide) ?_
          refine g_iadd X dX6_readsPart_132 ?_
          refine g_iald X dX6_readsPart_133 hw (fun hw => ?_)
          refine g_topI (fun x70 hx70 => ?_)
          have hw := hw x70 hx70
          refine g_bipush X (-5 : Int32) dX6_readsPart_134 (by decide) ?_
          refine g_icmp_ne X 141 dX6_readsPart_136 (by decide) hw (fun hw => ?_) (fun hw => ?_)
          · refine g_aload_n X dX6_readsPart_141 1 rfl ?_
            refine g_dup X dX6_readsPart_142 rfl ?_
            refine g_get X (iV (gI M68 t 11)) dX6_readsPart_143 fl_X6_156 (fun _ => rfl) ⟨hk1, hw⟩ (fun hw => ?_)
            refine g_iconst X (1 : Int32) dX6_readsPart_146 (by decide) ?_
            refine g_iadd X dX6_readsPart_147 ?_
            refine g_putI X dX6_readsPart_148 fl_X6_156 rfl (Or.inl rfl) ⟨hk1, hw⟩ (fun hw => ?_)
            refine g_topM (fun M71 hM71 => ?_)
            have hw := hw M71 hM71
            refine g_aload_n X dX6_readsPart_151 1 rfl ?_
            refine g_get X (iV (gI M71 t 10)) dX6_readsPart_152 fl_X6_153 (fun _ => rfl) ⟨hk1, hw⟩ (fun hw => ?_)
            refine g_aload_n X dX6_readsPart_155 1 rfl ?_
            refine g_get X (iV (gI M71 t 8)) dX6_readsPart_156 fl_X6_150 (fun _ => rfl) ⟨hk1, hw⟩ (fun hw => ?_)
            refine g_icmp_eq X 176 dX6_readsPart_159 (by decide) hw (fun hw => ?_) (fun hw => ?_)
            · refine g_iconst X (1 : Int32) dX6_readsPart_176 (by decide) ?_
              refine g_goto X 181 dX6_readsPart_177 (by decide) ?_
              exact g_zret X hr hlk hSz hOld (Nat.le_refl _) dX6_readsPart_181 ⟨rfl, hw⟩
            · refine g_aload_n X dX6_readsPart_162 1 rfl ?_
              refine g_get X (rV (gR M71 t 9)) dX6_readsPart_163 fl_X6_29 (fun _ => rfl) ⟨hk1, hw⟩ (fun hw => ?_)
              refine g_topR (fun r72 hr72 => ?_)
              have hw := hw r72 hr72
              refine g_aload_n X dX6_readsPart_166 1 rfl ?_
              refine g_get X (iV (gI M71 t 10)) dX6_readsPart_167 fl_X6_153 (fun _ => rfl) ⟨hk1, hw⟩ (fun hw => ?_)
              refine g_cald X dX6_readsPart_170 hw (fun hw => ?_)
              refine g_topI (fun x73 hx73 => ?_)
              have hw := hw x73 hx73
              refine g_bipush X (59 : Int32) dX6_readsPart_171 (by decide) ?_
              refine g_icmp_ne X 180 dX6_readsPart_173 (by decide) hw (fun hw => ?_) (fun hw => ?_)
              · refine g_iconst X (0 : Int32) dX6_readsPart_180 (by decide) ?_
                exact g_zret X hr hlk hSz hOld (Nat.le_refl _) dX6_readsPart_181 ⟨rfl, hw⟩
              · refine g_iconst X (1 : Int32) dX6_readsPart_176 (by decide) ?_
                refine g_goto X 181 dX6_readsPart_177 (by decide) ?_
                exact g_zret X hr hlk hSz hOld (Nat.le_refl _) dX6_readsPart_181 ⟨rfl, hw⟩
          · refine g_iconst X (0 : Int32) dX6_readsPart_139 (by decide) ?_
            exact g_zret X hr hlk hSz hOld (Nat.le_refl _) dX6_readsPart_140 ⟨rfl, hw⟩
        · refine g_iconst X (0 : Int32) dX6_readsPart_100 (by decide) ?_
          exact g_zret X hr hlk hSz hOld (Nat.le_refl _) dX6_readsPart_101 ⟨rfl, hw⟩
    · refine g_iconst X (0 : Int32) dX6_readsPart_52 (by decide) ?_
      exact g_zret X hr hlk hSz hOld (Nat.le_refl _) dX6_readsPart_53 ⟨rfl, hw⟩
theorem dX6_readParts_0 : decode cX6_readParts 0 = .ok (.aload_n 0, 1) := by decide +kernel
theorem dX6_readParts_1 : decode cX6_readParts 1 = .ok (.iconst 0, 1) := by decide +kernel
theorem dX6_readParts_2 : decode cX6_readParts 2 = .ok (.putfield 153, 3) := by decide +kernel
theorem dX6_readParts_5 : decode cX6_readParts 5 = .ok (.aload_n 0, 1) := by decide +kernel
theorem dX6_readParts_6 : decode cX6_readParts 6 = .ok (.iconst 0, 1) := by decide +kernel
theorem dX6_readParts_7 : decode cX6_readParts 7 = .ok (.putfield 156, 3) := by decide +kernel
theorem dX6_readParts_10 : decode cX6_readParts 10 = .ok (.iconst 1, 1) := by decide +kernel
theorem dX6_readParts_11 : decode cX6_readParts 11 = .ok (.istore_n 1, 1) := by decide +kernel
theorem dX6_readParts_12 : decode cX6_readParts 12 = .ok (.iload_n 1, 1) := by decide +kernel
theorem dX6_readParts_13 : decode cX6_readParts 13 = .ok (.ifCond .eq 56, 3) := by decide +kernel
theorem dX6_readParts_16 : decode cX6_readParts 16 = .ok (.aload_n 0, 1) := by decide +kernel
theorem dX6_readParts_17 : decode cX6_readParts 17 = .ok (.invokevirtual 166, 3) := by decide +kernel
theorem dX6_readParts_20 : decode cX6_readParts 20 = .ok (.ifCond .ne 11, 3) := by decide +kernel
theorem dX6_readParts_23 : decode cX6_readParts 23 = .ok (.bipush (-100), 2) := by decide +kernel
theorem dX6_readParts_25 : decode cX6_readParts 25 = .ok (.aload_n 0, 1) := by decide +kernel
theorem dX6_readParts_26 : decode cX6_readParts 26 = .ok (.getfield 153, 3) := by decide +kernel
theorem dX6_readParts_29 : decode cX6_readParts 29 = .ok (.isub, 1) := by decide +kernel
theorem dX6_readParts_30 : decode cX6_readParts 30 = .ok (.ireturn, 1) := by decide +kernel
theorem dX6_readParts_31 : decode cX6_readParts 31 = .ok (.aload_n 0, 1) := by decide +kernel
theorem dX6_readParts_32 : decode cX6_readParts 32 = .ok (.getfield 153, 3) := by decide +kernel
theorem dX6_readParts_35 : decode cX6_readParts 35 = .ok (.aload_n 0, 1) := by decide +kernel
theorem dX6_readParts_36 : decode cX6_readParts 36 = .ok (.getfield 150, 3) := by decide +kernel
theorem dX6_readParts_39 : decode cX6_readParts 39 = .ok (.if_icmp .ge 7, 3) := by decide +kernel
theorem dX6_readParts_42 : decode cX6_readParts 42 = .ok (.iconst 1, 1) := by decide +kernel
theorem dX6_readParts_43 : decode cX6_readParts 43 = .ok (.goto 4, 3) := by decide +kernel
theorem dX6_readParts_46 : decode cX6_readParts 46 = .ok (.iconst 0, 1) := by decide +kernel
theorem dX6_readParts_47 : decode cX6_readParts 47 = .ok (.istore_n 1, 1) := by decide +kernel
theorem dX6_readParts_48 : decode cX6_readParts 48 = .ok (.aload_n 0, 1) := by decide +kernel
theorem dX6_readParts_49 : decode cX6_readParts 49 = .ok (.dup, 1) := by decide +kernel
theorem dX6_readParts_50 : decode cX6_readParts 50 = .ok (.getfield 153, 3) := by decide +kernel
theorem dX6_readParts_53 : decode cX6_readParts 53 = .ok (.iload_n 1, 1) := by decide +kernel
theorem dX6_readParts_54 : decode cX6_readParts 54 = .ok (.ifCond .eq 7, 3) := by decide +kernel
theorem dX6_readParts_57 : decode cX6_readParts 57 = .ok (.iconst 1, 1) := by decide +kernel
theorem dX6_readParts_58 : decode cX6_readParts 58 = .ok (.goto 4, 3) := by decide +kernel
theorem dX6_readParts_61 : decode cX6_readParts 61 = .ok (.iconst 0, 1) := by decide +kernel
theorem dX6_readParts_62 : decode cX6_readParts 62 = .ok (.iadd, 1) := by decide +kernel
theorem dX6_readParts_63 : decode cX6_readParts 63 = .ok (.putfield 153, 3) := by decide +kernel
theorem dX6_readParts_66 : decode cX6_readParts 66 = .ok (.goto (-54), 3) := by decide +kernel
theorem dX6_readParts_69 : decode cX6_readParts 69 = .ok (.aload_n 0, 1) := by decide +kernel
theorem dX6_readParts_70 : decode cX6_readParts 70 = .ok (.getfield 7, 3) := by decide +kernel
theorem dX6_readParts_73 : decode cX6_readParts 73 = .ok (.iconst 2, 1) := by decide +kernel
theorem dX6_readParts_74 : decode cX6_readParts 74 = .ok (.iaload, 1) := by decide +kernel
theorem dX6_readParts_75 : decode cX6_readParts 75 = .ok (.aload_n 0, 1) := by decide +kernel
theorem dX6_readParts_76 : decode cX6_readParts 76 = .ok (.getfield 156, 3) := by decide +kernel
theorem dX6_readParts_79 : decode cX6_readParts 79 = .ok (.iadd, 1) := by decide +kernel
theorem dX6_readParts_80 : decode cX6_readParts 80 = .ok (.bipush 60, 2) := by decide +kernel
theorem dX6_readParts_82 : decode cX6_readParts 82 = .ok (.if_icmp .le 6, 3) := by decide +kernel
theorem dX6_readParts_85 : decode cX6_readParts 85 = .ok (.bipush (-3), 2) := by decide +kernel
theorem dX6_readParts_87 : decode cX6_readParts 87 = .ok (.ireturn, 1) := by decide +kernel
theorem dX6_readParts_88 : decode cX6_readParts 88 = .ok (.aload_n 0, 1) := by decide +kernel
theorem dX6_readParts_89 : decode cX6_readParts 89 = .ok (.invokevirtual 62, 3) := by decide +kernel
theorem dX6_readParts_92 : decode cX6_readParts 92 = .ok (.iconst 0, 1) := by decide +kernel
theorem dX6_readParts_93 : decode cX6_readParts 93 = .ok (.istore_n 2, 1) := by decide +kernel
theorem dX6_readParts_94 : decode cX6_readParts 94 = .ok (.iload_n 2, 1) := by decide +kernel
theorem dX6_readParts_95 : decode cX6_readParts 95 = .ok (.aload_n 0, 1) := by decide +kernel
theorem dX6_readParts_96 : decode cX6_readParts 96 = .ok (.getfield 156, 3) := by decide +kernel
theorem dX6_readParts_99 : decode cX6_readParts 99 = .ok (.if_icmp .ge 41, 3) := by decide +kernel
theorem dX6_readParts_102 : decode cX6_readParts 102 = .ok (.aload_n 0, 1) := by decide +kernel
theorem dX6_readParts_103 : decode cX6_readParts 103 = .ok (.aload_n 0, 1) := by decide +kernel
theorem dX6_readParts_104 : decode cX6_readParts 104 = .ok (.getfield 33, 3) := by decide +kernel
theorem dX6_readParts_107 : decode cX6_readParts 107 = .ok (.iconst 3, 1) := by decide +kernel
theorem dX6_readParts_108 : decode cX6_readParts 108 = .ok (.iload_n 2, 1) := by decide +kernel
theorem dX6_readParts_109 : decode cX6_readParts 109 = .ok (.imul, 1) := by decide +kernel
theorem dX6_readParts_110 : decode cX6_readParts 110 = .ok (.iaload, 1) := by decide +kernel
theorem dX6_readParts_111 : decode cX6_readParts 111 = .ok (.aload_n 0, 1) := by decide +kernel
theorem dX6_readParts_112 : decode cX6_readParts 112 = .ok (.getfield 33, 3) := by decide +kernel
theorem dX6_readParts_115 : decode cX6_readParts 115 = .ok (.iconst 3, 1) := by decide +kernel
theorem dX6_readParts_116 : decode cX6_readParts 116 = .ok (.iload_n 2, 1) := by decide +kernel
theorem dX6_readParts_117 : decode cX6_readParts 117 = .ok (.imul, 1) := by decide +kernel
theorem dX6_readParts_118 : decode cX6_readParts 118 = .ok (.iconst 1, 1) := by decide +kernel
theorem dX6_readParts_119 : decode cX6_readParts 119 = .ok (.iadd, 1) := by decide +kernel
theorem dX6_readParts_120 : decode cX6_readParts 120 = .ok (.iaload, 1) := by decide +kernel
theorem dX6_readParts_121 : decode cX6_readParts 121 = .ok (.aload_n 0, 1) := by decide +kernel
theorem dX6_readParts_122 : decode cX6_readParts 122 = .ok (.getfield 33, 3) := by decide +kernel
theorem dX6_readParts_125 : decode cX6_readParts 125 = .ok (.iconst 3, 1) := by decide +kernel
theorem dX6_readParts_126 : decode cX6_readParts 126 = .ok (.iload_n 2, 1) := by decide +kernel
theorem dX6_readParts_127 : decode cX6_readParts 127 = .ok (.imul, 1) := by decide +kernel
theorem dX6_readParts_128 : decode cX6_readParts 128 = .ok (.iconst 2, 1) := by decide +kernel
theorem dX6_readParts_129 : decode cX6_readParts 129 = .ok (.iadd, 1) := by decide +kernel
theorem dX6_readParts_130 : decode cX6_readParts 130 = .ok (.iaload, 1) := by decide +kernel
theorem dX6_readParts_131 : decode cX6_readParts 131 = .ok (.invokevirtual 105, 3) := by decide +kernel
theorem dX6_readParts_134 : decode cX6_readParts 134 = .ok (.iinc 2 1, 3) := by decide +kernel
theorem dX6_readParts_137 : decode cX6_readParts 137 = .ok (.goto (-43), 3) := by decide +kernel
theorem dX6_readParts_140 : decode cX6_readParts 140 = .ok (.aload_n 0, 1) := by decide +kernel
theorem dX6_readParts_141 : decode cX6_readParts 141 = .ok (.getfield 156, 3) := by decide +kernel
theorem dX6_readParts_144 : decode cX6_readParts 144 = .ok (.ireturn, 1) := by decide +kernel
abbrev rmX6_readParts : Room := { frames := 3, cells := 0, slots := 0, locals := 67 }
def w_X6_readParts_L94 (n : Nat) (K : Int32 → Mem → Prop) : Nat → Mem → Nat → Int32 → Prop
  | 0, _, _, _ => False
  | fuel + 1, M, o0, a2 => ((o0 ≤ n ∧ kd o0 = (6, 0)) ∧ (((gI M o0 11) ≤ a2 → K (gI M o0 11) M) ∧ (¬ (gI M o0 11) ≤ a2 → (∀ r9, r9 = gR M o0 12 → ((r9 ≤ n ∧ (kd r9).1 = 7 ∧ vp_in ((3 : Int32) * a2) (kd r9).2) ∧ (∀ x10, x10 = gI M r9 (Int32.toNatClampNeg ((3 : Int32) * a2)) → (∀ r11, r11 = gR M o0 12 → ((r11 ≤ n ∧ (kd r11).1 = 7 ∧ vp_in (((3 : Int32) * a2) + (1 : Int32)) (kd r11).2) ∧ (∀ x12, x12 = gI M r11 (Int32.toNatClampNeg (((3 : Int32) * a2) + (1 : Int32))) → (∀ r13, r13 = gR M o0 12 → ((r13 ≤ n ∧ (kd r13).1 = 7 ∧ vp_in (((3 : Int32) * a2) + (2 : Int32)) (kd r13).2) ∧ (∀ x14, x14 = gI M r13 (Int32.toNatClampNeg (((3 : Int32) * a2) + (2 : Int32))) → w_X6_adds n M o0 x10 x12 x14 (fun M15 => (∀ x16, x16 = a2 + (1 : Int32) → w_X6_readParts_L94 n K fuel M15 o0 x16))))))))))))))
def w_X6_readParts_L12 (n : Nat) (K : Int32 → Mem → Prop) : Nat → Mem → Nat → Int32 → Prop
  | 0, _, _, _ => False
  | fuel + 1, M, o0, a1 => ((a1 = 0 → ((o0 ≤ n ∧ kd o0 = (6, 0)) ∧ (∀ r5, r5 = gR M o0 0 → ((r5 ≤ n ∧ (kd r5).1 = 7 ∧ vp_in (2 : Int32) (kd r5).2) ∧ (∀ x6, x6 = gI M r5 (Int32.toNatClampNeg (2 : Int32)) → (((x6 + (gI M o0 11)) ≤ (60 : Int32) → w_X6_record n M o0  (fun M7 => w_X6_readParts_L94 n K 4000 M7 o0 (0 : Int32))) ∧ (¬ (x6 + (gI M o0 11)) ≤ (60 : Int32) → K (-3 : Int32) M))))))) ∧ (¬ a1 = 0 → ((o0 ≤ n ∧ kd o0 = (6, 0)) ∧ w_X6_readsPart n M o0  (fun x19 M18 => ((¬ x19 = 0 → (((gI M18 o0 8) ≤ (gI M18 o0 10) → (∀ M20, M20 = sI M18 o0 10 ((gI M18 o0 10) + (0 : Int32)) → w_X6_readParts_L12 n K fuel M20 o0 (0 : Int32))) ∧ (¬ (gI M18 o0 8) ≤ (gI M18 o0 10) → (∀ M21, M21 = sI M18 o0 10 ((gI M18 o0 10) + (1 : Int32)) → w_X6_readParts_L12 n K fuel M21 o0 (1 : Int32))))) ∧ (x19 = 0 → K ((-100 : Int32) - (gI M18 o0 10)) M18))))))
def w_X6_readParts (n : Nat) (M : Mem) (t : Nat) (K : Int32 → Mem → Prop) : Prop := ((t ≤ n ∧ kd t = (6, 0)) ∧ (∀ M2, M2 = sI M t 10 (0 : Int32) → (∀ M3, M3 = sI M2 t 11 (0 : Int32) → w_X6_readParts_L12 n K 4000 M3 t (1 : Int32))))
set_option maxHeartbeats 4000000 in
set_option maxRecDepth 20000 in
theorem c_X6_readParts (l : Launch) (E : Gl) (n : Nat) (M : Mem) (t : Nat) (K : Int32 → Mem → Prop) (hw : w_X6_readParts n M t K) : CT E l yX6_readParts cX6_readParts 3 (some .int) rmX6_readParts n M [rV t] (PI E n K) := by
  refine g_met l (by decide) (Nat.le_of_ble_eq_true rfl) ?_
  intro p e s m args below meth c X hr hlk hnm hSz hOld
  change CX E p s m c _ _ RX6 at X
  have L94 : ∀ (fuel : Nat) (M : Mem) (o0 : Nat) (a2 : Int32), w_X6_readParts_L94 n K fuel M o0 a2 → G E p l e rmX6_readParts s m args below meth c 3 n M 0 0 (MQD lw_cs below (PI E n K) args s rmX6_readParts.cells rmX6_readParts.slots (Ab E)) 94 [(0, rV o0), (2, iV a2)] [] := by
    intro fuel
    induction fuel with
    | zero => intro M o0 a2 hw; exact False.elim hw
    | succ fuel ih =>
      intro M o0 a2 hw
      unfold w_X6_readParts_L94 at hw
      refine g_iload_n X dX6_readParts_94 1 rfl ?_
      refine g_aload_n X dX6_readParts_95 0 rfl ?_
      obtain ⟨hk8, hw⟩ := hw
      refine g_get X (iV (gI M o0 11)) dX6_readParts_96 fl_X6_156 (fun _ => rfl) ⟨hk8, hw⟩ (fun hw => ?_)
      refine g_icmp_ge X 140 dX6_readParts_99 (by decide) hw (fun hw => ?_) (fun hw => ?_)
      · refine g_aload_n X dX6_readParts_140 0 rfl ?_
        refine g_get X (iV (gI M o0 11)) dX6_readParts_141 fl_X6_156 (fun _ => rfl) ⟨hk8, hw⟩ (fun hw => ?_)
        exact g_iret X hr hlk hSz hOld (Nat.le_refl _) dX6_readParts_144 hw
      · refine g_aload_n X dX6_readParts_102 0 rfl ?_
        refine g_aload_n X dX6_readParts_103 0 rfl ?_
        refine g_get X (rV (gR M o0 12)) dX6_readParts_104 fl_X6_33 (fun _ => rfl) ⟨hk8, hw⟩ (fun hw => ?_)
        refine g_topR (fun r9 hr9 => ?_)
        have hw := hw r9 hr9
        refine g_iconst X (3 : Int32) dX6_readParts_107 (by decide) ?_
        refine g_iload_n X dX6_readParts_108 1 rfl ?_
        refine g_imul X dX6_readParts_109 ?_
        refine g_iald X dX6_readParts_110 hw (fun hw => ?_)
        refine g_topI (fun x10 hx10 => ?_)
        have hw := hw x10 hx10
        refine g_aload_n X dX6_readParts_111 0 rfl ?_
        refine g_get X (rV (gR M o0 12)) dX6_readParts_112 fl_X6_33 (fun _ => rfl) ⟨hk8, hw⟩ (fun hw => ?_)
        refine g_topR (fun r11 hr11 => ?_)
        have hw := hw r11 hr11
        refine g_iconst X (3 : Int32) dX6_readParts_115 (by decide) ?_
        refine g_iload_n X dX6_readParts_116 1 rfl ?_
        refine g_imul X dX6_readParts_117 ?_
        refine g_iconst X (1 : Int32) dX6_readParts_118 (by decide) ?_
        refine g_iadd X dX6_readParts_119 ?_
        refine g_iald X dX6_readParts_120 hw (fun hw => ?_)
        refine g_topI (fun x12 hx12 => ?_)
        have hw := hw x12 hx12
        refine g_aload_n X dX6_readParts_121 0 rfl ?_
        refine g_get X (rV (gR M o0 12)) dX6_readParts_122 fl_X6_33 (fun _ => rfl) ⟨hk8, hw⟩ (fun hw => ?_)
        refine g_topR (fun r13 hr13 => ?_)
        have hw := hw r13 hr13
        refine g_iconst X (3 : Int32) dX6_readParts_125 (by decide) ?_
        refine g_iload_n X dX6_readParts_126 1 rfl ?_
        refine g_imul X dX6_readParts_127 ?_
        refine g_iconst X (2 : Int32) dX6_readParts_128 (by decide) ?_
        refine g_iadd X dX6_readParts_129 ?_
        refine g_iald X dX6_readParts_130 hw (fun hw => ?_)
        refine g_topI (fun x14 hx14 => ?_)
        have hw := hw x14 hx14
        refine g_callv (pc' := 134) (rest := []) rfl (fun H locs ls d qR qL => g_runV X cw_X6_105 iv_X6_adds ⟨Nat.le_of_ble_eq_true rfl, Nat.le_of_ble_eq_true rfl⟩ dX6_readParts_131 (c_X6_adds l E n M o0 x10 x12 x14 _ hw) hk8 rfl rfl (Nat.le_of_ble_eq_true rfl) ⟨Nat.le_of_ble_eq_true rfl, Nat.le_of_ble_eq_true rfl⟩ qR qL) (fun M15 hw => ?_)
        obtain ⟨x16, hx16⟩ : ∃ y : Int32, y = a2 + (1 : Int32) := ⟨_, rfl⟩
        have hw := hw x16 hx16
        refine g_iinc (lv' := [(2, iV x16), (0, rV o0)]) X x16 dX6_readParts_134 1 rfl (by rw [hx16]; rfl) (by decide) rfl ?_
        refine g_goto X 94 dX6_readParts_137 (by decide) ?_
        refine g_lvsub (lv' := [(0, rV o0), (2, iV x16)]) [1, 0] rfl ?_
        exact ih _ _ _ hw
  have L12 : ∀ (fuel : Nat) (M : Mem) (o0 : Nat) (a1 : Int32), w_X6_readParts_L12 n K fuel M o0 a1 → G E p l e rmX6_readParts s m args below meth c 3 n M 0 0 (MQD lw_cs below (PI E n K) args s rmX6_readParts.cells rmX6_readParts.slots (Ab E)) 12 [(0, rV o0), (1, iV a1)] [] := by
    intro fuel
    induction fuel with
    | zero => intro M o0 a1 hw; exact False.elim hw
    | succ fuel ih =>
      intro M o0 a1 hw
      unfold w_X6_readParts_L12 at hw
      refine g_iload_n X dX6_readParts_12 1 rfl ?_
      refine g_if_eq X 69 dX6_readParts_13 (by decide) hw (fun hw => ?_) (fun hw => ?_)
      · refine g_aload_n X dX6_readParts_69 0 rfl ?_
        obtain ⟨hk4, hw⟩ := hw
        refine g_get X (rV (gR M o0 0)) dX6_readParts_70 fl_X6_7 (fun _ => rfl) ⟨hk4, hw⟩ (fun hw => ?_)
        refine g_topR (fun r5 hr5 => ?_)
        have hw := hw r5 hr5
        refine g_iconst X (2 : Int32) dX6_readParts_73 (by decide) ?_
        refine g_iald X dX6_readParts_74 hw (fun hw => ?_)
        refine g_topI (fun x6 hx6 => ?_)
        have hw := hw x6 hx6
        refine g_aload_n X dX6_readParts_75 0 rfl ?_
        refine g_get X (iV (gI M o0 11)) dX6_readParts_76 fl_X6_156 (fun _ => rfl) ⟨hk4, hw⟩ (fun hw => ?_)
        refine g_iadd X dX6_readParts_79 ?_
        refine g_bipush X (60 : Int32) dX6_readParts_80 (by decide) ?_
        refine g_icmp_le X 88 dX6_readParts_82 (by decide) hw (fun hw => ?_) (fun hw => ?_)
        · refine g_aload_n X dX6_readParts_88 0 rfl ?_
          refine g_callv (pc' := 92) (rest := []) rfl (fun H locs ls d qR qL => g_runV X cw_X6_62 iv_X6_record ⟨Nat.le_of_ble_eq_true rfl, Nat.le_of_ble_eq_true rfl⟩ dX6_readParts_89 (c_X6_record l E n M o0  _ hw) hk4 rfl rfl (Nat.le_of_ble_eq_true rfl) ⟨Nat.le_of_ble_eq_true rfl, Nat.le_of_ble_eq_true rfl⟩ qR qL) (fun M7 hw => ?_)
          refine g_iconst X (0 : Int32) dX6_readParts_92 (by decide) ?_
          refine g_istore_n (lv' := [(2, iV (0 : Int32)), (0, rV o0), (1, iV a1)]) X dX6_readParts_93 (by decide) rfl ?_
          refine g_lvsub (lv' := [(0, rV o0), (2, iV (0 : Int32))]) [1, 0] rfl ?_
          exact L94 _ _ _ _ hw
        · refine g_bipush X (-3 : Int32) dX6_readParts_85 (by decide) ?_
          exact g_iret X hr hlk hSz hOld (Nat.le_refl _) dX6_readParts_87 hw
      · refine g_aload_n X dX6_readParts_16 0 rfl ?_
        obtain ⟨hk17, hw⟩ := hw
        refine g_calli (pc' := 20) (rest := []) rfl (fun H locs ls d qR qL => g_runV X cw_X6_166 iv_X6_readsPart ⟨Nat.le_of_ble_eq_true rfl, Nat.le_of_ble_eq_true rfl⟩ dX6_readParts_17 (c_X6_readsPart l E n M o0  _ hw) hk17 rfl rfl (Nat.le_of_ble_eq_true rfl) ⟨Nat.le_of_ble_eq_true rfl, Nat.le_of_ble_eq_true rfl⟩ qR qL) (fun x19 M18 hw => ?_)
        refine g_if_ne X 31 dX6_readParts_20 (by decide) hw (fun hw => ?_) (fun hw => ?_)
        · refine g_aload_n X dX6_readParts_31 0 rfl ?_
          refine g_get X (iV (gI M18 o0 10)) dX6_readParts_32 fl_X6_153 (fun _ => rfl) ⟨hk17, hw⟩ (fun hw => ?_)
          refine g_aload_n X dX6_readParts_35 0 rfl ?_
          refine g_get X (iV (gI M18 o0 8)) dX6_readParts_36 fl_X6_150 (fun _ => rfl) ⟨hk17, hw⟩ (fun hw => ?_)
          refine g_icmp_ge X 46 dX6_readParts_39 (by decide) hw (fun hw => ?_) (fun hw => ?_)
          · refine g_iconst X (0 : Int32) dX6_readParts_46 (by decide) ?_
            refine g_istore_n (lv' := [(1, iV (0 : Int32)), (0, rV o0)]) X dX6_readParts_47 (by decide) rfl ?_
            refine g_aload_n X dX6_readParts_48 1 rfl ?_
            refine g_dup X dX6_readParts_49 rfl ?_
            refine g_get X (iV (gI M18 o0 10)) dX6_readParts_50 fl_X6_153 (fun _ => rfl) ⟨hk17, hw⟩ (fun hw => ?_)
            refine g_iload_n X dX6_readParts_53 0 rfl ?_
            refine g_if_eq (B := False) X 61 dX6_readParts_54 (by decide) ⟨fun _ => hw, fun h => absurd h (by decide)⟩ (fun hw => ?_) (fun h => h.elim)
            refine g_iconst X (0 : Int32) dX6_readParts_61 (by decide) ?_
            refine g_iadd X dX6_readParts_62 ?_
            refine g_putI X dX6_readParts_63 fl_X6_153 rfl (Or.inl rfl) ⟨hk17, hw⟩ (fun hw => ?_)
            refine g_topM (fun M20 hM20 => ?_)
            have hw := hw M20 hM20
            refine g_goto X 12 dX6_readParts_66 (by decide) ?_
            refine g_lvsub (lv' := [(0, rV o0), (1, iV (0 : Int32))]) [1, 0] rfl ?_
            exact ih _ _ _ hw
          · refine g_iconst X (1 : Int32) dX6_readParts_42 (by decide) ?_
            refine g_goto X 47 dX6_readParts_43 (by decide) ?_
            refine g_istore_n (lv' := [(1, iV (1 : Int32)), (0, rV o0)]) X dX6_readParts_47 (by decide) rfl ?_
            refine g_aload_n X dX6_readParts_48 1 rfl ?_
            refine g_dup X dX6_readParts_49 rfl ?_
            refine g_get X (iV (gI M18 o0 10)) dX6_readParts_50 fl_X6_153 (fun _ => rfl) ⟨hk17, hw⟩ (fun hw => ?_)
            refine g_iload_n X dX6_readParts_53 0 rfl ?_
            refine g_if_eq (A := False) X 61 dX6_readParts_54 (by decide) ⟨fun h => absurd h (by decide), fun _ => hw⟩ (fun h => h.elim) (fun hw => ?_)
            refine g_iconst X (1 : Int32) dX6_readParts_57 (by decide) ?_
            refine g_goto X 62 dX6_readParts_58 (by decide) ?_
            refine g_iadd X dX6_readParts_62 ?_
            refine g_putI X dX6_readParts_63 fl_X6_153 rfl (Or.inl rfl) ⟨hk17, hw⟩ (fun hw => ?_)
            refine g_topM (fun M21 hM21 => ?_)
            have hw := hw M21 hM21
            refine g_goto X 12 dX6_readParts_66 (by decide) ?_
            refine g_lvsub (lv' := [(0, rV o0), (1, iV (1 : Int32))]) [1, 0] rfl ?_
            exact ih _ _ _ hw
        · refine g_bipush X (-100 : Int32) dX6_readParts_23 (by decide) ?_
          refine g_aload_n X dX6_readParts_25 0 rfl ?_
          refine g_get X (iV (gI M18 o0 10)) dX6_readParts_26 fl_X6_153 (fun _ => rfl) ⟨hk17, hw⟩ (fun hw => ?_)
          refine g_isub X dX6_readParts_29 ?_
          exact g_iret X hr hlk hSz hOld (Nat.le_refl _) dX6_readParts_30 hw
  unfold w_X6_readParts at hw
  refine g_aload_n X dX6_readParts_0 0 rfl ?_
  refine g_iconst X (0 : Int32) dX6_readParts_1 (by decide) ?_
  obtain ⟨hk1, hw⟩ := hw
  refine g_putI X dX6_readParts_2 fl_X6_153 rfl (Or.inl rfl) ⟨hk1, hw⟩ (fun hw => ?_)
  refine g_topM (fun M2 hM2 => ?_)
  have hw := hw M2 hM2
  refine g_aload_n X dX6_readParts_5 0 rfl ?_
  refine g_iconst X (0 : Int32) dX6_readParts_6 (by decide) ?_
  refine g_putI X dX6_readParts_7 fl_X6_156 rfl (Or.inl rfl) ⟨hk1, hw⟩ (fun hw => ?_)
  refine g_topM (fun M3 hM3 => ?_)
  have hw := hw M3 hM3
  refine g_iconst X (1 : Int32) dX6_readParts_10 (by decide) ?_
  refine g_istore_n (lv' := [(1, iV (1 : Int32)), (0, rV t)]) X dX6_readParts_11 (by decide) rfl ?_
  refine g_lvsub (lv' := [(0, rV t), (1, iV (1 : Int32))]) [1, 0] rfl ?_
  exact L12 _ _ _ _ hw
theorem dX6_isWord_0 : decode cX6_isWord 0 = .ok (.aload_n 0, 1) := by decide +kernel
theorem dX6_isWord_1 : decode cX6_isWord 1 = .ok (.getfield 150, 3) := by decide +kernel
theorem dX6_isWord_4 : decode cX6_isWord 4 = .ok (.iload_n 1, 1) := by decide +kernel
theorem dX6_isWord_5 : decode cX6_isWord 5 = .ok (.if_icmp .ne 49, 3) := by decide +kernel
theorem dX6_isWord_8 : decode cX6_isWord 8 = .ok (.aload_n 0, 1) := by decide +kernel
theorem dX6_isWord_9 : decode cX6_isWord 9 = .ok (.getfield 29, 3) := by decide +kernel
theorem dX6_isWord_12 : decode cX6_isWord 12 = .ok (.iconst 0, 1) := by decide +kernel
theorem dX6_isWord_13 : decode cX6_isWord 13 = .ok (.caload, 1) := by decide +kernel
theorem dX6_isWord_14 : decode cX6_isWord 14 = .ok (.iload_n 2, 1) := by decide +kernel
theorem dX6_isWord_15 : decode cX6_isWord 15 = .ok (.if_icmp .ne 39, 3) := by decide +kernel
theorem dX6_isWord_18 : decode cX6_isWord 18 = .ok (.aload_n 0, 1) := by decide +kernel
theorem dX6_isWord_19 : decode cX6_isWord 19 = .ok (.getfield 29, 3) := by decide +kernel
theorem dX6_isWord_22 : decode cX6_isWord 22 = .ok (.iconst 1, 1) := by decide +kernel
theorem dX6_isWord_23 : decode cX6_isWord 23 = .ok (.caload, 1) := by decide +kernel
theorem dX6_isWord_24 : decode cX6_isWord 24 = .ok (.iload_n 3, 1) := by decide +kernel
theorem dX6_isWord_25 : decode cX6_isWord 25 = .ok (.if_icmp .ne 29, 3) := by decide +kernel
theorem dX6_isWord_28 : decode cX6_isWord 28 = .ok (.aload_n 0, 1) := by decide +kernel
theorem dX6_isWord_29 : decode cX6_isWord 29 = .ok (.getfield 29, 3) := by decide +kernel
theorem dX6_isWord_32 : decode cX6_isWord 32 = .ok (.iconst 2, 1) := by decide +kernel
theorem dX6_isWord_33 : decode cX6_isWord 33 = .ok (.caload, 1) := by decide +kernel
theorem dX6_isWord_34 : decode cX6_isWord 34 = .ok (.iload 4, 2) := by decide +kernel
theorem dX6_isWord_36 : decode cX6_isWord 36 = .ok (.if_icmp .ne 18, 3) := by decide +kernel
theorem dX6_isWord_39 : decode cX6_isWord 39 = .ok (.aload_n 0, 1) := by decide +kernel
theorem dX6_isWord_40 : decode cX6_isWord 40 = .ok (.getfield 29, 3) := by decide +kernel
theorem dX6_isWord_43 : decode cX6_isWord 43 = .ok (.iconst 3, 1) := by decide +kernel
theorem dX6_isWord_44 : decode cX6_isWord 44 = .ok (.caload, 1) := by decide +kernel
theorem dX6_isWord_45 : decode cX6_isWord 45 = .ok (.iload 5, 2) := by decide +kernel
theorem dX6_isWord_47 : decode cX6_isWord 47 = .ok (.if_icmp .ne 7, 3) := by decide +kernel
theorem dX6_isWord_50 : decode cX6_isWord 50 = .ok (.iconst 1, 1) := by decide +kernel
theorem dX6_isWord_51 : decode cX6_isWord 51 = .ok (.goto 4, 3) := by decide +kernel
theorem dX6_isWord_54 : decode cX6_isWord 54 = .ok (.iconst 0, 1) := by decide +kernel
theorem dX6_isWord_55 : decode cX6_isWord 55 = .ok (.ireturn, 1) := by decide +kernel
abbrev rmX6_isWord : Room := { frames := 0, cells := 0, slots := 0, locals := 0 }
def w_X6_isWord (n : Nat) (M : Mem) (t : Nat) (p1 : Int32) (p2 : Int32) (p3 : Int32) (p4 : Int32) (p5 : Int32) (K : Int32 → Mem → Prop) : Prop := ((t ≤ n ∧ kd t = (6, 0)) ∧ ((¬ (gI M t 8) = p1 → K (0 : Int32) M) ∧ ((gI M t 8) = p1 → (∀ r2, r2 = gR M t 9 → ((r2 ≤ n ∧ (kd r2).1 = 9 ∧ vp_in (0 : Int32) (kd r2).2) ∧ (∀ x3, x3 = gI M r2 (Int32.toNatClampNeg (0 : Int32)) → ((¬ x3 = p2 → K (0 : Int32) M) ∧ (x3 = p2 → (∀ r4, r4 = gR M t 9 → ((r4 ≤ n ∧ (kd r4).1 = 9 ∧ vp_in (1 : Int32) (kd r4).2) ∧ (∀ x5, x5 = gI M r4 (Int32.toNatClampNeg (1 : Int32)) → ((¬ x5 = p3 → K (0 : Int32) M) ∧ (x5 = p3 → (∀ r6, r6 = gR M t 9 → ((r6 ≤ n ∧ (kd r6).1 = 9 ∧ vp_in (2 : Int32) (kd r6).2) ∧ (∀ x7, x7 = gI M r6 (Int32.toNatClampNeg (2 : Int32)) → ((¬ x7 = p4 → K (0 : Int32) M) ∧ (x7 = p4 → (∀ r8, r8 = gR M t 9 → ((r8 ≤ n ∧ (kd r8).1 = 9 ∧ vp_in (3 : Int32) (kd r8).2) ∧ (∀ x9, x9 = gI M r8 (Int32.toNatClampNeg (3 : Int32)) → ((¬ x9 = p5 → K (0 : Int32) M) ∧ (x9 = p5 → K (1 : Int32) M)))))))))))))))))))))))
set_option maxHeartbeats 4000000 in
set_option maxRecDepth 20000 in
theorem c_X6_isWord (l : Launch) (E : Gl) (n : Nat) (M : Mem) (t : Nat) (p1 : Int32) (p2 : Int32) (p3 : Int32) (p4 : Int32) (p5 : Int32) (K : Int32 → Mem → Prop) (hw : w_X6_isWord n M t p1 p2 p3 p4 p5 K) : CT E l yX6_isWord cX6_isWord 6 (some .boolean) rmX6_isWord n M [rV t, iV p1, iV p2, iV p3, iV p4, iV p5] (PI E n K) := by
  refine g_met l (by decide) (Nat.le_of_ble_eq_true rfl) ?_
  intro p e s m args below meth c X hr hlk hnm hSz hOld
  change CX E p s m c _ _ RX6 at X
  unfold w_X6_isWord at hw
  refine g_aload_n X dX6_isWord_0 0 rfl ?_
  obtain ⟨hk1, hw⟩ := hw
  refine g_get X (iV (gI M t 8)) dX6_isWord_1 fl_X6_150 (fun _ => rfl) ⟨hk1, hw⟩ (fun hw => ?_)
  refine g_iload_n X dX6_isWord_4 1 rfl ?_
  refine g_icmp_ne X 54 dX6_isWord_5 (by decide) hw (fun hw => ?_) (fun hw => ?_)
  · refine g_iconst X (0 : Int32) dX6_isWord_54 (by decide) ?_
    exact g_zret X hr hlk hSz hOld (Nat.le_refl _) dX6_isWord_55 ⟨rfl, hw⟩
  · refine g_aload_n X dX6_isWord_8 0 rfl ?_
    refine g_get X (rV (gR M t 9)) dX6_isWord_9 fl_X6_29 (fun _ => rfl) ⟨hk1, hw⟩ (fun hw => ?_)
    refine g_topR (fun r2 hr2 => ?_)
    have hw := hw r2 hr2
    refine g_iconst X (0 : Int32) dX6_isWord_12 (by decide) ?_
    refine g_cald X dX6_isWord_13 hw (fun hw => ?_)
    refine g_topI (fun x3 hx3 => ?_)
    have hw := hw x3 hx3
    refine g_iload_n X dX6_isWord_14 2 rfl ?_
    refine g_icmp_ne X 54 dX6_isWord_15 (by decide) hw (fun hw => ?_) (fun hw => ?_)
    · refine g_iconst X (0 : Int32) dX6_isWord_54 (by decide) ?_
      exact g_zret X hr hlk hSz hOld (Nat.le_refl _) dX6_isWord_55 ⟨rfl, hw⟩
    · refine g_aload_n X dX6_isWord_18 0 rfl ?_
      refine g_get X (rV (gR M t 9)) dX6_isWord_19 fl_X6_29 (fun _ => rfl) ⟨hk1, hw⟩ (fun hw => ?_)
      refine g_topR (fun r4 hr4 => ?_)
      have hw := hw r4 hr4
      refine g_iconst X (1 : Int32) dX6_isWord_22 (by decide) ?_
      refine g_cald X dX6_isWord_23 hw (fun hw => ?_)
      refine g_topI (fun x5 hx5 => ?_)
      have hw := hw x5 hx5
      refine g_iload_n X dX6_isWord_24 3 rfl ?_
      refine g_icmp_ne X 54 dX6_isWord_25 (by decide) hw (fun hw => ?_) (fun hw => ?_)
      · refine g_iconst X (0 : Int32) dX6_isWord_54 (by decide) ?_
        exact g_zret X hr hlk hSz hOld (Nat.le_refl _) dX6_isWord_55 ⟨rfl, hw⟩
      · refine g_aload_n X dX6_isWord_28 0 rfl ?_
        refine g_get X (rV (gR M t 9)) dX6_isWord_29 fl_X6_29 (fun _ => rfl) ⟨hk1, hw⟩ (fun hw => ?_)
        refine g_topR (fun r6 hr6 => ?_)
        have hw := hw r6 hr6
        refine g_iconst X (2 : Int32) dX6_isWord_32 (by decide) ?_
        refine g_cald X dX6_isWord_33 hw (fun hw => ?_)
        refine g_topI (fun x7 hx7 => ?_)
        have hw := hw x7 hx7
        refine g_iload X dX6_isWord_34 4 rfl ?_
        refine g_icmp_ne X 54 dX6_isWord_36 (by decide) hw (fun hw => ?_) (fun hw => ?_)
        · refine g_iconst X (0 : Int32) dX6_isWord_54 (by decide) ?_
          exact g_zret X hr hlk hSz hOld (Nat.le_refl _) dX6_isWord_55 ⟨rfl, hw⟩
        · refine g_aload_n X dX6_isWord_39 0 rfl ?_
          refine g_get X (rV (gR M t 9)) dX6_isWord_40 fl_X6_29 (fun _ => rfl) ⟨hk1, hw⟩ (fun hw => ?_)
          refine g_topR (fun r8 hr8 => ?_)
          have hw := hw r8 hr8
          refine g_iconst X (3 : Int32) dX6_isWord_43 (by decide) ?_
          refine g_cald X dX6_isWord_44 hw (fun hw => ?_)
          refine g_topI (fun x9 hx9 => ?_)
          have hw := hw x9 hx9
          refine g_iload X dX6_isWord_45 5 rfl ?_
          refine g_icmp_ne X 54 dX6_isWord_47 (by decide) hw (fun hw => ?_) (fun hw => ?_)
          · refine g_iconst X (0 : Int32) dX6_isWord_54 (by decide) ?_
            exact g_zret X hr hlk hSz hOld (Nat.le_refl _) dX6_isWord_55 ⟨rfl, hw⟩
          · refine g_iconst X (1 : Int32) dX6_isWord_50 (by decide) ?_
            refine g_goto X 55 dX6_isWord_51 (by decide) ?_
            exact g_zret X hr hlk hSz hOld (Nat.le_refl _) dX6_isWord_55 ⟨rfl, hw⟩
theorem dX6_onHeads_0 : decode cX6_onHeads 0 = .ok (.iconst 0, 1) := by decide +kernel
theorem dX6_onHeads_1 : decode cX6_onHeads 1 = .ok (.istore_n 1, 1) := by decide +kernel
theorem dX6_onHeads_2 : decode cX6_onHeads 2 = .ok (.iconst 0, 1) := by decide +kernel
theorem dX6_onHeads_3 : decode cX6_onHeads 3 = .ok (.istore_n 2, 1) := by decide +kernel
theorem dX6_onHeads_4 : decode cX6_onHeads 4 = .ok (.iload_n 2, 1) := by decide +kernel
theorem dX6_onHeads_5 : decode cX6_onHeads 5 = .ok (.aload_n 0, 1) := by decide +kernel
theorem dX6_onHeads_6 : decode cX6_onHeads 6 = .ok (.getfield 7, 3) := by decide +kernel
theorem dX6_onHeads_9 : decode cX6_onHeads 9 = .ok (.iconst 0, 1) := by decide +kernel
theorem dX6_onHeads_10 : decode cX6_onHeads 10 = .ok (.iaload, 1) := by decide +kernel
theorem dX6_onHeads_11 : decode cX6_onHeads 11 = .ok (.if_icmp .ge 25, 3) := by decide +kernel
theorem dX6_onHeads_14 : decode cX6_onHeads 14 = .ok (.iload_n 1, 1) := by decide +kernel
theorem dX6_onHeads_15 : decode cX6_onHeads 15 = .ok (.aload_n 0, 1) := by decide +kernel
theorem dX6_onHeads_16 : decode cX6_onHeads 16 = .ok (.iload_n 2, 1) := by decide +kernel
theorem dX6_onHeads_17 : decode cX6_onHeads 17 = .ok (.invokevirtual 82, 3) := by decide +kernel
theorem dX6_onHeads_20 : decode cX6_onHeads 20 = .ok (.ifCond .lt 7, 3) := by decide +kernel
theorem dX6_onHeads_23 : decode cX6_onHeads 23 = .ok (.iconst 1, 1) := by decide +kernel
theorem dX6_onHeads_24 : decode cX6_onHeads 24 = .ok (.goto 4, 3) := by decide +kernel
theorem dX6_onHeads_27 : decode cX6_onHeads 27 = .ok (.iconst 0, 1) := by decide +kernel
theorem dX6_onHeads_28 : decode cX6_onHeads 28 = .ok (.iadd, 1) := by decide +kernel
theorem dX6_onHeads_29 : decode cX6_onHeads 29 = .ok (.istore_n 1, 1) := by decide +kernel
theorem dX6_onHeads_30 : decode cX6_onHeads 30 = .ok (.iinc 2 1, 3) := by decide +kernel
theorem dX6_onHeads_33 : decode cX6_onHeads 33 = .ok (.goto (-29), 3) := by decide +kernel
theorem dX6_onHeads_36 : decode cX6_onHeads 36 = .ok (.iload_n 1, 1) := by decide +kernel
theorem dX6_onHeads_37 : decode cX6_onHeads 37 = .ok (.ireturn, 1) := by decide +kernel
abbrev rmX6_onHeads : Room := { frames := 2, cells := 0, slots := 0, locals := 43 }
def w_X6_onHeads_L4 (n : Nat) (K : Int32 → Mem → Prop) : Nat → Mem → Nat → Int32 → Int32 → Prop
  | 0, _, _, _, _ => False
  | fuel + 1, M, o0, a1, a2 => ((o0 ≤ n ∧ kd o0 = (6, 0)) ∧ (∀ r2, r2 = gR M o0 0 → ((r2 ≤ n ∧ (kd r2).1 = 7 ∧ vp_in (0 : Int32) (kd r2).2) ∧ (∀ x3, x3 = gI M r2 (Int32.toNatClampNeg (0 : Int32)) → ((x3 ≤ a2 → K a1 M) ∧ (¬ x3 ≤ a2 → w_X6_partOn n M o0 a2 (fun x5 M4 => ((x5 < 0 → (∀ x6, x6 = a1 + (0 : Int32) → (∀ x7, x7 = a2 + (1 : Int32) → w_X6_onHeads_L4 n K fuel M4 o0 x6 x7))) ∧ (¬ x5 < 0 → (∀ x8, x8 = a1 + (1 : Int32) → (∀ x9, x9 = a2 + (1 : Int32) → w_X6_onHeads_L4 n K fuel M4 o0 x8 x9)))))))))))
def w_X6_onHeads (n : Nat) (M : Mem) (t : Nat) (K : Int32 → Mem → Prop) : Prop := w_X6_onHeads_L4 n K 4000 M t (0 : Int32) (0 : Int32)
set_option maxHeartbeats 4000000 in
set_option maxRecDepth 20000 in
theorem c_X6_onHeads (l : Launch) (E : Gl) (n : Nat) (M : Mem) (t : Nat) (K : Int32 → Mem → Prop) (hw : w_X6_onHeads n M t K) : CT E l yX6_onHeads cX6_onHeads 3 (some .int) rmX6_onHeads n M [rV t] (PI E n K) := by
  refine g_met l (by decide) (Nat.le_of_ble_eq_true rfl) ?_
  intro p e s m args below meth c X hr hlk hnm hSz hOld
  change CX E p s m c _ _ RX6 at X
  have L4 : ∀ (fuel : Nat) (M : Mem) (o0 : Nat) (a1 : Int32) (a2 : Int32), w_X6_onHeads_L4 n K fuel M o0 a1 a2 → G E p l e rmX6_onHeads s m args below meth c 3 n M 0 0 (MQD lw_cs below (PI E n K) args s rmX6_onHeads.cells rmX6_onHeads.slots (Ab E)) 4 [(0, rV o0), (1, iV a1), (2, iV a2)] [] := by
    intro fuel
    induction fuel with
    | zero => intro M o0 a1 a2 hw; exact False.elim hw
    | succ fuel ih =>
      intro M o0 a1 a2 hw
      unfold w_X6_onHeads_L4 at hw
      refine g_iload_n X dX6_onHeads_4 2 rfl ?_
      refine g_aload_n X dX6_onHeads_5 0 rfl ?_
      obtain ⟨hk1, hw⟩ := hw
      refine g_get X (rV (gR M o0 0)) dX6_onHeads_6 fl_X6_7 (fun _ => rfl) ⟨hk1, hw⟩ (fun hw => ?_)
      refine g_topR (fun r2 hr2 => ?_)
      have hw := hw r2 hr2
      refine g_iconst X (0 : Int32) dX6_onHeads_9 (by decide) ?_
      refine g_iald X dX6_onHeads_10 hw (fun hw => ?_)
      refine g_topI (fun x3 hx3 => ?_)
      have hw := hw x3 hx3
      refine g_icmp_ge X 36 dX6_onHeads_11 (by decide) hw (fun hw => ?_) (fun hw => ?_)
      · refine g_iload_n X dX6_onHeads_36 1 rfl ?_
        exact g_iret X hr hlk hSz hOld (Nat.le_refl _) dX6_onHeads_37 hw
      · refine g_iload_n X dX6_onHeads_14 1 rfl ?_
        refine g_aload_n X dX6_onHeads_15 0 rfl ?_
        refine g_iload_n X dX6_onHeads_16 2 rfl ?_
        refine g_calli (pc' := 20) (rest := [iV a1]) rfl (fun H locs ls d qR qL => g_runV X cw_X6_82 iv_X6_partOn ⟨Nat.le_of_ble_eq_true rfl, Nat.le_of_ble_eq_true rfl⟩ dX6_onHeads_17 (c_X6_partOn l E n M o0 a2 _ hw) hk1 rfl rfl (Nat.le_of_ble_eq_true rfl) ⟨Nat.le_of_ble_eq_true rfl, Nat.le_of_ble_eq_true rfl⟩ qR qL) (fun x5 M4 hw => ?_)
        refine g_if_lt X 27 dX6_onHeads_20 (by decide) hw (fun hw => ?_) (fun hw => ?_)
        · refine g_iconst X (0 : Int32) dX6_onHeads_27 (by decide) ?_
          refine g_iadd X dX6_onHeads_28 ?_
          refine g_topI (fun x6 hx6 => ?_)
          have hw := hw x6 hx6
          refine g_istore_n (lv' := [(1, iV x6), (0, rV o0), (2, iV a2)]) X dX6_onHeads_29 (by decide) rfl ?_
          obtain ⟨x7, hx7⟩ : ∃ y : Int32, y = a2 + (1 : Int32) := ⟨_, rfl⟩
          have hw := hw x7 hx7
          refine g_iinc (lv' := [(2, iV x7), (1, iV x6), (0, rV o0)]) X x7 dX6_onHeads_30 2 rfl (by rw [hx7]; rfl) (by decide) rfl ?_
          refine g_goto X 4 dX6_onHeads_33 (by decide) ?_
          refine g_lvsub (lv' := [(0, rV o0), (1, iV x6), (2, iV x7)]) [2, 1, 0] rfl ?_
          exact ih _ _ _ _ hw
        · refine g_iconst X (1 : Int32) dX6_onHeads_23 (by decide) ?_
          refine g_goto X 28 dX6_onHeads_24 (by decide) ?_
          refine g_iadd X dX6_onHeads_28 ?_
          refine g_topI (fun x8 hx8 => ?_)
          have hw := hw x8 hx8
          refine g_istore_n (lv' := [(1, iV x8), (0, rV o0), (2, iV a2)]) X dX6_onHeads_29 (by decide) rfl ?_
          obtain ⟨x9, hx9⟩ : ∃ y : Int32, y = a2 + (1 : Int32) := ⟨_, rfl⟩
          have hw := hw x9 hx9
          refine g_iinc (lv' := [(2, iV x9), (1, iV x8), (0, rV o0)]) X x9 dX6_onHeads_30 2 rfl (by rw [hx9]; rfl) (by decide) rfl ?_
          refine g_goto X 4 dX6_onHeads_33 (by decide) ?_
          refine g_lvsub (lv' := [(0, rV o0), (1, iV x8), (2, iV x9)]) [2, 1, 0] rfl ?_
          exact ih _ _ _ _ hw
  unfold w_X6_onHeads at hw
  refine g_iconst X (0 : Int32) dX6_onHeads_0 (by decide) ?_
  refine g_istore_n (lv' := [(1, iV (0 : Int32)), (0, rV t)]) X dX6_onHeads_1 (by decide) rfl ?_
  refine g_iconst X (0 : Int32) dX6_onHeads_2 (by decide) ?_
  refine g_istore_n (lv' := [(2, iV (0 : Int32)), (1, iV (0 : Int32)), (0, rV t)]) X dX6_onHeads_3 (by decide) rfl ?_
  refine g_lvsub (lv' := [(0, rV t), (1, iV (0 : Int32)), (2, iV (0 : Int32))]) [2, 1, 0] rfl ?_
  exact L4 _ _ _ _ _ hw
theorem dX6_stops_0 : decode cX6_stops 0 = .ok (.aload_n 0, 1) := by decide +kernel
theorem dX6_stops_1 : decode cX6_stops 1 = .ok (.getfield 7, 3) := by decide +kernel
theorem dX6_stops_4 : decode cX6_stops 4 = .ok (.bipush 11, 2) := by decide +kernel
theorem dX6_stops_6 : decode cX6_stops 6 = .ok (.iaload, 1) := by decide +kernel
theorem dX6_stops_7 : decode cX6_stops 7 = .ok (.istore_n 1, 1) := by decide +kernel
theorem dX6_stops_8 : decode cX6_stops 8 = .ok (.iload_n 1, 1) := by decide +kernel
theorem dX6_stops_9 : decode cX6_stops 9 = .ok (.ifCond .ne 6, 3) := by decide +kernel
theorem dX6_stops_12 : decode cX6_stops 12 = .ok (.bipush (-5), 2) := by decide +kernel
theorem dX6_stops_14 : decode cX6_stops 14 = .ok (.ireturn, 1) := by decide +kernel
theorem dX6_stops_15 : decode cX6_stops 15 = .ok (.aload_n 0, 1) := by decide +kernel
theorem dX6_stops_16 : decode cX6_stops 16 = .ok (.invokevirtual 62, 3) := by decide +kernel
theorem dX6_stops_19 : decode cX6_stops 19 = .ok (.iconst 0, 1) := by decide +kernel
theorem dX6_stops_20 : decode cX6_stops 20 = .ok (.istore_n 2, 1) := by decide +kernel
theorem dX6_stops_21 : decode cX6_stops 21 = .ok (.iload_n 2, 1) := by decide +kernel
theorem dX6_stops_22 : decode cX6_stops 22 = .ok (.iload_n 1, 1) := by decide +kernel
theorem dX6_stops_23 : decode cX6_stops 23 = .ok (.if_icmp .ge 24, 3) := by decide +kernel
theorem dX6_stops_26 : decode cX6_stops 26 = .ok (.aload_n 0, 1) := by decide +kernel
theorem dX6_stops_27 : decode cX6_stops 27 = .ok (.aload_n 0, 1) := by decide +kernel
theorem dX6_stops_28 : decode cX6_stops 28 = .ok (.getfield 7, 3) := by decide +kernel
theorem dX6_stops_31 : decode cX6_stops 31 = .ok (.sipush 572, 3) := by decide +kernel
theorem dX6_stops_34 : decode cX6_stops 34 = .ok (.iload_n 2, 1) := by decide +kernel
theorem dX6_stops_35 : decode cX6_stops 35 = .ok (.iadd, 1) := by decide +kernel
theorem dX6_stops_36 : decode cX6_stops 36 = .ok (.iaload, 1) := by decide +kernel
theorem dX6_stops_37 : decode cX6_stops 37 = .ok (.iconst 5, 1) := by decide +kernel
theorem dX6_stops_38 : decode cX6_stops 38 = .ok (.invokevirtual 127, 3) := by decide +kernel
theorem dX6_stops_41 : decode cX6_stops 41 = .ok (.iinc 2 1, 3) := by decide +kernel
theorem dX6_stops_44 : decode cX6_stops 44 = .ok (.goto (-23), 3) := by decide +kernel
theorem dX6_stops_47 : decode cX6_stops 47 = .ok (.aload_n 0, 1) := by decide +kernel
theorem dX6_stops_48 : decode cX6_stops 48 = .ok (.getfield 7, 3) := by decide +kernel
theorem dX6_stops_51 : decode cX6_stops 51 = .ok (.bipush 11, 2) := by decide +kernel
theorem dX6_stops_53 : decode cX6_stops 53 = .ok (.iconst 0, 1) := by decide +kernel
theorem dX6_stops_54 : decode cX6_stops 54 = .ok (.iastore, 1) := by decide +kernel
theorem dX6_stops_55 : decode cX6_stops 55 = .ok (.iload_n 1, 1) := by decide +kernel
theorem dX6_stops_56 : decode cX6_stops 56 = .ok (.ireturn, 1) := by decide +kernel
abbrev rmX6_stops : Room := { frames := 2, cells := 0, slots := 0, locals := 45 }
def w_X6_stops_L21 (n : Nat) (K : Int32 → Mem → Prop) : Nat → Mem → Nat → Int32 → Int32 → Prop
  | 0, _, _, _, _ => False
  | fuel + 1, M, o0, a1, a2 => ((a1 ≤ a2 → ((o0 ≤ n ∧ kd o0 = (6, 0)) ∧ (∀ r6, r6 = gR M o0 0 → ((r6 ≤ n ∧ (kd r6).1 = 7 ∧ vp_in (11 : Int32) (kd r6).2) ∧ (∀ M7, M7 = sI M r6 (Int32.toNatClampNeg (11 : Int32)) (0 : Int32) → K a1 M7))))) ∧ (¬ a1 ≤ a2 → ((o0 ≤ n ∧ kd o0 = (6, 0)) ∧ (∀ r9, r9 = gR M o0 0 → ((r9 ≤ n ∧ (kd r9).1 = 7 ∧ vp_in ((572 : Int32) + a2) (kd r9).2) ∧ (∀ x10, x10 = gI M r9 (Int32.toNatClampNeg ((572 : Int32) + a2)) → w_X6_rejects n M o0 x10 (5 : Int32) (fun M11 => (∀ x12, x12 = a2 + (1 : Int32) → w_X6_stops_L21 n K fuel M11 o0 a1 x12))))))))
def w_X6_stops (n : Nat) (M : Mem) (t : Nat) (K : Int32 → Mem → Prop) : Prop := ((t ≤ n ∧ kd t = (6, 0)) ∧ (∀ r2, r2 = gR M t 0 → ((r2 ≤ n ∧ (kd r2).1 = 7 ∧ vp_in (11 : Int32) (kd r2).2) ∧ (∀ x3, x3 = gI M r2 (Int32.toNatClampNeg (11 : Int32)) → ((¬ x3 = 0 → w_X6_record n M t  (fun M4 => w_X6_stops_L21 n K 4000 M4 t x3 (0 : Int32))) ∧ (x3 = 0 → K (-5 : Int32) M))))))
set_option maxHeartbeats 4000000 in
set_option maxRecDepth 20000 in
theorem c_X6_stops (l : Launch) (E : Gl) (n : Nat) (M : Mem) (t : Nat) (K : Int32 → Mem → Prop) (hw : w_X6_stops n M t K) : CT E l yX6_stops cX6_stops 3 (some .int) rmX6_stops n M [rV t] (PI E n K) := by
  refine g_met l (by decide) (Nat.le_of_ble_eq_true rfl) ?_
  intro p e s m args below meth c X hr hlk hnm hSz hOld
  change CX E p s m c _ _ RX6 at X
  have L21 : ∀ (fuel : Nat) (M : Mem) (o0 : Nat) (a1 : Int32) (a2 : Int32), w_X6_stops_L21 n K fuel M o0 a1 a2 → G E p l e rmX6_stops s m args below meth c 3 n M 0 0 (MQD lw_cs below (PI E n K) args s rmX6_stops.cells rmX6_stops.slots (Ab E)) 21 [(0, rV o0), (1, iV a1), (2, iV a2)] [] := by
    intro fuel
    induction fuel with
    | zero => intro M o0 a1 a2 hw; exact False.elim hw
    | succ fuel ih =>
      intro M o0 a1 a2 hw
      unfold w_X6_stops_L21 at hw
      refine g_iload_n X dX6_stops_21 2 rfl ?_
      refine g_iload_n X dX6_stops_22 1 rfl ?_
      refine g_icmp_ge X 47 dX6_stops_23 (by decide) hw (fun hw => ?_) (fun hw => ?_)
      · refine g_aload_n X dX6_stops_47 0 rfl ?_
        obtain ⟨hk5, hw⟩ := hw
        refine g_get X (rV (gR M o0 0)) dX6_stops_48 fl_X6_7 (fun _ => rfl) ⟨hk5, hw⟩ (fun hw => ?_)
        refine g_topR (fun r6 hr6 => ?_)
        have hw := hw r6 hr6
        refine g_bipush X (11 : Int32) dX6_stops_51 (by decide) ?_
        refine g_iconst X (0 : Int32) dX6_stops_53 (by decide) ?_
        refine g_iast X dX6_stops_54 hw (fun hw => ?_)
        refine g_topM (fun M7 hM7 => ?_)
        have hw := hw M7 hM7
        refine g_iload_n X dX6_stops_55 1 rfl ?_
        exact g_iret X hr hlk hSz hOld (Nat.le_refl _) dX6_stops_56 hw
      · refine g_aload_n X dX6_stops_26 0 rfl ?_
        refine g_aload_n X dX6_stops_27 0 rfl ?_
        obtain ⟨hk8, hw⟩ := hw
        refine g_get X (rV (gR M o0 0)) dX6_stops_28 fl_X6_7 (fun _ => rfl) ⟨hk8, hw⟩ (fun hw => ?_)
        refine g_topR (fun r9 hr9 => ?_)
        have hw := hw r9 hr9
        refine g_sipush X (572 : Int32) dX6_stops_31 (by decide) ?_
        refine g_iload_n X dX6_stops_34 2 rfl ?_
        refine g_iadd X dX6_stops_35 ?_
        refine g_iald X dX6_stops_36 hw (fun hw => ?_)
        refine g_topI (fun x10 hx10 => ?_)
        have hw := hw x10 hx10
        refine g_iconst X (5 : Int32) dX6_stops_37 (by decide) ?_
        refine g_callv (pc' := 41) (rest := []) rfl (fun H locs ls d qR qL => g_runV X cw_X6_127 iv_X6_rejects ⟨Nat.le_of_ble_eq_true rfl, Nat.le_of_ble_eq_true rfl⟩ dX6_stops_38 (c_X6_rejects l E n M o0 x10 (5 : Int32) _ hw) hk8 rfl rfl (Nat.le_of_ble_eq_true rfl) ⟨Nat.le_of_ble_eq_true rfl, Nat.le_of_ble_eq_true rfl⟩ qR qL) (fun M11 hw => ?_)
        obtain ⟨x12, hx12⟩ : ∃ y : Int32, y = a2 + (1 : Int32) := ⟨_, rfl⟩
        have hw := hw x12 hx12
        refine g_iinc (lv' := [(2, iV x12), (0, rV o0), (1, iV a1)]) X x12 dX6_stops_41 2 rfl (by rw [hx12]; rfl) (by decide) rfl ?_
        refine g_goto X 21 dX6_stops_44 (by decide) ?_
        refine g_lvsub (lv' := [(0, rV o0), (1, iV a1), (2, iV x12)]) [1, 2, 0] rfl ?_
        exact ih _ _ _ _ hw
  unfold w_X6_stops at hw
  refine g_aload_n X dX6_stops_0 0 rfl ?_
  obtain ⟨hk1, hw⟩ := hw
  refine g_get X (rV (gR M t 0)) dX6_stops_1 fl_X6_7 (fun _ => rfl) ⟨hk1, hw⟩ (fun hw => ?_)
  refine g_topR (fun r2 hr2 => ?_)
  have hw := hw r2 hr2
  refine g_bipush X (11 : Int32) dX6_stops_4 (by decide) ?_
  refine g_iald X dX6_stops_6 hw (fun hw => ?_)
  refine g_topI (fun x3 hx3 => ?_)
  have hw := hw x3 hx3
  refine g_istore_n (lv' := [(1, iV x3), (0, rV t)]) X dX6_stops_7 (by decide) rfl ?_
  refine g_iload_n X dX6_stops_8 0 rfl ?_
  refine g_if_ne X 15 dX6_stops_9 (by decide) hw (fun hw => ?_) (fun hw => ?_)
  · refine g_aload_n X dX6_stops_15 1 rfl ?_
    refine g_callv (pc' := 19) (rest := []) rfl (fun H locs ls d qR qL => g_runV X cw_X6_62 iv_X6_record ⟨Nat.le_of_ble_eq_true rfl, Nat.le_of_ble_eq_true rfl⟩ dX6_stops_16 (c_X6_record l E n M t  _ hw) hk1 rfl rfl (Nat.le_of_ble_eq_true rfl) ⟨Nat.le_of_ble_eq_true rfl, Nat.le_of_ble_eq_true rfl⟩ qR qL) (fun M4 hw => ?_)
    refine g_iconst X (0 : Int32) dX6_stops_19 (by decide) ?_
    refine g_istore_n (lv' := [(2, iV (0 : Int32)), (1, iV x3), (0, rV t)]) X dX6_stops_20 (by decide) rfl ?_
    refine g_lvsub (lv' := [(0, rV t), (1, iV x3), (2, iV (0 : Int32))]) [2, 1, 0] rfl ?_
    exact L21 _ _ _ _ _ hw
  · refine g_bipush X (-5 : Int32) dX6_stops_12 (by decide) ?_
    exact g_iret X hr hlk hSz hOld (Nat.le_refl _) dX6_stops_14 hw
theorem dX6_clears_0 : decode cX6_clears 0 = .ok (.aload_n 0, 1) := by decide +kernel
theorem dX6_clears_1 : decode cX6_clears 1 = .ok (.invokevirtual 170, 3) := by decide +kernel
theorem dX6_clears_4 : decode cX6_clears 4 = .ok (.istore_n 1, 1) := by decide +kernel
theorem dX6_clears_5 : decode cX6_clears 5 = .ok (.iload_n 1, 1) := by decide +kernel
theorem dX6_clears_6 : decode cX6_clears 6 = .ok (.ifCond .ne 6, 3) := by decide +kernel
theorem dX6_clears_9 : decode cX6_clears 9 = .ok (.bipush (-5), 2) := by decide +kernel
theorem dX6_clears_11 : decode cX6_clears 11 = .ok (.ireturn, 1) := by decide +kernel
theorem dX6_clears_12 : decode cX6_clears 12 = .ok (.aload_n 0, 1) := by decide +kernel
theorem dX6_clears_13 : decode cX6_clears 13 = .ok (.invokevirtual 62, 3) := by decide +kernel
theorem dX6_clears_16 : decode cX6_clears 16 = .ok (.aload_n 0, 1) := by decide +kernel
theorem dX6_clears_17 : decode cX6_clears 17 = .ok (.getfield 7, 3) := by decide +kernel
theorem dX6_clears_20 : decode cX6_clears 20 = .ok (.iconst 0, 1) := by decide +kernel
theorem dX6_clears_21 : decode cX6_clears 21 = .ok (.iaload, 1) := by decide +kernel
theorem dX6_clears_22 : decode cX6_clears 22 = .ok (.iconst 1, 1) := by decide +kernel
theorem dX6_clears_23 : decode cX6_clears 23 = .ok (.isub, 1) := by decide +kernel
theorem dX6_clears_24 : decode cX6_clears 24 = .ok (.istore_n 2, 1) := by decide +kernel
theorem dX6_clears_25 : decode cX6_clears 25 = .ok (.iload_n 2, 1) := by decide +kernel
theorem dX6_clears_26 : decode cX6_clears 26 = .ok (.ifCond .lt 41, 3) := by decide +kernel
theorem dX6_clears_29 : decode cX6_clears 29 = .ok (.aload_n 0, 1) := by decide +kernel
theorem dX6_clears_30 : decode cX6_clears 30 = .ok (.iload_n 2, 1) := by decide +kernel
theorem dX6_clears_31 : decode cX6_clears 31 = .ok (.invokevirtual 82, 3) := by decide +kernel
theorem dX6_clears_34 : decode cX6_clears 34 = .ok (.ifCond .lt 27, 3) := by decide +kernel
theorem dX6_clears_37 : decode cX6_clears 37 = .ok (.aload_n 0, 1) := by decide +kernel
theorem dX6_clears_38 : decode cX6_clears 38 = .ok (.aload_n 0, 1) := by decide +kernel
theorem dX6_clears_39 : decode cX6_clears 39 = .ok (.iload_n 2, 1) := by decide +kernel
theorem dX6_clears_40 : decode cX6_clears 40 = .ok (.invokevirtual 82, 3) := by decide +kernel
theorem dX6_clears_43 : decode cX6_clears 43 = .ok (.invokevirtual 130, 3) := by decide +kernel
theorem dX6_clears_46 : decode cX6_clears 46 = .ok (.aload_n 0, 1) := by decide +kernel
theorem dX6_clears_47 : decode cX6_clears 47 = .ok (.getfield 7, 3) := by decide +kernel
theorem dX6_clears_50 : decode cX6_clears 50 = .ok (.bipush 12, 2) := by decide +kernel
theorem dX6_clears_52 : decode cX6_clears 52 = .ok (.bipush 10, 2) := by decide +kernel
theorem dX6_clears_54 : decode cX6_clears 54 = .ok (.iload_n 2, 1) := by decide +kernel
theorem dX6_clears_55 : decode cX6_clears 55 = .ok (.imul, 1) := by decide +kernel
theorem dX6_clears_56 : decode cX6_clears 56 = .ok (.iadd, 1) := by decide +kernel
theorem dX6_clears_57 : decode cX6_clears 57 = .ok (.iconst 3, 1) := by decide +kernel
theorem dX6_clears_58 : decode cX6_clears 58 = .ok (.iadd, 1) := by decide +kernel
theorem dX6_clears_59 : decode cX6_clears 59 = .ok (.iconst 0, 1) := by decide +kernel
theorem dX6_clears_60 : decode cX6_clears 60 = .ok (.iastore, 1) := by decide +kernel
theorem dX6_clears_61 : decode cX6_clears 61 = .ok (.iinc 2 (-1), 3) := by decide +kernel
theorem dX6_clears_64 : decode cX6_clears 64 = .ok (.goto (-39), 3) := by decide +kernel
theorem dX6_clears_67 : decode cX6_clears 67 = .ok (.iload_n 1, 1) := by decide +kernel
theorem dX6_clears_68 : decode cX6_clears 68 = .ok (.ireturn, 1) := by decide +kernel
abbrev rmX6_clears : Room := { frames := 3, cells := 0, slots := 0, locals := 65 }
def w_X6_clears_L25 (n : Nat) (K : Int32 → Mem → Prop) : Nat → Mem → Nat → Int32 → Int32 → Prop
  | 0, _, _, _, _ => False
  | fuel + 1, M, o0, a1, a2 => ((a2 < 0 → K a1 M) ∧ (¬ a2 < 0 → ((o0 ≤ n ∧ kd o0 = (6, 0)) ∧ w_X6_partOn n M o0 a2 (fun x10 M9 => ((x10 < 0 → (∀ x11, x11 = a2 + (-1 : Int32) → w_X6_clears_L25 n K fuel M9 o0 a1 x11)) ∧ (¬ x10 < 0 → w_X6_partOn n M9 o0 a2 (fun x13 M12 => w_X6_toFront n M12 o0 x13 (fun M14 => (∀ r15, r15 = gR M14 o0 0 → ((r15 ≤ n ∧ (kd r15).1 = 7 ∧ vp_in (((12 : Int32) + ((10 : Int32) * a2)) + (3 : Int32)) (kd r15).2) ∧ (∀ M16, M16 = sI M14 r15 (Int32.toNatClampNeg (((12 : Int32) + ((10 : Int32) * a2)) + (3 : Int32))) (0 : Int32) → (∀ x17, x17 = a2 + (-1 : Int32) → w_X6_clears_L25 n K fuel M16 o0 a1 x17))))))))))))
def w_X6_clears (n : Nat) (M : Mem) (t : Nat) (K : Int32 → Mem → Prop) : Prop := ((t ≤ n ∧ kd t = (6, 0)) ∧ w_X6_onHeads n M t  (fun x3 M2 => ((¬ x3 = 0 → w_X6_record n M2 t  (fun M4 => (∀ r5, r5 = gR M4 t 0 → ((r5 ≤ n ∧ (kd r5).1 = 7 ∧ vp_in (0 : Int32) (kd r5).2) ∧ (∀ x6, x6 = gI M4 r5 (Int32.toNatClampNeg (0 : Int32)) → (∀ x7, x7 = x6 - (1 : Int32) → w_X6_clears_L25 n K 4000 M4 t x3 x7)))))) ∧ (x3 = 0 → K (-5 : Int32) M2))))
set_option maxHeartbeats 4000000 in
set_option maxRecDepth 20000 in
theorem c_X6_clears (l : Launch) (E : Gl) (n : Nat) (M : Mem) (t : Nat) (K : Int32 → Mem → Prop) (hw : w_X6_clears n M t K) : CT E l yX6_clears cX6_clears 3 (some .int) rmX6_clears n M [rV t] (PI E n K) := by
  refine g_met l (by decide) (Nat.le_of_ble_eq_true rfl) ?_
  intro p e s m args below meth c X hr hlk hnm hSz hOld
  change CX E p s m c _ _ RX6 at X
  have L25 : ∀ (fuel : Nat) (M : Mem) (o0 : Nat) (a1 : Int32) (a2 : Int32), w_X6_clears_L25 n K fuel M o0 a1 a2 → G E p l e rmX6_clears s m args below meth c 3 n M 0 0 (MQD lw_cs below (PI E n K) args s rmX6_clears.cells rmX6_clears.slots (Ab E)) 25 [(0, rV o0), (1, iV a1), (2, iV a2)] [] := by
    intro fuel
    induction fuel with
    | zero => intro M o0 a1 a2 hw; exact False.elim hw
    | succ fuel ih =>
      intro M o0 a1 a2 hw
      unfold w_X6_clears_L25 at hw
      refine g_iload_n X dX6_clears_25 2 rfl ?_
      refine g_if_lt X 67 dX6_clears_26 (by decide) hw (fun hw => ?_) (fun hw => ?_)
      · refine g_iload_n X dX6_clears_67 1 rfl ?_
        exact g_iret X hr hlk hSz hOld (Nat.le_refl _) dX6_clears_68 hw
      · refine g_aload_n X dX6_clears_29 0 rfl ?_
        refine g_iload_n X dX6_clears_30 2 rfl ?_
        obtain ⟨hk8, hw⟩ := hw
        refine g_calli (pc' := 34) (rest := []) rfl (fun H locs ls d qR qL => g_runV X cw_X6_82 iv_X6_partOn ⟨Nat.le_of_ble_eq_true rfl, Nat.le_of_ble_eq_true rfl⟩ dX6_clears_31 (c_X6_partOn l E n M o0 a2 _ hw) hk8 rfl rfl (Nat.le_of_ble_eq_true rfl) ⟨Nat.le_of_ble_eq_true rfl, Nat.le_of_ble_eq_true rfl⟩ qR qL) (fun x10 M9 hw => ?_)
        refine g_if_lt X 61 dX6_clears_34 (by decide) hw (fun hw => ?_) (fun hw => ?_)
        · obtain ⟨x11, hx11⟩ : ∃ y : Int32, y = a2 + (-1 : Int32) := ⟨_, rfl⟩
          have hw := hw x11 hx11
          refine g_iinc (lv' := [(2, iV x11), (0, rV o0), (1, iV a1)]) X x11 dX6_clears_61 2 rfl (by rw [hx11]; rfl) (by decide) rfl ?_
          refine g_goto X 25 dX6_clears_64 (by decide) ?_
          refine g_lvsub (lv' := [(0, rV o0), (1, iV a1), (2, iV x11)]) [1, 2, 0] rfl ?_
          exact ih _ _ _ _ hw
        · refine g_aload_n X dX6_clears_37 0 rfl ?_
          refine g_aload_n X dX6_clears_38 0 rfl ?_
          refine g_iload_n X dX6_clears_39 2 rfl ?_
          refine g_calli (pc' := 43) (rest := [rV o0]) rfl (fun H locs ls d qR qL => g_runV X cw_X6_82 iv_X6_partOn ⟨Nat.le_of_ble_eq_true rfl, Nat.le_of_ble_eq_true rfl⟩ dX6_clears_40 (c_X6_partOn l E n M9 o0 a2 _ hw) hk8 rfl rfl (Nat.le_of_ble_eq_true rfl) ⟨Nat.le_of_ble_eq_true rfl, Nat.le_of_ble_eq_true rfl⟩ qR qL) (fun x13 M12 hw => ?_)
          refine g_callv (pc' := 46) (rest := []) rfl (fun H locs ls d qR qL => g_runV X cw_X6_130 iv_X6_toFront ⟨Nat.le_of_ble_eq_true rfl, Nat.le_of_ble_eq_true rfl⟩ dX6_clears_43 (c_X6_toFront l E n M12 o0 x13 _ hw) hk8 rfl rfl (Nat.le_of_ble_eq_true rfl) ⟨Nat.le_of_ble_eq_true rfl, Nat.le_of_ble_eq_true rfl⟩ qR qL) (fun M14 hw => ?_)
          refine g_aload_n X dX6_clears_46 0 rfl ?_
          refine g_get X (rV (gR M14 o0 0)) dX6_clears_47 fl_X6_7 (fun _ => rfl) ⟨hk8, hw⟩ (fun hw => ?_)
          refine g_topR (fun r15 hr15 => ?_)
          have hw := hw r15 hr15
          refine g_bipush X (12 : Int32) dX6_clears_50 (by decide) ?_
          refine g_bipush X (10 : Int32) dX6_clears_52 (by decide) ?_
          refine g_iload_n X dX6_clears_54 2 rfl ?_
          refine g_imul X dX6_clears_55 ?_
          refine g_iadd X dX6_clears_56 ?_
          refine g_iconst X (3 : Int32) dX6_clears_57 (by decide) ?_
          refine g_iadd X dX6_clears_58 ?_
          refine g_iconst X (0 : Int32) dX6_clears_59 (by decide) ?_
          refine g_iast X dX6_clears_60 hw (fun hw => ?_)
          refine g_topM (fun M16 hM16 => ?_)
          have hw := hw M16 hM16
          obtain ⟨x17, hx17⟩ : ∃ y : Int32, y = a2 + (-1 : Int32) := ⟨_, rfl⟩
          have hw := hw x17 hx17
          refine g_iinc (lv' := [(2, iV x17), (0, rV o0), (1, iV a1)]) X x17 dX6_clears_61 2 rfl (by rw [hx17]; rfl) (by decide) rfl ?_
          refine g_goto X 25 dX6_clears_64 (by decide) ?_
          refine g_lvsub (lv' := [(0, rV o0), (1, iV a1), (2, iV x17)]) [1, 2, 0] rfl ?_
          exact ih _ _ _ _ hw
  unfold w_X6_clears at hw
  refine g_aload_n X dX6_clears_0 0 rfl ?_
  obtain ⟨hk1, hw⟩ := hw
  refine g_calli (pc' := 4) (rest := []) rfl (fun H locs ls d qR qL => g_runV X cw_X6_170 iv_X6_onHeads ⟨Nat.le_of_ble_eq_true rfl, Nat.le_of_ble_eq_true rfl⟩ dX6_clears_1 (c_X6_onHeads l E n M t  _ hw) hk1 rfl rfl (Nat.le_of_ble_eq_true rfl) ⟨Nat.le_of_ble_eq_true rfl, Nat.le_of_ble_eq_true rfl⟩ qR qL) (fun x3 M2 hw => ?_)
  refine g_istore_n (lv' := [(1, iV x3), (0, rV t)]) X dX6_clears_4 (by decide) rfl ?_
  refine g_iload_n X dX6_clears_5 0 rfl ?_
  refine g_if_ne X 12 dX6_clears_6 (by decide) hw (fun hw => ?_) (fun hw => ?_)
  · refine g_aload_n X dX6_clears_12 1 rfl ?_
    refine g_callv (pc' := 16) (rest := []) rfl (fun H locs ls d qR qL => g_runV X cw_X6_62 iv_X6_record ⟨Nat.le_of_ble_eq_true rfl, Nat.le_of_ble_eq_true rfl⟩ dX6_clears_13 (c_X6_record l E n M2 t  _ hw) hk1 rfl rfl (Nat.le_of_ble_eq_true rfl) ⟨Nat.le_of_ble_eq_true rfl, Nat.le_of_ble_eq_true rfl⟩ qR qL) (fun M4 hw => ?_)
    refine g_aload_n X dX6_clears_16 1 rfl ?_
    refine g_get X (rV (gR M4 t 0)) dX6_clears_17 fl_X6_7 (fun _ => rfl) ⟨hk1, hw⟩ (fun hw => ?_)
    refine g_topR (fun r5 hr5 => ?_)
    have hw := hw r5 hr5
    refine g_iconst X (0 : Int32) dX6_clears_20 (by decide) ?_
    refine g_iald X dX6_clears_21 hw (fun hw => ?_)
    refine g_topI (fun x6 hx6 => ?_)
    have hw := hw x6 hx6
    refine g_iconst X (1 : Int32) dX6_clears_22 (by decide) ?_
    refine g_isub X dX6_clears_23 ?_
    refine g_topI (fun x7 hx7 => ?_)
    have hw := hw x7 hx7
    refine g_istore_n (lv' := [(2, iV x7), (1, iV x3), (0, rV t)]) X dX6_clears_24 (by decide) rfl ?_
    refine g_lvsub (lv' := [(0, rV t), (1, iV x3), (2, iV x7)]) [2, 1, 0] rfl ?_
    exact L25 _ _ _ _ _ hw
  · refine g_bipush X (-5 : Int32) dX6_clears_9 (by decide) ?_
    exact g_iret X hr hlk hSz hOld (Nat.le_refl _) dX6_clears_11 hw
theorem dX6_perform_0 : decode cX6_perform 0 = .ok (.aload_n 0, 1) := by decide +kernel
theorem dX6_perform_1 : decode cX6_perform 1 = .ok (.iconst 4, 1) := by decide +kernel
theorem dX6_perform_2 : decode cX6_perform 2 = .ok (.bipush 115, 2) := by decide +kernel
theorem dX6_perform_4 : decode cX6_perform 4 = .ok (.bipush 116, 2) := by decide +kernel
theorem dX6_perform_6 : decode cX6_perform 6 = .ok (.bipush 101, 2) := by decide +kernel
theorem dX6_perform_8 : decode cX6_perform 8 = .ok (.bipush 112, 2) := by decide +kernel
theorem dX6_perform_10 : decode cX6_perform 10 = .ok (.invokevirtual 173, 3) := by decide +kernel
theorem dX6_perform_13 : decode cX6_perform 13 = .ok (.ifCond .eq 13, 3) := by decide +kernel
theorem dX6_perform_16 : decode cX6_perform 16 = .ok (.aload_n 0, 1) := by decide +kernel
theorem dX6_perform_17 : decode cX6_perform 17 = .ok (.invokevirtual 62, 3) := by decide +kernel
theorem dX6_perform_20 : decode cX6_perform 20 = .ok (.aload_n 0, 1) := by decide +kernel
theorem dX6_perform_21 : decode cX6_perform 21 = .ok (.iconst 1, 1) := by decide +kernel
theorem dX6_perform_22 : decode cX6_perform 22 = .ok (.invokevirtual 147, 3) := by decide +kernel
theorem dX6_perform_25 : decode cX6_perform 25 = .ok (.ireturn, 1) := by decide +kernel
theorem dX6_perform_26 : decode cX6_perform 26 = .ok (.aload_n 0, 1) := by decide +kernel
theorem dX6_perform_27 : decode cX6_perform 27 = .ok (.iconst 4, 1) := by decide +kernel
theorem dX6_perform_28 : decode cX6_perform 28 = .ok (.bipush 116, 2) := by decide +kernel
theorem dX6_perform_30 : decode cX6_perform 30 = .ok (.bipush 117, 2) := by decide +kernel
theorem dX6_perform_32 : decode cX6_perform 32 = .ok (.bipush 114, 2) := by decide +kernel
theorem dX6_perform_34 : decode cX6_perform 34 = .ok (.bipush 110, 2) := by decide +kernel
theorem dX6_perform_36 : decode cX6_perform 36 = .ok (.invokevirtual 173, 3) := by decide +kernel
theorem dX6_perform_39 : decode cX6_perform 39 = .ok (.ifCond .eq 18, 3) := by decide +kernel
theorem dX6_perform_42 : decode cX6_perform 42 = .ok (.aload_n 0, 1) := by decide +kernel
theorem dX6_perform_43 : decode cX6_perform 43 = .ok (.invokevirtual 62, 3) := by decide +kernel
theorem dX6_perform_46 : decode cX6_perform 46 = .ok (.aload_n 0, 1) := by decide +kernel
theorem dX6_perform_47 : decode cX6_perform 47 = .ok (.aload_n 0, 1) := by decide +kernel
theorem dX6_perform_48 : decode cX6_perform 48 = .ok (.getfield 7, 3) := by decide +kernel
theorem dX6_perform_51 : decode cX6_perform 51 = .ok (.iconst 0, 1) := by decide +kernel
theorem dX6_perform_52 : decode cX6_perform 52 = .ok (.iaload, 1) := by decide +kernel
theorem dX6_perform_53 : decode cX6_perform 53 = .ok (.invokevirtual 147, 3) := by decide +kernel
theorem dX6_perform_56 : decode cX6_perform 56 = .ok (.ireturn, 1) := by decide +kernel
theorem dX6_perform_57 : decode cX6_perform 57 = .ok (.aload_n 0, 1) := by decide +kernel
theorem dX6_perform_58 : decode cX6_perform 58 = .ok (.iconst 4, 1) := by decide +kernel
theorem dX6_perform_59 : decode cX6_perform 59 = .ok (.bipush 115, 2) := by decide +kernel
theorem dX6_perform_61 : decode cX6_perform 61 = .ok (.bipush 116, 2) := by decide +kernel
theorem dX6_perform_63 : decode cX6_perform 63 = .ok (.bipush 111, 2) := by decide +kernel
theorem dX6_perform_65 : decode cX6_perform 65 = .ok (.bipush 112, 2) := by decide +kernel
theorem dX6_perform_67 : decode cX6_perform 67 = .ok (.invokevirtual 173, 3) := by decide +kernel
theorem dX6_perform_70 : decode cX6_perform 70 = .ok (.ifCond .eq 8, 3) := by decide +kernel
theorem dX6_perform_73 : decode cX6_perform 73 = .ok (.aload_n 0, 1) := by decide +kernel
theorem dX6_perform_74 : decode cX6_perform 74 = .ok (.invokevirtual 177, 3) := by decide +kernel
theorem dX6_perform_77 : decode cX6_perform 77 = .ok (.ireturn, 1) := by decide +kernel
theorem dX6_perform_78 : decode cX6_perform 78 = .ok (.aload_n 0, 1) := by decide +kernel
theorem dX6_perform_79 : decode cX6_perform 79 = .ok (.iconst 5, 1) := by decide +kernel
theorem dX6_perform_80 : decode cX6_perform 80 = .ok (.bipush 99, 2) := by decide +kernel
theorem dX6_perform_82 : decode cX6_perform 82 = .ok (.bipush 108, 2) := by decide +kernel
theorem dX6_perform_84 : decode cX6_perform 84 = .ok (.bipush 101, 2) := by decide +kernel
theorem dX6_perform_86 : decode cX6_perform 86 = .ok (.bipush 97, 2) := by decide +kernel
theorem dX6_perform_88 : decode cX6_perform 88 = .ok (.invokevirtual 173, 3) := by decide +kernel
theorem dX6_perform_91 : decode cX6_perform 91 = .ok (.ifCond .eq 21, 3) := by decide +kernel
theorem dX6_perform_94 : decode cX6_perform 94 = .ok (.aload_n 0, 1) := by decide +kernel
theorem dX6_perform_95 : decode cX6_perform 95 = .ok (.getfield 29, 3) := by decide +kernel
theorem dX6_perform_98 : decode cX6_perform 98 = .ok (.iconst 4, 1) := by decide +kernel
theorem dX6_perform_99 : decode cX6_perform 99 = .ok (.caload, 1) := by decide +kernel
theorem dX6_perform_100 : decode cX6_perform 100 = .ok (.bipush 114, 2) := by decide +kernel
theorem dX6_perform_102 : decode cX6_perform 102 = .ok (.if_icmp .ne 10, 3) := by decide +kernel
theorem dX6_perform_105 : decode cX6_perform 105 = .ok (.aload_n 0, 1) := by decide +kernel
theorem dX6_perform_106 : decode cX6_perform 106 = .ok (.invokevirtual 180, 3) := by decide +kernel
theorem dX6_perform_109 : decode cX6_perform 109 = .ok (.goto 5, 3) := by decide +kernel
theorem dX6_perform_112 : decode cX6_perform 112 = .ok (.bipush (-2), 2) := by decide +kernel
theorem dX6_perform_114 : decode cX6_perform 114 = .ok (.ireturn, 1) := by decide +kernel
abbrev rmX6_perform : Room := { frames := 6, cells := 0, slots := 0, locals := 143 }
def w_X6_perform (n : Nat) (M : Mem) (t : Nat) (K : Int32 → Mem → Prop) : Prop := ((t ≤ n ∧ kd t = (6, 0)) ∧ w_X6_isWord n M t (4 : Int32) (115 : Int32) (116 : Int32) (101 : Int32) (112 : Int32) (fun x3 M2 => ((x3 = 0 → w_X6_isWord n M2 t (4 : Int32) (116 : Int32) (117 : Int32) (114 : Int32) (110 : Int32) (fun x5 M4 => ((x5 = 0 → w_X6_isWord n M4 t (4 : Int32) (115 : Int32) (116 : Int32) (111 : Int32) (112 : Int32) (fun x7 M6 => ((x7 = 0 → w_X6_isWord n M6 t (5 : Int32) (99 : Int32) (108 : Int32) (101 : Int32) (97 : Int32) (fun x9 M8 => ((x9 = 0 → K (-2 : Int32) M8) ∧ (¬ x9 = 0 → (∀ r10, r10 = gR M8 t 9 → ((r10 ≤ n ∧ (kd r10).1 = 9 ∧ vp_in (4 : Int32) (kd r10).2) ∧ (∀ x11, x11 = gI M8 r10 (Int32.toNatClampNeg (4 : Int32)) → ((¬ x11 = (114 : Int32) → K (-2 : Int32) M8) ∧ (x11 = (114 : Int32) → w_X6_clears n M8 t  (fun x13 M12 => K x13 M12)))))))))) ∧ (¬ x7 = 0 → w_X6_stops n M6 t  (fun x15 M14 => K x15 M14))))) ∧ (¬ x5 = 0 → w_X6_record n M4 t  (fun M16 => (∀ r17, r17 = gR M16 t 0 → ((r17 ≤ n ∧ (kd r17).1 = 7 ∧ vp_in (0 : Int32) (kd r17).2) ∧ (∀ x18, x18 = gI M16 r17 (Int32.toNatClampNeg (0 : Int32)) → w_X6_goes n M16 t x18 (fun x20 M19 => K x20 M19))))))))) ∧ (¬ x3 = 0 → w_X6_record n M2 t  (fun M21 => w_X6_goes n M21 t (1 : Int32) (fun x23 M22 => K x23 M22))))))
set_option maxHeartbeats 4000000 in
set_option maxRecDepth 20000 in
theorem c_X6_perform (l : Launch) (E : Gl) (n : Nat) (M : Mem) (t : Nat) (K : Int32 → Mem → Prop) (hw : w_X6_perform n M t K) : CT E l yX6_perform cX6_perform 1 (some .int) rmX6_perform n M [rV t] (PI E n K) := by
  refine g_met l (by decide) (Nat.le_of_ble_eq_true rfl) ?_
  intro p e s m args below meth c X hr hlk hnm hSz hOld
  change CX E p s m c _ _ RX6 at X
  unfold w_X6_perform at hw
  refine g_aload_n X dX6_perform_0 0 rfl ?_
  refine g_iconst X (4 : Int32) dX6_perform_1 (by decide) ?_
  refine g_bipush X (115 : Int32) dX6_perform_2 (by decide) ?_
  refine g_bipush X (116 : Int32) dX6_perform_4 (by decide) ?_
  refine g_bipush X (101 : Int32) dX6_perform_6 (by decide) ?_
  refine g_bipush X (112 : Int32) dX6_perform_8 (by decide) ?_
  obtain ⟨hk1, hw⟩ := hw
  refine g_calli (pc' := 13) (rest := []) rfl (fun H locs ls d qR qL => g_runV X cw_X6_173 iv_X6_isWord ⟨Nat.le_of_ble_eq_true rfl, Nat.le_of_ble_eq_true rfl⟩ dX6_perform_10 (c_X6_isWord l E n M t (4 : Int32) (115 : Int32) (116 : Int32) (101 : Int32) (112 : Int32) _ hw) hk1 rfl rfl (Nat.le_of_ble_eq_true rfl) ⟨Nat.le_of_ble_eq_true rfl, Nat.le_of_ble_eq_true rfl⟩ qR qL) (fun x3 M2 hw => ?_)
  refine g_if_eq X 26 dX6_perform_13 (by decide) hw (fun hw => ?_) (fun hw => ?_)
  · refine g_aload_n X dX6_perform_26 0 rfl ?_
    refine g_iconst X (4 : Int32) dX6_perform_27 (by decide) ?_
    refine g_bipush X (116 : Int32) dX6_perform_28 (by decide) ?_
    refine g_bipush X (117 : Int32) dX6_perform_30 (by decide) ?_
    refine g_bipush X (114 : Int32) dX6_perform_32 (by decide) ?_
    refine g_bipush X (110 : Int32) dX6_perform_34 (by decide) ?_
    refine g_calli (pc' := 39) (rest := []) rfl (fun H locs ls d qR qL => g_runV X cw_X6_173 iv_X6_isWord ⟨Nat.le_of_ble_eq_true rfl, Nat.le_of_ble_eq_true rfl⟩ dX6_perform_36 (c_X6_isWord l E n M2 t (4 : Int32) (116 : Int32) (117 : Int32) (114 : Int32) (110 : Int32) _ hw) hk1 rfl rfl (Nat.le_of_ble_eq_true rfl) ⟨Nat.le_of_ble_eq_true rfl, Nat.le_of_ble_eq_true rfl⟩ qR qL) (fun x5 M4 hw => ?_)
    refine g_if_eq X 57 dX6_perform_39 (by decide) hw (fun hw => ?_) (fun hw => ?_)
    · refine g_aload_n X dX6_perform_57 0 rfl ?_
      refine g_iconst X (4 : Int32) dX6_perform_58 (by decide) ?_
      refine g_bipush X (115 : Int32) dX6_perform_59 (by decide) ?_
      refine g_bipush X (116 : Int32) dX6_perform_61 (by decide) ?_
      refine g_bipush X (111 : Int32) dX6_perform_63 (by decide) ?_
      refine g_bipush X (112 : Int32) dX6_perform_65 (by decide) ?_
      refine g_calli (pc' := 70) (rest := []) rfl (fun H locs ls d qR qL => g_runV X cw_X6_173 iv_X6_isWord ⟨Nat.le_of_ble_eq_true rfl, Nat.le_of_ble_eq_true rfl⟩ dX6_perform_67 (c_X6_isWord l E n M4 t (4 : Int32) (115 : Int32) (116 : Int32) (111 : Int32) (112 : Int32) _ hw) hk1 rfl rfl (Nat.le_of_ble_eq_true rfl) ⟨Nat.le_of_ble_eq_true rfl, Nat.le_of_ble_eq_true rfl⟩ qR qL) (fun x7 M6 hw => ?_)
      refine g_if_eq X 78 dX6_perform_70 (by decide) hw (fun hw => ?_) (fun hw => ?_)
      · refine g_aload_n X dX6_perform_78 0 rfl ?_
        refine g_iconst X (5 : Int32) dX6_perform_79 (by decide) ?_
        refine g_bipush X (99 : Int32) dX6_perform_80 (by decide) ?_
        refine g_bipush X (108 : Int32) dX6_perform_82 (by decide) ?_
        refine g_bipush X (101 : Int32) dX6_perform_84 (by decide) ?_
        refine g_bipush X (97 : Int32) dX6_perform_86 (by decide) ?_
        refine g_calli (pc' := 91) (rest := []) rfl (fun H locs ls d qR qL => g_runV X cw_X6_173 iv_X6_isWord ⟨Nat.le_of_ble_eq_true rfl, Nat.le_of_ble_eq_true rfl⟩ dX6_perform_88 (c_X6_isWord l E n M6 t (5 : Int32) (99 : Int32) (108 : Int32) (101 : Int32) (97 : Int32) _ hw) hk1 rfl rfl (Nat.le_of_ble_eq_true rfl) ⟨Nat.le_of_ble_eq_true rfl, Nat.le_of_ble_eq_true rfl⟩ qR qL) (fun x9 M8 hw => ?_)
        refine g_if_eq X 112 dX6_perform_91 (by decide) hw (fun hw => ?_) (fun hw => ?_)
        · refine g_bipush X (-2 : Int32) dX6_perform_112 (by decide) ?_
          exact g_iret X hr hlk hSz hOld (Nat.le_refl _) dX6_perform_114 hw
        · refine g_aload_n X dX6_perform_94 0 rfl ?_
          refine g_get X (rV (gR M8 t 9)) dX6_perform_95 fl_X6_29 (fun _ => rfl) ⟨hk1, hw⟩ (fun hw => ?_)
          refine g_topR (fun r10 hr10 => ?_)
          have hw := hw r10 hr10
          refine g_iconst X (4 : Int32) dX6_perform_98 (by decide) ?_
          refine g_cald X dX6_perform_99 hw (fun hw => ?_)
          refine g_topI (fun x11 hx11 => ?_)
          have hw := hw x11 hx11
          refine g_bipush X (114 : Int32) dX6_perform_100 (by decide) ?_
          refine g_icmp_ne X 112 dX6_perform_102 (by decide) hw (fun hw => ?_) (fun hw => ?_)
          · refine g_bipush X (-2 : Int32) dX6_perform_112 (by decide) ?_
            exact g_iret X hr hlk hSz hOld (Nat.le_refl _) dX6_perform_114 hw
          · refine g_aload_n X dX6_perform_105 0 rfl ?_
            refine g_calli (pc' := 109) (rest := []) rfl (fun H locs ls d qR qL => g_runV X cw_X6_180 iv_X6_clears ⟨Nat.le_of_ble_eq_true rfl, Nat.le_of_ble_eq_true rfl⟩ dX6_perform_106 (c_X6_clears l E n M8 t  _ hw) hk1 rfl rfl (Nat.le_of_ble_eq_true rfl) ⟨Nat.le_of_ble_eq_true rfl, Nat.le_of_ble_eq_true rfl⟩ qR qL) (fun x13 M12 hw => ?_)
            refine g_goto X 114 dX6_perform_109 (by decide) ?_
            exact g_iret X hr hlk hSz hOld (Nat.le_refl _) dX6_perform_114 hw
      · refine g_aload_n X dX6_perform_73 0 rfl ?_
        refine g_calli (pc' := 77) (rest := []) rfl (fun H locs ls d qR qL => g_runV X cw_X6_177 iv_X6_stops ⟨Nat.le_of_ble_eq_true rfl, Nat.le_of_ble_eq_true rfl⟩ dX6_perform_74 (c_X6_stops l E n M6 t  _ hw) hk1 rfl rfl (Nat.le_of_ble_eq_true rfl) ⟨Nat.le_of_ble_eq_true rfl, Nat.le_of_ble_eq_true rfl⟩ qR qL) (fun x15 M14 hw => ?_)
        exact g_iret X hr hlk hSz hOld (Nat.le_refl _) dX6_perform_77 hw
    · refine g_aload_n X dX6_perform_42 0 rfl ?_
      refine g_callv (pc' := 46) (rest := []) rfl (fun H locs ls d qR qL => g_runV X cw_X6_62 iv_X6_record ⟨Nat.le_of_ble_eq_true rfl, Nat.le_of_ble_eq_true rfl⟩ dX6_perform_43 (c_X6_record l E n M4 t  _ hw) hk1 rfl rfl (Nat.le_of_ble_eq_true rfl) ⟨Nat.le_of_ble_eq_true rfl, Nat.le_of_ble_eq_true rfl⟩ qR qL) (fun M16 hw => ?_)
      refine g_aload_n X dX6_perform_46 0 rfl ?_
      refine g_aload_n X dX6_perform_47 0 rfl ?_
      refine g_get X (rV (gR M16 t 0)) dX6_perform_48 fl_X6_7 (fun _ => rfl) ⟨hk1, hw⟩ (fun hw => ?_)
      refine g_topR (fun r17 hr17 => ?_)
      have hw := hw r17 hr17
      refine g_iconst X (0 : Int32) dX6_perform_51 (by decide) ?_
      refine g_iald X dX6_perform_52 hw (fun hw => ?_)
      refine g_topI (fun x18 hx18 => ?_)
      have hw := hw x18 hx18
      refine g_calli (pc' := 56) (rest := []) rfl (fun H locs ls d qR qL => g_runV X cw_X6_147 iv_X6_goes ⟨Nat.le_of_ble_eq_true rfl, Nat.le_of_ble_eq_true rfl⟩ dX6_perform_53 (c_X6_goes l E n M16 t x18 _ hw) hk1 rfl rfl (Nat.le_of_ble_eq_true rfl) ⟨Nat.le_of_ble_eq_true rfl, Nat.le_of_ble_eq_true rfl⟩ qR qL) (fun x20 M19 hw => ?_)
      exact g_iret X hr hlk hSz hOld (Nat.le_refl _) dX6_perform_56 hw
  · refine g_aload_n X dX6_perform_16 0 rfl ?_
    refine g_callv (pc' := 20) (rest := []) rfl (fun H locs ls d qR qL => g_runV X cw_X6_62 iv_X6_record ⟨Nat.le_of_ble_eq_true rfl, Nat.le_of_ble_eq_true rfl⟩ dX6_perform_17 (c_X6_record l E n M2 t  _ hw) hk1 rfl rfl (Nat.le_of_ble_eq_true rfl) ⟨Nat.le_of_ble_eq_true rfl, Nat.le_of_ble_eq_true rfl⟩ qR qL) (fun M21 hw => ?_)
    refine g_aload_n X dX6_perform_20 0 rfl ?_
    refine g_iconst X (1 : Int32) dX6_perform_21 (by decide) ?_
    refine g_calli (pc' := 25) (rest := []) rfl (fun H locs ls d qR qL => g_runV X cw_X6_147 iv_X6_goes ⟨Nat.le_of_ble_eq_true rfl, Nat.le_of_ble_eq_true rfl⟩ dX6_perform_22 (c_X6_goes l E n M21 t (1 : Int32) _ hw) hk1 rfl rfl (Nat.le_of_ble_eq_true rfl) ⟨Nat.le_of_ble_eq_true rfl, Nat.le_of_ble_eq_true rfl⟩ qR qL) (fun x23 M22 hw => ?_)
    exact g_iret X hr hlk hSz hOld (Nat.le_refl _) dX6_perform_25 hw
theorem dX6_undo_0 : decode cX6_undo 0 = .ok (.aload_n 0, 1) := by decide +kernel
theorem dX6_undo_1 : decode cX6_undo 1 = .ok (.getfield 46, 3) := by decide +kernel
theorem dX6_undo_4 : decode cX6_undo 4 = .ok (.ifCond .ne 6, 3) := by decide +kernel
theorem dX6_undo_7 : decode cX6_undo 7 = .ok (.bipush (-5), 2) := by decide +kernel
theorem dX6_undo_9 : decode cX6_undo 9 = .ok (.ireturn, 1) := by decide +kernel
theorem dX6_undo_10 : decode cX6_undo 10 = .ok (.aload_n 0, 1) := by decide +kernel
theorem dX6_undo_11 : decode cX6_undo 11 = .ok (.dup, 1) := by decide +kernel
theorem dX6_undo_12 : decode cX6_undo 12 = .ok (.getfield 46, 3) := by decide +kernel
theorem dX6_undo_15 : decode cX6_undo 15 = .ok (.iconst 1, 1) := by decide +kernel
theorem dX6_undo_16 : decode cX6_undo 16 = .ok (.isub, 1) := by decide +kernel
theorem dX6_undo_17 : decode cX6_undo 17 = .ok (.putfield 46, 3) := by decide +kernel
theorem dX6_undo_20 : decode cX6_undo 20 = .ok (.iconst 0, 1) := by decide +kernel
theorem dX6_undo_21 : decode cX6_undo 21 = .ok (.istore_n 1, 1) := by decide +kernel
theorem dX6_undo_22 : decode cX6_undo 22 = .ok (.iload_n 1, 1) := by decide +kernel
theorem dX6_undo_23 : decode cX6_undo 23 = .ok (.sipush 632, 3) := by decide +kernel
theorem dX6_undo_26 : decode cX6_undo 26 = .ok (.if_icmp .ge 30, 3) := by decide +kernel
theorem dX6_undo_29 : decode cX6_undo 29 = .ok (.aload_n 0, 1) := by decide +kernel
theorem dX6_undo_30 : decode cX6_undo 30 = .ok (.getfield 7, 3) := by decide +kernel
theorem dX6_undo_33 : decode cX6_undo 33 = .ok (.iload_n 1, 1) := by decide +kernel
theorem dX6_undo_34 : decode cX6_undo 34 = .ok (.aload_n 0, 1) := by decide +kernel
theorem dX6_undo_35 : decode cX6_undo 35 = .ok (.getfield 13, 3) := by decide +kernel
theorem dX6_undo_38 : decode cX6_undo 38 = .ok (.sipush 632, 3) := by decide +kernel
theorem dX6_undo_41 : decode cX6_undo 41 = .ok (.aload_n 0, 1) := by decide +kernel
theorem dX6_undo_42 : decode cX6_undo 42 = .ok (.getfield 46, 3) := by decide +kernel
theorem dX6_undo_45 : decode cX6_undo 45 = .ok (.imul, 1) := by decide +kernel
theorem dX6_undo_46 : decode cX6_undo 46 = .ok (.iload_n 1, 1) := by decide +kernel
theorem dX6_undo_47 : decode cX6_undo 47 = .ok (.iadd, 1) := by decide +kernel
theorem dX6_undo_48 : decode cX6_undo 48 = .ok (.iaload, 1) := by decide +kernel
theorem dX6_undo_49 : decode cX6_undo 49 = .ok (.iastore, 1) := by decide +kernel
theorem dX6_undo_50 : decode cX6_undo 50 = .ok (.iinc 1 1, 3) := by decide +kernel
theorem dX6_undo_53 : decode cX6_undo 53 = .ok (.goto (-31), 3) := by decide +kernel
theorem dX6_undo_56 : decode cX6_undo 56 = .ok (.iconst 0, 1) := by decide +kernel
theorem dX6_undo_57 : decode cX6_undo 57 = .ok (.istore_n 1, 1) := by decide +kernel
theorem dX6_undo_58 : decode cX6_undo 58 = .ok (.iload_n 1, 1) := by decide +kernel
theorem dX6_undo_59 : decode cX6_undo 59 = .ok (.sipush 159, 3) := by decide +kernel
theorem dX6_undo_62 : decode cX6_undo 62 = .ok (.if_icmp .ge 30, 3) := by decide +kernel
theorem dX6_undo_65 : decode cX6_undo 65 = .ok (.aload_n 0, 1) := by decide +kernel
theorem dX6_undo_66 : decode cX6_undo 66 = .ok (.getfield 19, 3) := by decide +kernel
theorem dX6_undo_69 : decode cX6_undo 69 = .ok (.iload_n 1, 1) := by decide +kernel
theorem dX6_undo_70 : decode cX6_undo 70 = .ok (.aload_n 0, 1) := by decide +kernel
theorem dX6_undo_71 : decode cX6_undo 71 = .ok (.getfield 23, 3) := by decide +kernel
theorem dX6_undo_74 : decode cX6_undo 74 = .ok (.sipush 159, 3) := by decide +kernel
theorem dX6_undo_77 : decode cX6_undo 77 = .ok (.aload_n 0, 1) := by decide +kernel
theorem dX6_undo_78 : decode cX6_undo 78 = .ok (.getfield 46, 3) := by decide +kernel
theorem dX6_undo_81 : decode cX6_undo 81 = .ok (.imul, 1) := by decide +kernel
theorem dX6_undo_82 : decode cX6_undo 82 = .ok (.iload_n 1, 1) := by decide +kernel
theorem dX6_undo_83 : decode cX6_undo 83 = .ok (.iadd, 1) := by decide +kernel
theorem dX6_undo_84 : decode cX6_undo 84 = .ok (.daload, 1) := by decide +kernel
theorem dX6_undo_85 : decode cX6_undo 85 = .ok (.dastore, 1) := by decide +kernel
theorem dX6_undo_86 : decode cX6_undo 86 = .ok (.iinc 1 1, 3) := by decide +kernel
theorem dX6_undo_89 : decode cX6_undo 89 = .ok (.goto (-31), 3) := by decide +kernel
theorem dX6_undo_92 : decode cX6_undo 92 = .ok (.aload_n 0, 1) := by decide +kernel
theorem dX6_undo_93 : decode cX6_undo 93 = .ok (.getfield 46, 3) := by decide +kernel
theorem dX6_undo_96 : decode cX6_undo 96 = .ok (.ireturn, 1) := by decide +kernel
abbrev rmX6_undo : Room := { frames := 0, cells := 0, slots := 0, locals := 0 }
def w_X6_undo_L58 (n : Nat) (K : Int32 → Mem → Prop) : Nat → Mem → Nat → Int32 → Prop
  | 0, _, _, _ => False
  | fuel + 1, M, o0, a1 => (((159 : Int32) ≤ a1 → ((o0 ≤ n ∧ kd o0 = (6, 0)) ∧ K (gI M o0 6) M)) ∧ (¬ (159 : Int32) ≤ a1 → ((o0 ≤ n ∧ kd o0 = (6, 0)) ∧ (∀ r5, r5 = gR M o0 3 → (∀ r6, r6 = gR M o0 4 → ((r6 ≤ n ∧ (kd r6).1 = 8 ∧ vp_in (((159 : Int32) * (gI M o0 6)) + a1) (kd r6).2) ∧ (∀ z7, z7 = gD M r6 (Int32.toNatClampNeg (((159 : Int32) * (gI M o0 6)) + a1)) → ((r5 ≤ n ∧ (kd r5).1 = 8 ∧ vp_in a1 (kd r5).2) ∧ (∀ M8, M8 = sD M r5 (Int32.toNatClampNeg a1) z7 → (∀ x9, x9 = a1 + (1 : Int32) → w_X6_undo_L58 n K fuel M8 o0 x9))))))))))
def w_X6_undo_L22 (n : Nat) (K : Int32 → Mem → Prop) : Nat → Mem → Nat → Int32 → Prop
  | 0, _, _, _ => False
  | fuel + 1, M, o0, a1 => (((632 : Int32) ≤ a1 → w_X6_undo_L58 n K 4000 M o0 (0 : Int32)) ∧ (¬ (632 : Int32) ≤ a1 → ((o0 ≤ n ∧ kd o0 = (6, 0)) ∧ (∀ r11, r11 = gR M o0 0 → (∀ r12, r12 = gR M o0 1 → ((r12 ≤ n ∧ (kd r12).1 = 7 ∧ vp_in (((632 : Int32) * (gI M o0 6)) + a1) (kd r12).2) ∧ (∀ x13, x13 = gI M r12 (Int32.toNatClampNeg (((632 : Int32) * (gI M o0 6)) + a1)) → ((r11 ≤ n ∧ (kd r11).1 = 7 ∧ vp_in a1 (kd r11).2) ∧ (∀ M14, M14 = sI M r11 (Int32.toNatClampNeg a1) x13 → (∀ x15, x15 = a1 + (1 : Int32) → w_X6_undo_L22 n K fuel M14 o0 x15))))))))))
def w_X6_undo (n : Nat) (M : Mem) (t : Nat) (K : Int32 → Mem → Prop) : Prop := ((t ≤ n ∧ kd t = (6, 0)) ∧ ((¬ (gI M t 6) = 0 → (∀ M2, M2 = sI M t 6 ((gI M t 6) - (1 : Int32)) → w_X6_undo_L22 n K 4000 M2 t (0 : Int32))) ∧ ((gI M t 6) = 0 → K (-5 : Int32) M)))
set_option maxHeartbeats 4000000 in
set_option maxRecDepth 20000 in
theorem c_X6_undo (l : Launch) (E : Gl) (n : Nat) (M : Mem) (t : Nat) (K : Int32 → Mem → Prop) (hw : w_X6_undo n M t K) : CT E l yX6_undo cX6_undo 2 (some .int) rmX6_undo n M [rV t] (PI E n K) := by
  refine g_met l (by decide) (Nat.le_of_ble_eq_true rfl) ?_
  intro p e s m args below meth c X hr hlk hnm hSz hOld
  change CX E p s m c _ _ RX6 at X
  have L58 : ∀ (fuel : Nat) (M : Mem) (o0 : Nat) (a1 : Int32), w_X6_undo_L58 n K fuel M o0 a1 → G E p l e rmX6_undo s m args below meth c 2 n M 0 0 (MQD lw_cs below (PI E n K) args s rmX6_undo.cells rmX6_undo.slots (Ab E)) 58 [(0, rV o0), (1, iV a1)] [] := by
    intro fuel
    induction fuel with
    | zero => intro M o0 a1 hw; exact False.elim hw
    | succ fuel ih =>
      intro M o0 a1 hw
      unfold w_X6_undo_L58 at hw
      refine g_iload_n X dX6_undo_58 1 rfl ?_
      refine g_sipush X (159 : Int32) dX6_undo_59 (by decide) ?_
      refine g_icmp_ge X 92 dX6_undo_62 (by decide) hw (fun hw => ?_) (fun hw => ?_)
      · refine g_aload_n X dX6_undo_92 0 rfl ?_
        obtain ⟨hk3, hw⟩ := hw
        refine g_get X (iV (gI M o0 6)) dX6_undo_93 fl_X6_46 (fun _ => rfl) ⟨hk3, hw⟩ (fun hw => ?_)
        exact g_iret X hr hlk hSz hOld (Nat.le_refl _) dX6_undo_96 hw
      · refine g_aload_n X dX6_undo_65 0 rfl ?_
        obtain ⟨hk4, hw⟩ := hw
        refine g_get X (rV (gR M o0 3)) dX6_undo_66 fl_X6_19 (fun _ => rfl) ⟨hk4, hw⟩ (fun hw => ?_)
        refine g_topR (fun r5 hr5 => ?_)
        have hw := hw r5 hr5
        refine g_iload_n X dX6_undo_69 1 rfl ?_
        refine g_aload_n X dX6_undo_70 0 rfl ?_
        refine g_get X (rV (gR M o0 4)) dX6_undo_71 fl_X6_23 (fun _ => rfl) ⟨hk4, hw⟩ (fun hw => ?_)
        refine g_topR (fun r6 hr6 => ?_)
        have hw := hw r6 hr6
        refine g_sipush X (159 : Int32) dX6_undo_74 (by decide) ?_
        refine g_aload_n X dX6_undo_77 0 rfl ?_
        refine g_get X (iV (gI M o0 6)) dX6_undo_78 fl_X6_46 (fun _ => rfl) ⟨hk4, hw⟩ (fun hw => ?_)
        refine g_imul X dX6_undo_81 ?_
        refine g_iload_n X dX6_undo_82 1 rfl ?_
        refine g_iadd X dX6_undo_83 ?_
        refine g_dald X dX6_undo_84 hw (fun hw => ?_)
        refine g_topD (fun z7 hz7 => ?_)
        have hw := hw z7 hz7
        refine g_dast X dX6_undo_85 hw (fun hw => ?_)
        refine g_topM (fun M8 hM8 => ?_)
        have hw := hw M8 hM8
        obtain ⟨x9, hx9⟩ : ∃ y : Int32, y = a1 + (1 : Int32) := ⟨_, rfl⟩
        have hw := hw x9 hx9
        refine g_iinc (lv' := [(1, iV x9), (0, rV o0)]) X x9 dX6_undo_86 1 rfl (by rw [hx9]; rfl) (by decide) rfl ?_
        refine g_goto X 58 dX6_undo_89 (by decide) ?_
        refine g_lvsub (lv' := [(0, rV o0), (1, iV x9)]) [1, 0] rfl ?_
        exact ih _ _ _ hw
  have L22 : ∀ (fuel : Nat) (M : Mem) (o0 : Nat) (a1 : Int32), w_X6_undo_L22 n K fuel M o0 a1 → G E p l e rmX6_undo s m args below meth c 2 n M 0 0 (MQD lw_cs below (PI E n K) args s rmX6_undo.cells rmX6_undo.slots (Ab E)) 22 [(0, rV o0), (1, iV a1)] [] := by
    intro fuel
    induction fuel with
    | zero => intro M o0 a1 hw; exact False.elim hw
    | succ fuel ih =>
      intro M o0 a1 hw
      unfold w_X6_undo_L22 at hw
      refine g_iload_n X dX6_undo_22 1 rfl ?_
      refine g_sipush X (632 : Int32) dX6_undo_23 (by decide) ?_
      refine g_icmp_ge X 56 dX6_undo_26 (by decide) hw (fun hw => ?_) (fun hw => ?_)
      · refine g_iconst X (0 : Int32) dX6_undo_56 (by decide) ?_
        refine g_istore_n (lv' := [(1, iV (0 : Int32)), (0, rV o0)]) X dX6_undo_57 (by decide) rfl ?_
        refine g_lvsub (lv' := [(0, rV o0), (1, iV (0 : Int32))]) [1, 0] rfl ?_
        exact L58 _ _ _ _ hw
      · refine g_aload_n X dX6_undo_29 0 rfl ?_
        obtain ⟨hk10, hw⟩ := hw
        refine g_get X (rV (gR M o0 0)) dX6_undo_30 fl_X6_7 (fun _ => rfl) ⟨hk10, hw⟩ (fun hw => ?_)
        refine g_topR (fun r11 hr11 => ?_)
        have hw := hw r11 hr11
        refine g_iload_n X dX6_undo_33 1 rfl ?_
        refine g_aload_n X dX6_undo_34 0 rfl ?_
        refine g_get X (rV (gR M o0 1)) dX6_undo_35 fl_X6_13 (fun _ => rfl) ⟨hk10, hw⟩ (fun hw => ?_)
        refine g_topR (fun r12 hr12 => ?_)
        have hw := hw r12 hr12
        refine g_sipush X (632 : Int32) dX6_undo_38 (by decide) ?_
        refine g_aload_n X dX6_undo_41 0 rfl ?_
        refine g_get X (iV (gI M o0 6)) dX6_undo_42 fl_X6_46 (fun _ => rfl) ⟨hk10, hw⟩ (fun hw => ?_)
        refine g_imul X dX6_undo_45 ?_
        refine g_iload_n X dX6_undo_46 1 rfl ?_
        refine g_iadd X dX6_undo_47 ?_
        refine g_iald X dX6_undo_48 hw (fun hw => ?_)
        refine g_topI (fun x13 hx13 => ?_)
        have hw := hw x13 hx13
        refine g_iast X dX6_undo_49 hw (fun hw => ?_)
        refine g_topM (fun M14 hM14 => ?_)
        have hw := hw M14 hM14
        obtain ⟨x15, hx15⟩ : ∃ y : Int32, y = a1 + (1 : Int32) := ⟨_, rfl⟩
        have hw := hw x15 hx15
        refine g_iinc (lv' := [(1, iV x15), (0, rV o0)]) X x15 dX6_undo_50 1 rfl (by rw [hx15]; rfl) (by decide) rfl ?_
        refine g_goto X 22 dX6_undo_53 (by decide) ?_
        refine g_lvsub (lv' := [(0, rV o0), (1, iV x15)]) [1, 0] rfl ?_
        exact ih _ _ _ hw
  unfold w_X6_undo at hw
  refine g_aload_n X dX6_undo_0 0 rfl ?_
  obtain ⟨hk1, hw⟩ := hw
  refine g_get X (iV (gI M t 6)) dX6_undo_1 fl_X6_46 (fun _ => rfl) ⟨hk1, hw⟩ (fun hw => ?_)
  refine g_if_ne X 10 dX6_undo_4 (by decide) hw (fun hw => ?_) (fun hw => ?_)
  · refine g_aload_n X dX6_undo_10 0 rfl ?_
    refine g_dup X dX6_undo_11 rfl ?_
    refine g_get X (iV (gI M t 6)) dX6_undo_12 fl_X6_46 (fun _ => rfl) ⟨hk1, hw⟩ (fun hw => ?_)
    refine g_iconst X (1 : Int32) dX6_undo_15 (by decide) ?_
    refine g_isub X dX6_undo_16 ?_
    refine g_putI X dX6_undo_17 fl_X6_46 rfl (Or.inl rfl) ⟨hk1, hw⟩ (fun hw => ?_)
    refine g_topM (fun M2 hM2 => ?_)
    have hw := hw M2 hM2
    refine g_iconst X (0 : Int32) dX6_undo_20 (by decide) ?_
    refine g_istore_n (lv' := [(1, iV (0 : Int32)), (0, rV t)]) X dX6_undo_21 (by decide) rfl ?_
    refine g_lvsub (lv' := [(0, rV t), (1, iV (0 : Int32))]) [1, 0] rfl ?_
    exact L22 _ _ _ _ hw
  · refine g_bipush X (-5 : Int32) dX6_undo_7 (by decide) ?_
    exact g_iret X hr hlk hSz hOld (Nat.le_refl _) dX6_undo_9 hw
theorem dX6_keep_0 : decode cX6_keep 0 = .ok (.iconst 0, 1) := by decide +kernel
theorem dX6_keep_1 : decode cX6_keep 1 = .ok (.istore_n 1, 1) := by decide +kernel
theorem dX6_keep_2 : decode cX6_keep 2 = .ok (.iload_n 1, 1) := by decide +kernel
theorem dX6_keep_3 : decode cX6_keep 3 = .ok (.sipush 632, 3) := by decide +kernel
theorem dX6_keep_6 : decode cX6_keep 6 = .ok (.if_icmp .ge 21, 3) := by decide +kernel
theorem dX6_keep_9 : decode cX6_keep 9 = .ok (.aload_n 0, 1) := by decide +kernel
theorem dX6_keep_10 : decode cX6_keep 10 = .ok (.getfield 16, 3) := by decide +kernel
theorem dX6_keep_13 : decode cX6_keep 13 = .ok (.iload_n 1, 1) := by decide +kernel
theorem dX6_keep_14 : decode cX6_keep 14 = .ok (.aload_n 0, 1) := by decide +kernel
theorem dX6_keep_15 : decode cX6_keep 15 = .ok (.getfield 7, 3) := by decide +kernel
theorem dX6_keep_18 : decode cX6_keep 18 = .ok (.iload_n 1, 1) := by decide +kernel
theorem dX6_keep_19 : decode cX6_keep 19 = .ok (.iaload, 1) := by decide +kernel
theorem dX6_keep_20 : decode cX6_keep 20 = .ok (.iastore, 1) := by decide +kernel
theorem dX6_keep_21 : decode cX6_keep 21 = .ok (.iinc 1 1, 3) := by decide +kernel
theorem dX6_keep_24 : decode cX6_keep 24 = .ok (.goto (-22), 3) := by decide +kernel
theorem dX6_keep_27 : decode cX6_keep 27 = .ok (.iconst 0, 1) := by decide +kernel
theorem dX6_keep_28 : decode cX6_keep 28 = .ok (.istore_n 1, 1) := by decide +kernel
theorem dX6_keep_29 : decode cX6_keep 29 = .ok (.iload_n 1, 1) := by decide +kernel
theorem dX6_keep_30 : decode cX6_keep 30 = .ok (.sipush 159, 3) := by decide +kernel
theorem dX6_keep_33 : decode cX6_keep 33 = .ok (.if_icmp .ge 21, 3) := by decide +kernel
theorem dX6_keep_36 : decode cX6_keep 36 = .ok (.aload_n 0, 1) := by decide +kernel
theorem dX6_keep_37 : decode cX6_keep 37 = .ok (.getfield 26, 3) := by decide +kernel
theorem dX6_keep_40 : decode cX6_keep 40 = .ok (.iload_n 1, 1) := by decide +kernel
theorem dX6_keep_41 : decode cX6_keep 41 = .ok (.aload_n 0, 1) := by decide +kernel
theorem dX6_keep_42 : decode cX6_keep 42 = .ok (.getfield 19, 3) := by decide +kernel
theorem dX6_keep_45 : decode cX6_keep 45 = .ok (.iload_n 1, 1) := by decide +kernel
theorem dX6_keep_46 : decode cX6_keep 46 = .ok (.daload, 1) := by decide +kernel
theorem dX6_keep_47 : decode cX6_keep 47 = .ok (.dastore, 1) := by decide +kernel
theorem dX6_keep_48 : decode cX6_keep 48 = .ok (.iinc 1 1, 3) := by decide +kernel
theorem dX6_keep_51 : decode cX6_keep 51 = .ok (.goto (-22), 3) := by decide +kernel
theorem dX6_keep_54 : decode cX6_keep 54 = .ok (.aload_n 0, 1) := by decide +kernel
theorem dX6_keep_55 : decode cX6_keep 55 = .ok (.iconst 1, 1) := by decide +kernel
theorem dX6_keep_56 : decode cX6_keep 56 = .ok (.putfield 183, 3) := by decide +kernel
theorem dX6_keep_59 : decode cX6_keep 59 = .ok (.aload_n 0, 1) := by decide +kernel
theorem dX6_keep_60 : decode cX6_keep 60 = .ok (.getfield 7, 3) := by decide +kernel
theorem dX6_keep_63 : decode cX6_keep 63 = .ok (.iconst 2, 1) := by decide +kernel
theorem dX6_keep_64 : decode cX6_keep 64 = .ok (.iaload, 1) := by decide +kernel
theorem dX6_keep_65 : decode cX6_keep 65 = .ok (.ireturn, 1) := by decide +kernel
abbrev rmX6_keep : Room := { frames := 0, cells := 0, slots := 0, locals := 0 }
def w_X6_keep_L29 (n : Nat) (K : Int32 → Mem → Prop) : Nat → Mem → Nat → Int32 → Prop
  | 0, _, _, _ => False
  | fuel + 1, M, o0, a1 => (((159 : Int32) ≤ a1 → ((o0 ≤ n ∧ kd o0 = (6, 0)) ∧ (∀ M2, M2 = sI M o0 7 (1 : Int32) → (∀ r3, r3 = gR M2 o0 0 → ((r3 ≤ n ∧ (kd r3).1 = 7 ∧ vp_in (2 : Int32) (kd r3).2) ∧ (∀ x4, x4 = gI M2 r3 (Int32.toNatClampNeg (2 : Int32)) → K x4 M2)))))) ∧ (¬ (159 : Int32) ≤ a1 → ((o0 ≤ n ∧ kd o0 = (6, 0)) ∧ (∀ r6, r6 = gR M o0 5 → (∀ r7, r7 = gR M o0 3 → ((r7 ≤ n ∧ (kd r7).1 = 8 ∧ vp_in a1 (kd r7).2) ∧ (∀ z8, z8 = gD M r7 (Int32.toNatClampNeg a1) → ((r6 ≤ n ∧ (kd r6).1 = 8 ∧ vp_in a1 (kd r6).2) ∧ (∀ M9, M9 = sD M r6 (Int32.toNatClampNeg a1) z8 → (∀ x10, x10 = a1 + (1 : Int32) → w_X6_keep_L29 n K fuel M9 o0 x10))))))))))
def w_X6_keep_L2 (n : Nat) (K : Int32 → Mem → Prop) : Nat → Mem → Nat → Int32 → Prop
  | 0, _, _, _ => False
  | fuel + 1, M, o0, a1 => (((632 : Int32) ≤ a1 → w_X6_keep_L29 n K 4000 M o0 (0 : Int32)) ∧ (¬ (632 : Int32) ≤ a1 → ((o0 ≤ n ∧ kd o0 = (6, 0)) ∧ (∀ r12, r12 = gR M o0 2 → (∀ r13, r13 = gR M o0 0 → ((r13 ≤ n ∧ (kd r13).1 = 7 ∧ vp_in a1 (kd r13).2) ∧ (∀ x14, x14 = gI M r13 (Int32.toNatClampNeg a1) → ((r12 ≤ n ∧ (kd r12).1 = 7 ∧ vp_in a1 (kd r12).2) ∧ (∀ M15, M15 = sI M r12 (Int32.toNatClampNeg a1) x14 → (∀ x16, x16 = a1 + (1 : Int32) → w_X6_keep_L2 n K fuel M15 o0 x16))))))))))
def w_X6_keep (n : Nat) (M : Mem) (t : Nat) (K : Int32 → Mem → Prop) : Prop := w_X6_keep_L2 n K 4000 M t (0 : Int32)
set_option maxHeartbeats 4000000 in
set_option maxRecDepth 20000 in
theorem c_X6_keep (l : Launch) (E : Gl) (n : Nat) (M : Mem) (t : Nat) (K : Int32 → Mem → Prop) (hw : w_X6_keep n M t K) : CT E l yX6_keep cX6_keep 2 (some .int) rmX6_keep n M [rV t] (PI E n K) := by
  refine g_met l (by decide) (Nat.le_of_ble_eq_true rfl) ?_
  intro p e s m args below meth c X hr hlk hnm hSz hOld
  change CX E p s m c _ _ RX6 at X
  have L29 : ∀ (fuel : Nat) (M : Mem) (o0 : Nat) (a1 : Int32), w_X6_keep_L29 n K fuel M o0 a1 → G E p l e rmX6_keep s m args below meth c 2 n M 0 0 (MQD lw_cs below (PI E n K) args s rmX6_keep.cells rmX6_keep.slots (Ab E)) 29 [(0, rV o0), (1, iV a1)] [] := by
    intro fuel
    induction fuel with
    | zero => intro M o0 a1 hw; exact False.elim hw
    | succ fuel ih =>
      intro M o0 a1 hw
      unfold w_X6_keep_L29 at hw
      refine g_iload_n X dX6_keep_29 1 rfl ?_
      refine g_sipush X (159 : Int32) dX6_keep_30 (by decide) ?_
      refine g_icmp_ge X 54 dX6_keep_33 (by decide) hw (fun hw => ?_) (fun hw => ?_)
      · refine g_aload_n X dX6_keep_54 0 rfl ?_
        refine g_iconst X (1 : Int32) dX6_keep_55 (by decide) ?_
        obtain ⟨hk1, hw⟩ := hw
        refine g_putZ X dX6_keep_56 fl_X6_183 rfl (Or.inl rfl) ⟨by decide, hk1, hw⟩ (fun hw => ?_)
        refine g_topM (fun M2 hM2 => ?_)
        have hw := hw M2 hM2
        refine g_aload_n X dX6_keep_59 0 rfl ?_
        refine g_get X (rV (gR M2 o0 0)) dX6_keep_60 fl_X6_7 (fun _ => rfl) ⟨hk1, hw⟩ (fun hw => ?_)
        refine g_topR (fun r3 hr3 => ?_)
        have hw := hw r3 hr3
        refine g_iconst X (2 : Int32) dX6_keep_63 (by decide) ?_
        refine g_iald X dX6_keep_64 hw (fun hw => ?_)
        refine g_topI (fun x4 hx4 => ?_)
        have hw := hw x4 hx4
        exact g_iret X hr hlk hSz hOld (Nat.le_refl _) dX6_keep_65 hw
      · refine g_aload_n X dX6_keep_36 0 rfl ?_
        obtain ⟨hk5, hw⟩ := hw
        refine g_get X (rV (gR M o0 5)) dX6_keep_37 fl_X6_26 (fun _ => rfl) ⟨hk5, hw⟩ (fun hw => ?_)
        refine g_topR (fun r6 hr6 => ?_)
        have hw := hw r6 hr6
        refine g_iload_n X dX6_keep_40 1 rfl ?_
        refine g_aload_n X dX6_keep_41 0 rfl ?_
        refine g_get X (rV (gR M o0 3)) dX6_keep_42 fl_X6_19 (fun _ => rfl) ⟨hk5, hw⟩ (fun hw => ?_)
        refine g_topR (fun r7 hr7 => ?_)
        have hw := hw r7 hr7
        refine g_iload_n X dX6_keep_45 1 rfl ?_
        refine g_dald X dX6_keep_46 hw (fun hw => ?_)
        refine g_topD (fun z8 hz8 => ?_)
        have hw := hw z8 hz8
        refine g_dast X dX6_keep_47 hw (fun hw => ?_)
        refine g_topM (fun M9 hM9 => ?_)
        have hw := hw M9 hM9
        obtain ⟨x10, hx10⟩ : ∃ y : Int32, y = a1 + (1 : Int32) := ⟨_, rfl⟩
        have hw := hw x10 hx10
        refine g_iinc (lv' := [(1, iV x10), (0, rV o0)]) X x10 dX6_keep_48 1 rfl (by rw [hx10]; rfl) (by decide) rfl ?_
        refine g_goto X 29 dX6_keep_51 (by decide) ?_
        refine g_lvsub (lv' := [(0, rV o0), (1, iV x10)]) [1, 0] rfl ?_
        exact ih _ _ _ hw
  have L2 : ∀ (fuel : Nat) (M : Mem) (o0 : Nat) (a1 : Int32), w_X6_keep_L2 n K fuel M o0 a1 → G E p l e rmX6_keep s m args below meth c 2 n M 0 0 (MQD lw_cs below (PI E n K) args s rmX6_keep.cells rmX6_keep.slots (Ab E)) 2 [(0, rV o0), (1, iV a1)] [] := by
    intro fuel
    induction fuel with
    | zero => intro M o0 a1 hw; exact False.elim hw
    | succ fuel ih =>
      intro M o0 a1 hw
      unfold w_X6_keep_L2 at hw
      refine g_iload_n X dX6_keep_2 1 rfl ?_
      refine g_sipush X (632 : Int32) dX6_keep_3 (by decide) ?_
      refine g_icmp_ge X 27 dX6_keep_6 (by decide) hw (fun hw => ?_) (fun hw => ?_)
      · refine g_iconst X (0 : Int32) dX6_keep_27 (by decide) ?_
        refine g_istore_n (lv' := [(1, iV (0 : Int32)), (0, rV o0)]) X dX6_keep_28 (by decide) rfl ?_
        refine g_lvsub (lv' := [(0, rV o0), (1, iV (0 : Int32))]) [1, 0] rfl ?_
        exact L29 _ _ _ _ hw
      · refine g_aload_n X dX6_keep_9 0 rfl ?_
        obtain ⟨hk11, hw⟩ := hw
        refine g_get X (rV (gR M o0 2)) dX6_keep_10 fl_X6_16 (fun _ => rfl) ⟨hk11, hw⟩ (fun hw => ?_)
        refine g_topR (fun r12 hr12 => ?_)
        have hw := hw r12 hr12
        refine g_iload_n X dX6_keep_13 1 rfl ?_
        refine g_aload_n X dX6_keep_14 0 rfl ?_
        refine g_get X (rV (gR M o0 0)) dX6_keep_15 fl_X6_7 (fun _ => rfl) ⟨hk11, hw⟩ (fun hw => ?_)
        refine g_topR (fun r13 hr13 => ?_)
        have hw := hw r13 hr13
        refine g_iload_n X dX6_keep_18 1 rfl ?_
        refine g_iald X dX6_keep_19 hw (fun hw => ?_)
        refine g_topI (fun x14 hx14 => ?_)
        have hw := hw x14 hx14
        refine g_iast X dX6_keep_20 hw (fun hw => ?_)
        refine g_topM (fun M15 hM15 => ?_)
        have hw := hw M15 hM15
        obtain ⟨x16, hx16⟩ : ∃ y : Int32, y = a1 + (1 : Int32) := ⟨_, rfl⟩
        have hw := hw x16 hx16
        refine g_iinc (lv' := [(1, iV x16), (0, rV o0)]) X x16 dX6_keep_21 1 rfl (by rw [hx16]; rfl) (by decide) rfl ?_
        refine g_goto X 2 dX6_keep_24 (by decide) ?_
        refine g_lvsub (lv' := [(0, rV o0), (1, iV x16)]) [1, 0] rfl ?_
        exact ih _ _ _ hw
  unfold w_X6_keep at hw
  refine g_iconst X (0 : Int32) dX6_keep_0 (by decide) ?_
  refine g_istore_n (lv' := [(1, iV (0 : Int32)), (0, rV t)]) X dX6_keep_1 (by decide) rfl ?_
  refine g_lvsub (lv' := [(0, rV t), (1, iV (0 : Int32))]) [1, 0] rfl ?_
  exact L2 _ _ _ _ hw
theorem dX6_restore_0 : decode cX6_restore 0 = .ok (.aload_n 0, 1) := by decide +kernel
theorem dX6_restore_1 : decode cX6_restore 1 = .ok (.getfield 183, 3) := by decide +kernel
theorem dX6_restore_4 : decode cX6_restore 4 = .ok (.ifCond .ne 6, 3) := by decide +kernel
theorem dX6_restore_7 : decode cX6_restore 7 = .ok (.bipush (-5), 2) := by decide +kernel
theorem dX6_restore_9 : decode cX6_restore 9 = .ok (.ireturn, 1) := by decide +kernel
theorem dX6_restore_10 : decode cX6_restore 10 = .ok (.aload_n 0, 1) := by decide +kernel
theorem dX6_restore_11 : decode cX6_restore 11 = .ok (.invokevirtual 62, 3) := by decide +kernel
theorem dX6_restore_14 : decode cX6_restore 14 = .ok (.iconst 0, 1) := by decide +kernel
theorem dX6_restore_15 : decode cX6_restore 15 = .ok (.istore_n 1, 1) := by decide +kernel
theorem dX6_restore_16 : decode cX6_restore 16 = .ok (.iload_n 1, 1) := by decide +kernel
theorem dX6_restore_17 : decode cX6_restore 17 = .ok (.sipush 632, 3) := by decide +kernel
theorem dX6_restore_20 : decode cX6_restore 20 = .ok (.if_icmp .ge 21, 3) := by decide +kernel
theorem dX6_restore_23 : decode cX6_restore 23 = .ok (.aload_n 0, 1) := by decide +kernel
theorem dX6_restore_24 : decode cX6_restore 24 = .ok (.getfield 7, 3) := by decide +kernel
theorem dX6_restore_27 : decode cX6_restore 27 = .ok (.iload_n 1, 1) := by decide +kernel
theorem dX6_restore_28 : decode cX6_restore 28 = .ok (.aload_n 0, 1) := by decide +kernel
theorem dX6_restore_29 : decode cX6_restore 29 = .ok (.getfield 16, 3) := by decide +kernel
theorem dX6_restore_32 : decode cX6_restore 32 = .ok (.iload_n 1, 1) := by decide +kernel
theorem dX6_restore_33 : decode cX6_restore 33 = .ok (.iaload, 1) := by decide +kernel
theorem dX6_restore_34 : decode cX6_restore 34 = .ok (.iastore, 1) := by decide +kernel
theorem dX6_restore_35 : decode cX6_restore 35 = .ok (.iinc 1 1, 3) := by decide +kernel
theorem dX6_restore_38 : decode cX6_restore 38 = .ok (.goto (-22), 3) := by decide +kernel
theorem dX6_restore_41 : decode cX6_restore 41 = .ok (.iconst 0, 1) := by decide +kernel
theorem dX6_restore_42 : decode cX6_restore 42 = .ok (.istore_n 1, 1) := by decide +kernel
theorem dX6_restore_43 : decode cX6_restore 43 = .ok (.iload_n 1, 1) := by decide +kernel
theorem dX6_restore_44 : decode cX6_restore 44 = .ok (.sipush 159, 3) := by decide +kernel
theorem dX6_restore_47 : decode cX6_restore 47 = .ok (.if_icmp .ge 21, 3) := by decide +kernel
theorem dX6_restore_50 : decode cX6_restore 50 = .ok (.aload_n 0, 1) := by decide +kernel
theorem dX6_restore_51 : decode cX6_restore 51 = .ok (.getfield 19, 3) := by decide +kernel
theorem dX6_restore_54 : decode cX6_restore 54 = .ok (.iload_n 1, 1) := by decide +kernel
theorem dX6_restore_55 : decode cX6_restore 55 = .ok (.aload_n 0, 1) := by decide +kernel
theorem dX6_restore_56 : decode cX6_restore 56 = .ok (.getfield 26, 3) := by decide +kernel
theorem dX6_restore_59 : decode cX6_restore 59 = .ok (.iload_n 1, 1) := by decide +kernel
theorem dX6_restore_60 : decode cX6_restore 60 = .ok (.daload, 1) := by decide +kernel
theorem dX6_restore_61 : decode cX6_restore 61 = .ok (.dastore, 1) := by decide +kernel
theorem dX6_restore_62 : decode cX6_restore 62 = .ok (.iinc 1 1, 3) := by decide +kernel
theorem dX6_restore_65 : decode cX6_restore 65 = .ok (.goto (-22), 3) := by decide +kernel
theorem dX6_restore_68 : decode cX6_restore 68 = .ok (.aload_n 0, 1) := by decide +kernel
theorem dX6_restore_69 : decode cX6_restore 69 = .ok (.getfield 7, 3) := by decide +kernel
theorem dX6_restore_72 : decode cX6_restore 72 = .ok (.iconst 2, 1) := by decide +kernel
theorem dX6_restore_73 : decode cX6_restore 73 = .ok (.iaload, 1) := by decide +kernel
theorem dX6_restore_74 : decode cX6_restore 74 = .ok (.ireturn, 1) := by decide +kernel
abbrev rmX6_restore : Room := { frames := 1, cells := 0, slots := 0, locals := 21 }
def w_X6_restore_L43 (n : Nat) (K : Int32 → Mem → Prop) : Nat → Mem → Nat → Int32 → Prop
  | 0, _, _, _ => False
  | fuel + 1, M, o0, a1 => (((159 : Int32) ≤ a1 → ((o0 ≤ n ∧ kd o0 = (6, 0)) ∧ (∀ r4, r4 = gR M o0 0 → ((r4 ≤ n ∧ (kd r4).1 = 7 ∧ vp_in (2 : Int32) (kd r4).2) ∧ (∀ x5, x5 = gI M r4 (Int32.toNatClampNeg (2 : Int32)) → K x5 M))))) ∧ (¬ (159 : Int32) ≤ a1 → ((o0 ≤ n ∧ kd o0 = (6, 0)) ∧ (∀ r7, r7 = gR M o0 3 → (∀ r8, r8 = gR M o0 5 → ((r8 ≤ n ∧ (kd r8).1 = 8 ∧ vp_in a1 (kd r8).2) ∧ (∀ z9, z9 = gD M r8 (Int32.toNatClampNeg a1) → ((r7 ≤ n ∧ (kd r7).1 = 8 ∧ vp_in a1 (kd r7).2) ∧ (∀ M10, M10 = sD M r7 (Int32.toNatClampNeg a1) z9 → (∀ x11, x11 = a1 + (1 : Int32) → w_X6_restore_L43 n K fuel M10 o0 x11))))))))))
def w_X6_restore_L16 (n : Nat) (K : Int32 → Mem → Prop) : Nat → Mem → Nat → Int32 → Prop
  | 0, _, _, _ => False
  | fuel + 1, M, o0, a1 => (((632 : Int32) ≤ a1 → w_X6_restore_L43 n K 4000 M o0 (0 : Int32)) ∧ (¬ (632 : Int32) ≤ a1 → ((o0 ≤ n ∧ kd o0 = (6, 0)) ∧ (∀ r13, r13 = gR M o0 0 → (∀ r14, r14 = gR M o0 2 → ((r14 ≤ n ∧ (kd r14).1 = 7 ∧ vp_in a1 (kd r14).2) ∧ (∀ x15, x15 = gI M r14 (Int32.toNatClampNeg a1) → ((r13 ≤ n ∧ (kd r13).1 = 7 ∧ vp_in a1 (kd r13).2) ∧ (∀ M16, M16 = sI M r13 (Int32.toNatClampNeg a1) x15 → (∀ x17, x17 = a1 + (1 : Int32) → w_X6_restore_L16 n K fuel M16 o0 x17))))))))))
def w_X6_restore (n : Nat) (M : Mem) (t : Nat) (K : Int32 → Mem → Prop) : Prop := ((t ≤ n ∧ kd t = (6, 0)) ∧ ((¬ (gI M t 7) = 0 → w_X6_record n M t  (fun M2 => w_X6_restore_L16 n K 4000 M2 t (0 : Int32))) ∧ ((gI M t 7) = 0 → K (-5 : Int32) M)))
set_option maxHeartbeats 4000000 in
set_option maxRecDepth 20000 in
theorem c_X6_restore (l : Launch) (E : Gl) (n : Nat) (M : Mem) (t : Nat) (K : Int32 → Mem → Prop) (hw : w_X6_restore n M t K) : CT E l yX6_restore cX6_restore 2 (some .int) rmX6_restore n M [rV t] (PI E n K) := by
  refine g_met l (by decide) (Nat.le_of_ble_eq_true rfl) ?_
  intro p e s m args below meth c X hr hlk hnm hSz hOld
  change CX E p s m c _ _ RX6 at X
  have L43 : ∀ (fuel : Nat) (M : Mem) (o0 : Nat) (a1 : Int32), w_X6_restore_L43 n K fuel M o0 a1 → G E p l e rmX6_restore s m args below meth c 2 n M 0 0 (MQD lw_cs below (PI E n K) args s rmX6_restore.cells rmX6_restore.slots (Ab E)) 43 [(0, rV o0), (1, iV a1)] [] := by
    intro fuel
    induction fuel with
    | zero => intro M o0 a1 hw; exact False.elim hw
    | succ fuel ih =>
      intro M o0 a1 hw
      unfold w_X6_restore_L43 at hw
      refine g_iload_n X dX6_restore_43 1 rfl ?_
      refine g_sipush X (159 : Int32) dX6_restore_44 (by decide) ?_
      refine g_icmp_ge X 68 dX6_restore_47 (by decide) hw (fun hw => ?_) (fun hw => ?_)
      · refine g_aload_n X dX6_restore_68 0 rfl ?_
        obtain ⟨hk3, hw⟩ := hw
        refine g_get X (rV (gR M o0 0)) dX6_restore_69 fl_X6_7 (fun _ => rfl) ⟨hk3, hw⟩ (fun hw => ?_)
        refine g_topR (fun r4 hr4 => ?_)
        have hw := hw r4 hr4
        refine g_iconst X (2 : Int32) dX6_restore_72 (by decide) ?_
        refine g_iald X dX6_restore_73 hw (fun hw => ?_)
        refine g_topI (fun x5 hx5 => ?_)
        have hw := hw x5 hx5
        exact g_iret X hr hlk hSz hOld (Nat.le_refl _) dX6_restore_74 hw
      · refine g_aload_n X dX6_restore_50 0 rfl ?_
        obtain ⟨hk6, hw⟩ := hw
        refine g_get X (rV (gR M o0 3)) dX6_restore_51 fl_X6_19 (fun _ => rfl) ⟨hk6, hw⟩ (fun hw => ?_)
        refine g_topR (fun r7 hr7 => ?_)
        have hw := hw r7 hr7
        refine g_iload_n X dX6_restore_54 1 rfl ?_
        refine g_aload_n X dX6_restore_55 0 rfl ?_
        refine g_get X (rV (gR M o0 5)) dX6_restore_56 fl_X6_26 (fun _ => rfl) ⟨hk6, hw⟩ (fun hw => ?_)
        refine g_topR (fun r8 hr8 => ?_)
        have hw := hw r8 hr8
        refine g_iload_n X dX6_restore_59 1 rfl ?_
        refine g_dald X dX6_restore_60 hw (fun hw => ?_)
        refine g_topD (fun z9 hz9 => ?_)
        have hw := hw z9 hz9
        refine g_dast X dX6_restore_61 hw (fun hw => ?_)
        refine g_topM (fun M10 hM10 => ?_)
        have hw := hw M10 hM10
        obtain ⟨x11, hx11⟩ : ∃ y : Int32, y = a1 + (1 : Int32) := ⟨_, rfl⟩
        have hw := hw x11 hx11
        refine g_iinc (lv' := [(1, iV x11), (0, rV o0)]) X x11 dX6_restore_62 1 rfl (by rw [hx11]; rfl) (by decide) rfl ?_
        refine g_goto X 43 dX6_restore_65 (by decide) ?_
        refine g_lvsub (lv' := [(0, rV o0), (1, iV x11)]) [1, 0] rfl ?_
        exact ih _ _ _ hw
  have L16 : ∀ (fuel : Nat) (M : Mem) (o0 : Nat) (a1 : Int32), w_X6_restore_L16 n K fuel M o0 a1 → G E p l e rmX6_restore s m args below meth c 2 n M 0 0 (MQD lw_cs below (PI E n K) args s rmX6_restore.cells rmX6_restore.slots (Ab E)) 16 [(0, rV o0), (1, iV a1)] [] := by
    intro fuel
    induction fuel with
    | zero => intro M o0 a1 hw; exact False.elim hw
    | succ fuel ih =>
      intro M o0 a1 hw
      unfold w_X6_restore_L16 at hw
      refine g_iload_n X dX6_restore_16 1 rfl ?_
      refine g_sipush X (632 : Int32) dX6_restore_17 (by decide) ?_
      refine g_icmp_ge X 41 dX6_restore_20 (by decide) hw (fun hw => ?_) (fun hw => ?_)
      · refine g_iconst X (0 : Int32) dX6_restore_41 (by decide) ?_
        refine g_istore_n (lv' := [(1, iV (0 : Int32)), (0, rV o0)]) X dX6_restore_42 (by decide) rfl ?_
        refine g_lvsub (lv' := [(0, rV o0), (1, iV (0 : Int32))]) [1, 0] rfl ?_
        exact L43 _ _ _ _ hw
      · refine g_aload_n X dX6_restore_23 0 rfl ?_
        obtain ⟨hk12, hw⟩ := hw
        refine g_get X (rV (gR M o0 0)) dX6_restore_24 fl_X6_7 (fun _ => rfl) ⟨hk12, hw⟩ (fun hw => ?_)
        refine g_topR (fun r13 hr13 => ?_)
        have hw := hw r13 hr13
        refine g_iload_n X dX6_restore_27 1 rfl ?_
        refine g_aload_n X dX6_restore_28 0 rfl ?_
        refine g_get X (rV (gR M o0 2)) dX6_restore_29 fl_X6_16 (fun _ => rfl) ⟨hk12, hw⟩ (fun hw => ?_)
        refine g_topR (fun r14 hr14 => ?_)
        have hw := hw r14 hr14
        refine g_iload_n X dX6_restore_32 1 rfl ?_
        refine g_iald X dX6_restore_33 hw (fun hw => ?_)
        refine g_topI (fun x15 hx15 => ?_)
        have hw := hw x15 hx15
        refine g_iast X dX6_restore_34 hw (fun hw => ?_)
        refine g_topM (fun M16 hM16 => ?_)
        have hw := hw M16 hM16
        obtain ⟨x17, hx17⟩ : ∃ y : Int32, y = a1 + (1 : Int32) := ⟨_, rfl⟩
        have hw := hw x17 hx17
        refine g_iinc (lv' := [(1, iV x17), (0, rV o0)]) X x17 dX6_restore_35 1 rfl (by rw [hx17]; rfl) (by decide) rfl ?_
        refine g_goto X 16 dX6_restore_38 (by decide) ?_
        refine g_lvsub (lv' := [(0, rV o0), (1, iV x17)]) [1, 0] rfl ?_
        exact ih _ _ _ hw
  unfold w_X6_restore at hw
  refine g_aload_n X dX6_restore_0 0 rfl ?_
  obtain ⟨hk1, hw⟩ := hw
  refine g_get X (iV (gI M t 7)) dX6_restore_1 fl_X6_183 (fun _ => rfl) ⟨hk1, hw⟩ (fun hw => ?_)
  refine g_if_ne X 10 dX6_restore_4 (by decide) hw (fun hw => ?_) (fun hw => ?_)
  · refine g_aload_n X dX6_restore_10 0 rfl ?_
    refine g_callv (pc' := 14) (rest := []) rfl (fun H locs ls d qR qL => g_runV X cw_X6_62 iv_X6_record ⟨Nat.le_of_ble_eq_true rfl, Nat.le_of_ble_eq_true rfl⟩ dX6_restore_11 (c_X6_record l E n M t  _ hw) hk1 rfl rfl (Nat.le_of_ble_eq_true rfl) ⟨Nat.le_of_ble_eq_true rfl, Nat.le_of_ble_eq_true rfl⟩ qR qL) (fun M2 hw => ?_)
    refine g_iconst X (0 : Int32) dX6_restore_14 (by decide) ?_
    refine g_istore_n (lv' := [(1, iV (0 : Int32)), (0, rV t)]) X dX6_restore_15 (by decide) rfl ?_
    refine g_lvsub (lv' := [(0, rV t), (1, iV (0 : Int32))]) [1, 0] rfl ?_
    exact L16 _ _ _ _ hw
  · refine g_bipush X (-5 : Int32) dX6_restore_7 (by decide) ?_
    exact g_iret X hr hlk hSz hOld (Nat.le_refl _) dX6_restore_9 hw
theorem dX6_nothing_0 : decode cX6_nothing 0 = .ok (.ldc2_w 187, 3) := by decide +kernel
theorem dX6_nothing_3 : decode cX6_nothing 3 = .ok (.dreturn, 1) := by decide +kernel
abbrev rmX6_nothing : Room := { frames := 0, cells := 0, slots := 0, locals := 0 }
def w_X6_nothing (n : Nat) (M : Mem)  (K : UInt64 → Mem → Prop) : Prop := K (9221120237041090560 : UInt64) M
set_option maxHeartbeats 4000000 in
set_option maxRecDepth 20000 in
theorem c_X6_nothing (l : Launch) (E : Gl) (n : Nat) (M : Mem)  (K : UInt64 → Mem → Prop) (hw : w_X6_nothing n M  K) : CT E l yX6_nothing cX6_nothing 0 (some .double) rmX6_nothing n M [] (PD E n K) := by
  refine g_met l (by decide) (Nat.le_of_ble_eq_true rfl) ?_
  intro p e s m args below meth c X hr hlk hnm hSz hOld
  change CX E p s m c _ _ RX6 at X
  unfold w_X6_nothing at hw
  refine g_ldcD X (9221120237041090560 : UInt64) dX6_nothing_0 wk_X6_187 ?_
  exact g_dret X hr hlk hSz hOld (Nat.le_refl _) dX6_nothing_3 hw
theorem dX6_head_0 : decode cX6_head 0 = .ok (.aload_n 0, 1) := by decide +kernel
theorem dX6_head_1 : decode cX6_head 1 = .ok (.iload_n 1, 1) := by decide +kernel
theorem dX6_head_2 : decode cX6_head 2 = .ok (.invokevirtual 77, 3) := by decide +kernel
theorem dX6_head_5 : decode cX6_head 5 = .ok (.ifCond .eq 5, 3) := by decide +kernel
theorem dX6_head_8 : decode cX6_head 8 = .ok (.iconst (-1), 1) := by decide +kernel
theorem dX6_head_9 : decode cX6_head 9 = .ok (.ireturn, 1) := by decide +kernel
theorem dX6_head_10 : decode cX6_head 10 = .ok (.iload_n 2, 1) := by decide +kernel
theorem dX6_head_11 : decode cX6_head 11 = .ok (.iconst 3, 1) := by decide +kernel
theorem dX6_head_12 : decode cX6_head 12 = .ok (.if_icmp .ne 22, 3) := by decide +kernel
theorem dX6_head_15 : decode cX6_head 15 = .ok (.aload_n 0, 1) := by decide +kernel
theorem dX6_head_16 : decode cX6_head 16 = .ok (.iload_n 1, 1) := by decide +kernel
theorem dX6_head_17 : decode cX6_head 17 = .ok (.invokevirtual 82, 3) := by decide +kernel
theorem dX6_head_20 : decode cX6_head 20 = .ok (.ifCond .ge 8, 3) := by decide +kernel
theorem dX6_head_23 : decode cX6_head 23 = .ok (.bipush (-5), 2) := by decide +kernel
theorem dX6_head_25 : decode cX6_head 25 = .ok (.goto 8, 3) := by decide +kernel
theorem dX6_head_28 : decode cX6_head 28 = .ok (.aload_n 0, 1) := by decide +kernel
theorem dX6_head_29 : decode cX6_head 29 = .ok (.iload_n 1, 1) := by decide +kernel
theorem dX6_head_30 : decode cX6_head 30 = .ok (.invokevirtual 82, 3) := by decide +kernel
theorem dX6_head_33 : decode cX6_head 33 = .ok (.ireturn, 1) := by decide +kernel
theorem dX6_head_34 : decode cX6_head 34 = .ok (.iload_n 2, 1) := by decide +kernel
theorem dX6_head_35 : decode cX6_head 35 = .ok (.bipush 8, 2) := by decide +kernel
theorem dX6_head_37 : decode cX6_head 37 = .ok (.if_icmp .ne 33, 3) := by decide +kernel
theorem dX6_head_40 : decode cX6_head 40 = .ok (.iload_n 1, 1) := by decide +kernel
theorem dX6_head_41 : decode cX6_head 41 = .ok (.aload_n 0, 1) := by decide +kernel
theorem dX6_head_42 : decode cX6_head 42 = .ok (.getfield 7, 3) := by decide +kernel
theorem dX6_head_45 : decode cX6_head 45 = .ok (.iconst 0, 1) := by decide +kernel
theorem dX6_head_46 : decode cX6_head 46 = .ok (.iaload, 1) := by decide +kernel
theorem dX6_head_47 : decode cX6_head 47 = .ok (.iadd, 1) := by decide +kernel
theorem dX6_head_48 : decode cX6_head 48 = .ok (.aload_n 0, 1) := by decide +kernel
theorem dX6_head_49 : decode cX6_head 49 = .ok (.getfield 7, 3) := by decide +kernel
theorem dX6_head_52 : decode cX6_head 52 = .ok (.iconst 1, 1) := by decide +kernel
theorem dX6_head_53 : decode cX6_head 53 = .ok (.iaload, 1) := by decide +kernel
theorem dX6_head_54 : decode cX6_head 54 = .ok (.aload_n 0, 1) := by decide +kernel
theorem dX6_head_55 : decode cX6_head 55 = .ok (.getfield 7, 3) := by decide +kernel
theorem dX6_head_58 : decode cX6_head 58 = .ok (.iconst 0, 1) := by decide +kernel
theorem dX6_head_59 : decode cX6_head 59 = .ok (.iaload, 1) := by decide +kernel
theorem dX6_head_60 : decode cX6_head 60 = .ok (.irem, 1) := by decide +kernel
theorem dX6_head_61 : decode cX6_head 61 = .ok (.isub, 1) := by decide +kernel
theorem dX6_head_62 : decode cX6_head 62 = .ok (.aload_n 0, 1) := by decide +kernel
theorem dX6_head_63 : decode cX6_head 63 = .ok (.getfield 7, 3) := by decide +kernel
theorem dX6_head_66 : decode cX6_head 66 = .ok (.iconst 0, 1) := by decide +kernel
theorem dX6_head_67 : decode cX6_head 67 = .ok (.iaload, 1) := by decide +kernel
theorem dX6_head_68 : decode cX6_head 68 = .ok (.irem, 1) := by decide +kernel
theorem dX6_head_69 : decode cX6_head 69 = .ok (.ireturn, 1) := by decide +kernel
theorem dX6_head_70 : decode cX6_head 70 = .ok (.iload_n 2, 1) := by decide +kernel
theorem dX6_head_71 : decode cX6_head 71 = .ok (.iconst 0, 1) := by decide +kernel
theorem dX6_head_72 : decode cX6_head 72 = .ok (.bipush 7, 2) := by decide +kernel
theorem dX6_head_74 : decode cX6_head 74 = .ok (.invokestatic 50, 3) := by decide +kernel
theorem dX6_head_77 : decode cX6_head 77 = .ok (.ifCond .eq 12, 3) := by decide +kernel
theorem dX6_head_80 : decode cX6_head 80 = .ok (.aload_n 0, 1) := by decide +kernel
theorem dX6_head_81 : decode cX6_head 81 = .ok (.iload_n 1, 1) := by decide +kernel
theorem dX6_head_82 : decode cX6_head 82 = .ok (.iload_n 2, 1) := by decide +kernel
theorem dX6_head_83 : decode cX6_head 83 = .ok (.invokevirtual 54, 3) := by decide +kernel
theorem dX6_head_86 : decode cX6_head 86 = .ok (.goto 5, 3) := by decide +kernel
theorem dX6_head_89 : decode cX6_head 89 = .ok (.bipush (-2), 2) := by decide +kernel
theorem dX6_head_91 : decode cX6_head 91 = .ok (.ireturn, 1) := by decide +kernel
abbrev rmX6_head : Room := { frames := 2, cells := 0, slots := 0, locals := 43 }
def w_X6_head (n : Nat) (M : Mem) (t : Nat) (p1 : Int32) (p2 : Int32) (K : Int32 → Mem → Prop) : Prop := ((t ≤ n ∧ kd t = (6, 0)) ∧ w_X6_noHead n M t p1 (fun x3 M2 => ((x3 = 0 → ((¬ p2 = (3 : Int32) → ((¬ p2 = (8 : Int32) → w_X6_in n M2 p2 (0 : Int32) (7 : Int32) (fun x5 M4 => ((x5 = 0 → K (-2 : Int32) M4) ∧ (¬ x5 = 0 → w_X6_ofHead n M4 t p1 p2 (fun x7 M6 => K x7 M6))))) ∧ (p2 = (8 : Int32) → (∀ r8, r8 = gR M2 t 0 → ((r8 ≤ n ∧ (kd r8).1 = 7 ∧ vp_in (0 : Int32) (kd r8).2) ∧ (∀ x9, x9 = gI M2 r8 (Int32.toNatClampNeg (0 : Int32)) → (∀ r10, r10 = gR M2 t 0 → ((r10 ≤ n ∧ (kd r10).1 = 7 ∧ vp_in (1 : Int32) (kd r10).2) ∧ (∀ x11, x11 = gI M2 r10 (Int32.toNatClampNeg (1 : Int32)) → (∀ r12, r12 = gR M2 t 0 → ((r12 ≤ n ∧ (kd r12).1 = 7 ∧ vp_in (0 : Int32) (kd r12).2) ∧ (∀ x13, x13 = gI M2 r12 (Int32.toNatClampNeg (0 : Int32)) → (¬ x13 = 0 ∧ (∀ x14, x14 = x11 - x11 / x13 * x13 → (∀ r15, r15 = gR M2 t 0 → ((r15 ≤ n ∧ (kd r15).1 = 7 ∧ vp_in (0 : Int32) (kd r15).2) ∧ (∀ x16, x16 = gI M2 r15 (Int32.toNatClampNeg (0 : Int32)) → (¬ x16 = 0 ∧ (∀ x17, x17 = ((p1 + x9) - x14) - ((p1 + x9) - x14) / x16 * x16 → K x17 M2))))))))))))))))))) ∧ (p2 = (3 : Int32) → w_X6_partOn n M2 t p1 (fun x19 M18 => ((0 ≤ x19 → w_X6_partOn n M18 t p1 (fun x21 M20 => K x21 M20)) ∧ (¬ 0 ≤ x19 → K (-5 : Int32) M18)))))) ∧ (¬ x3 = 0 → K (-1 : Int32) M2))))
set_option maxHeartbeats 4000000 in
set_option maxRecDepth 20000 in
theorem c_X6_head (l : Launch) (E : Gl) (n : Nat) (M : Mem) (t : Nat) (p1 : Int32) (p2 : Int32) (K : Int32 → Mem → Prop) (hw : w_X6_head n M t p1 p2 K) : CT E l yX6_head cX6_head 3 (some .int) rmX6_head n M [rV t, iV p1, iV p2] (PI E n K) := by
  refine g_met l (by decide) (Nat.le_of_ble_eq_true rfl) ?_
  intro p e s m args below meth c X hr hlk hnm hSz hOld
  change CX E p s m c _ _ RX6 at X
  unfold w_X6_head at hw
  refine g_aload_n X dX6_head_0 0 rfl ?_
  refine g_iload_n X dX6_head_1 1 rfl ?_
  obtain ⟨hk1, hw⟩ := hw
  refine g_calli (pc' := 5) (rest := []) rfl (fun H locs ls d qR qL => g_runV X cw_X6_77 iv_X6_noHead ⟨Nat.le_of_ble_eq_true rfl, Nat.le_of_ble_eq_true rfl⟩ dX6_head_2 (c_X6_noHead l E n M t p1 _ hw) hk1 rfl rfl (Nat.le_of_ble_eq_true rfl) ⟨Nat.le_of_ble_eq_true rfl, Nat.le_of_ble_eq_true rfl⟩ qR qL) (fun x3 M2 hw => ?_)
  refine g_if_eq X 10 dX6_head_5 (by decide) hw (fun hw => ?_) (fun hw => ?_)
  · refine g_iload_n X dX6_head_10 2 rfl ?_
    refine g_iconst X (3 : Int32) dX6_head_11 (by decide) ?_
    refine g_icmp_ne X 34 dX6_head_12 (by decide) hw (fun hw => ?_) (fun hw => ?_)
    · refine g_iload_n X dX6_head_34 2 rfl ?_
      refine g_bipush X (8 : Int32) dX6_head_35 (by decide) ?_
      refine g_icmp_ne X 70 dX6_head_37 (by decide) hw (fun hw => ?_) (fun hw => ?_)
      · refine g_iload_n X dX6_head_70 2 rfl ?_
        refine g_iconst X (0 : Int32) dX6_head_71 (by decide) ?_
        refine g_bipush X (7 : Int32) dX6_head_72 (by decide) ?_
        refine g_calli (pc' := 77) (rest := []) rfl (fun H locs ls d qR qL => g_runS X cw_X6_50 wt_X6_in ⟨Nat.le_of_ble_eq_true rfl, Nat.le_of_ble_eq_true rfl⟩ dX6_head_74 (c_X6_in l E n M2 p2 (0 : Int32) (7 : Int32) _ hw) rfl rfl (Nat.le_of_ble_eq_true rfl) ⟨Nat.le_of_ble_eq_true rfl, Nat.le_of_ble_eq_true rfl⟩ qR qL) (fun x5 M4 hw => ?_)
        refine g_if_eq X 89 dX6_head_77 (by decide) hw (fun hw => ?_) (fun hw => ?_)
        · refine g_bipush X (-2 : Int32) dX6_head_89 (by decide) ?_
          exact g_iret X hr hlk hSz hOld (Nat.le_refl _) dX6_head_91 hw
        · refine g_aload_n X dX6_head_80 0 rfl ?_
          refine g_iload_n X dX6_head_81 1 rfl ?_
          refine g_iload_n X dX6_head_82 2 rfl ?_
          refine g_calli (pc' := 86) (rest := []) rfl (fun H locs ls d qR qL => g_runV X cw_X6_54 iv_X6_ofHead ⟨Nat.le_of_ble_eq_true rfl, Nat.le_of_ble_eq_true rfl⟩ dX6_head_83 (c_X6_ofHead l E n M4 t p1 p2 _ hw) hk1 rfl rfl (Nat.le_of_ble_eq_true rfl) ⟨Nat.le_of_ble_eq_true rfl, Nat.le_of_ble_eq_true rfl⟩ qR qL) (fun x7 M6 hw => ?_)
          refine g_goto X 91 dX6_head_86 (by decide) ?_
          exact g_iret X hr hlk hSz hOld (Nat.le_refl _) dX6_head_91 hw
      · refine g_iload_n X dX6_head_40 1 rfl ?_
        refine g_aload_n X dX6_head_41 0 rfl ?_
        refine g_get X (rV (gR M2 t 0)) dX6_head_42 fl_X6_7 (fun _ => rfl) ⟨hk1, hw⟩ (fun hw => ?_)
        refine g_topR (fun r8 hr8 => ?_)
        have hw := hw r8 hr8
        refine g_iconst X (0 : Int32) dX6_head_45 (by decide) ?_
        refine g_iald X dX6_head_46 hw (fun hw => ?_)
        refine g_topI (fun x9 hx9 => ?_)
        have hw := hw x9 hx9
        refine g_iadd X dX6_head_47 ?_
        refine g_aload_n X dX6_head_48 0 rfl ?_
        refine g_get X (rV (gR M2 t 0)) dX6_head_49 fl_X6_7 (fun _ => rfl) ⟨hk1, hw⟩ (fun hw => ?_)
        refine g_topR (fun r10 hr10 => ?_)
        have hw := hw r10 hr10
        refine g_iconst X (1 : Int32) dX6_head_52 (by decide) ?_
        refine g_iald X dX6_head_53 hw (fun hw => ?_)
        refine g_topI (fun x11 hx11 => ?_)
        have hw := hw x11 hx11
        refine g_aload_n X dX6_head_54 0 rfl ?_
        refine g_get X (rV (gR M2 t 0)) dX6_head_55 fl_X6_7 (fun _ => rfl) ⟨hk1, hw⟩ (fun hw => ?_)
        refine g_topR (fun r12 hr12 => ?_)
        have hw := hw r12 hr12
        refine g_iconst X (0 : Int32) dX6_head_58 (by decide) ?_
        refine g_iald X dX6_head_59 hw (fun hw => ?_)
        refine g_topI (fun x13 hx13 => ?_)
        have hw := hw x13 hx13
        refine g_irem X dX6_head_60 hw (fun hw => ?_)
        refine g_topI (fun x14 hx14 => ?_)
        have hw := hw x14 hx14
        refine g_isub X dX6_head_61 ?_
        refine g_aload_n X dX6_head_62 0 rfl ?_
        refine g_get X (rV (gR M2 t 0)) dX6_head_63 fl_X6_7 (fun _ => rfl) ⟨hk1, hw⟩ (fun hw => ?_)
        refine g_topR (fun r15 hr15 => ?_)
        have hw := hw r15 hr15
        refine g_iconst X (0 : Int32) dX6_head_66 (by decide) ?_
        refine g_iald X dX6_head_67 hw (fun hw => ?_)
        refine g_topI (fun x16 hx16 => ?_)
        have hw := hw x16 hx16
        refine g_irem X dX6_head_68 hw (fun hw => ?_)
        refine g_topI (fun x17 hx17 => ?_)
        have hw := hw x17 hx17
        exact g_iret X hr hlk hSz hOld (Nat.le_refl _) dX6_head_69 hw
    · refine g_aload_n X dX6_head_15 0 rfl ?_
      refine g_iload_n X dX6_head_16 1 rfl ?_
      refine g_calli (pc' := 20) (rest := []) rfl (fun H locs ls d qR qL => g_runV X cw_X6_82 iv_X6_partOn ⟨Nat.le_of_ble_eq_true rfl, Nat.le_of_ble_eq_true rfl⟩ dX6_head_17 (c_X6_partOn l E n M2 t p1 _ hw) hk1 rfl rfl (Nat.le_of_ble_eq_true rfl) ⟨Nat.le_of_ble_eq_true rfl, Nat.le_of_ble_eq_true rfl⟩ qR qL) (fun x19 M18 hw => ?_)
      refine g_if_ge X 28 dX6_head_20 (by decide) hw (fun hw => ?_) (fun hw => ?_)
      · refine g_aload_n X dX6_head_28 0 rfl ?_
        refine g_iload_n X dX6_head_29 1 rfl ?_
        refine g_calli (pc' := 33) (rest := []) rfl (fun H locs ls d qR qL => g_runV X cw_X6_82 iv_X6_partOn ⟨Nat.le_of_ble_eq_true rfl, Nat.le_of_ble_eq_true rfl⟩ dX6_head_30 (c_X6_partOn l E n M18 t p1 _ hw) hk1 rfl rfl (Nat.le_of_ble_eq_true rfl) ⟨Nat.le_of_ble_eq_true rfl, Nat.le_of_ble_eq_true rfl⟩ qR qL) (fun x21 M20 hw => ?_)
        exact g_iret X hr hlk hSz hOld (Nat.le_refl _) dX6_head_33 hw
      · refine g_bipush X (-5 : Int32) dX6_head_23 (by decide) ?_
        refine g_goto X 33 dX6_head_25 (by decide) ?_
        exact g_iret X hr hlk hSz hOld (Nat.le_refl _) dX6_head_33 hw
  · refine g_iconst X (-1 : Int32) dX6_head_8 (by decide) ?_
    exact g_iret X hr hlk hSz hOld (Nat.le_refl _) dX6_head_9 hw
theorem dX6_gauge_0 : decode cX6_gauge 0 = .ok (.aload_n 0, 1) := by decide +kernel
theorem dX6_gauge_1 : decode cX6_gauge 1 = .ok (.iload_n 1, 1) := by decide +kernel
theorem dX6_gauge_2 : decode cX6_gauge 2 = .ok (.invokevirtual 77, 3) := by decide +kernel
theorem dX6_gauge_5 : decode cX6_gauge 5 = .ok (.ifCond .ne 25, 3) := by decide +kernel
theorem dX6_gauge_8 : decode cX6_gauge 8 = .ok (.iload_n 2, 1) := by decide +kernel
theorem dX6_gauge_9 : decode cX6_gauge 9 = .ok (.iconst 0, 1) := by decide +kernel
theorem dX6_gauge_10 : decode cX6_gauge 10 = .ok (.iconst 3, 1) := by decide +kernel
theorem dX6_gauge_11 : decode cX6_gauge 11 = .ok (.invokestatic 50, 3) := by decide +kernel
theorem dX6_gauge_14 : decode cX6_gauge 14 = .ok (.ifCond .eq 16, 3) := by decide +kernel
theorem dX6_gauge_17 : decode cX6_gauge 17 = .ok (.iload_n 2, 1) := by decide +kernel
theorem dX6_gauge_18 : decode cX6_gauge 18 = .ok (.iconst 1, 1) := by decide +kernel
theorem dX6_gauge_19 : decode cX6_gauge 19 = .ok (.if_icmp .le 15, 3) := by decide +kernel
theorem dX6_gauge_22 : decode cX6_gauge 22 = .ok (.aload_n 0, 1) := by decide +kernel
theorem dX6_gauge_23 : decode cX6_gauge 23 = .ok (.iload_n 1, 1) := by decide +kernel
theorem dX6_gauge_24 : decode cX6_gauge 24 = .ok (.invokevirtual 82, 3) := by decide +kernel
theorem dX6_gauge_27 : decode cX6_gauge 27 = .ok (.ifCond .ge 7, 3) := by decide +kernel
theorem dX6_gauge_30 : decode cX6_gauge 30 = .ok (.invokestatic 189, 3) := by decide +kernel
theorem dX6_gauge_33 : decode cX6_gauge 33 = .ok (.dreturn, 1) := by decide +kernel
theorem dX6_gauge_34 : decode cX6_gauge 34 = .ok (.iload_n 2, 1) := by decide +kernel
theorem dX6_gauge_35 : decode cX6_gauge 35 = .ok (.ifCond .ne 11, 3) := by decide +kernel
theorem dX6_gauge_38 : decode cX6_gauge 38 = .ok (.aload_n 0, 1) := by decide +kernel
theorem dX6_gauge_39 : decode cX6_gauge 39 = .ok (.iload_n 1, 1) := by decide +kernel
theorem dX6_gauge_40 : decode cX6_gauge 40 = .ok (.invokevirtual 94, 3) := by decide +kernel
theorem dX6_gauge_43 : decode cX6_gauge 43 = .ok (.goto 35, 3) := by decide +kernel
theorem dX6_gauge_46 : decode cX6_gauge 46 = .ok (.iload_n 2, 1) := by decide +kernel
theorem dX6_gauge_47 : decode cX6_gauge 47 = .ok (.iconst 1, 1) := by decide +kernel
theorem dX6_gauge_48 : decode cX6_gauge 48 = .ok (.if_icmp .ne 11, 3) := by decide +kernel
theorem dX6_gauge_51 : decode cX6_gauge 51 = .ok (.aload_n 0, 1) := by decide +kernel
theorem dX6_gauge_52 : decode cX6_gauge 52 = .ok (.iload_n 1, 1) := by decide +kernel
theorem dX6_gauge_53 : decode cX6_gauge 53 = .ok (.invokevirtual 116, 3) := by decide +kernel
theorem dX6_gauge_56 : decode cX6_gauge 56 = .ok (.goto 22, 3) := by decide +kernel
theorem dX6_gauge_59 : decode cX6_gauge 59 = .ok (.iload_n 2, 1) := by decide +kernel
theorem dX6_gauge_60 : decode cX6_gauge 60 = .ok (.iconst 2, 1) := by decide +kernel
theorem dX6_gauge_61 : decode cX6_gauge 61 = .ok (.if_icmp .ne 12, 3) := by decide +kernel
theorem dX6_gauge_64 : decode cX6_gauge 64 = .ok (.aload_n 0, 1) := by decide +kernel
theorem dX6_gauge_65 : decode cX6_gauge 65 = .ok (.iload_n 1, 1) := by decide +kernel
theorem dX6_gauge_66 : decode cX6_gauge 66 = .ok (.iconst 0, 1) := by decide +kernel
theorem dX6_gauge_67 : decode cX6_gauge 67 = .ok (.invokevirtual 58, 3) := by decide +kernel
theorem dX6_gauge_70 : decode cX6_gauge 70 = .ok (.goto 8, 3) := by decide +kernel
theorem dX6_gauge_73 : decode cX6_gauge 73 = .ok (.aload_n 0, 1) := by decide +kernel
theorem dX6_gauge_74 : decode cX6_gauge 74 = .ok (.iload_n 1, 1) := by decide +kernel
theorem dX6_gauge_75 : decode cX6_gauge 75 = .ok (.invokevirtual 111, 3) := by decide +kernel
theorem dX6_gauge_78 : decode cX6_gauge 78 = .ok (.dreturn, 1) := by decide +kernel
abbrev rmX6_gauge : Room := { frames := 2, cells := 0, slots := 0, locals := 43 }
def w_X6_gauge (n : Nat) (M : Mem) (t : Nat) (p1 : Int32) (p2 : Int32) (K : UInt64 → Mem → Prop) : Prop := ((t ≤ n ∧ kd t = (6, 0)) ∧ w_X6_noHead n M t p1 (fun x3 M2 => ((¬ x3 = 0 → w_X6_nothing n M2  (fun z5 M4 => K z5 M4)) ∧ (x3 = 0 → w_X6_in n M2 p2 (0 : Int32) (3 : Int32) (fun x7 M6 => ((x7 = 0 → w_X6_nothing n M6  (fun z9 M8 => K z9 M8)) ∧ (¬ x7 = 0 → ((p2 ≤ (1 : Int32) → ((¬ p2 = 0 → ((¬ p2 = (1 : Int32) → ((¬ p2 = (2 : Int32) → w_X6_present n M6 t p1 (fun z11 M10 => K z11 M10)) ∧ (p2 = (2 : Int32) → w_X6_traced n M6 t p1 (0 : Int32) (fun z13 M12 => K z13 M12)))) ∧ (p2 = (1 : Int32) → w_X6_factor n M6 t p1 (fun z15 M14 => K z15 M14)))) ∧ (p2 = 0 → w_X6_gain n M6 t p1 (fun z17 M16 => K z17 M16)))) ∧ (¬ p2 ≤ (1 : Int32) → w_X6_partOn n M6 t p1 (fun x19 M18 => ((0 ≤ x19 → ((¬ p2 = 0 → ((¬ p2 = (1 : Int32) → ((¬ p2 = (2 : Int32) → w_X6_present n M18 t p1 (fun z21 M20 => K z21 M20)) ∧ (p2 = (2 : Int32) → w_X6_traced n M18 t p1 (0 : Int32) (fun z23 M22 => K z23 M22)))) ∧ (p2 = (1 : Int32) → w_X6_factor n M18 t p1 (fun z25 M24 => K z25 M24)))) ∧ (p2 = 0 → w_X6_gain n M18 t p1 (fun z27 M26 => K z27 M26)))) ∧ (¬ 0 ≤ x19 → w_X6_nothing n M18  (fun z29 M28 => K z29 M28)))))))))))))
set_option maxHeartbeats 4000000 in
set_option maxRecDepth 20000 in
theorem c_X6_gauge (l : Launch) (E : Gl) (n : Nat) (M : Mem) (t : Nat) (p1 : Int32) (p2 : Int32) (K : UInt64 → Mem → Prop) (hw : w_X6_gauge n M t p1 p2 K) : CT E l yX6_gauge cX6_gauge 3 (some .double) rmX6_gauge n M [rV t, iV p1, iV p2] (PD E n K) := by
  refine g_met l (by decide) (Nat.le_of_ble_eq_true rfl) ?_
  intro p e s m args below meth c X hr hlk hnm hSz hOld
  change CX E p s m c _ _ RX6 at X
  unfold w_X6_gauge at hw
  refine g_aload_n X dX6_gauge_0 0 rfl ?_
  refine g_iload_n X dX6_gauge_1 1 rfl ?_
  obtain ⟨hk1, hw⟩ := hw
  refine g_calli (pc' := 5) (rest := []) rfl (fun H locs ls d qR qL => g_runV X cw_X6_77 iv_X6_noHead ⟨Nat.le_of_ble_eq_true rfl, Nat.le_of_ble_eq_true rfl⟩ dX6_gauge_2 (c_X6_noHead l E n M t p1 _ hw) hk1 rfl rfl (Nat.le_of_ble_eq_true rfl) ⟨Nat.le_of_ble_eq_true rfl, Nat.le_of_ble_eq_true rfl⟩ qR qL) (fun x3 M2 hw => ?_)
  refine g_if_ne X 30 dX6_gauge_5 (by decide) hw (fun hw => ?_) (fun hw => ?_)
  · refine g_calld (pc' := 33) (rest := []) rfl (fun H locs ls d qR qL => g_runS X cw_X6_189 wt_X6_nothing ⟨Nat.le_of_ble_eq_true rfl, Nat.le_of_ble_eq_true rfl⟩ dX6_gauge_30 (c_X6_nothing l E n M2  _ hw) rfl rfl (Nat.le_of_ble_eq_true rfl) ⟨Nat.le_of_ble_eq_true rfl, Nat.le_of_ble_eq_true rfl⟩ qR qL) (fun z5 M4 hw => ?_)
    exact g_dret X hr hlk hSz hOld (Nat.le_refl _) dX6_gauge_33 hw
  · refine g_iload_n X dX6_gauge_8 2 rfl ?_
    refine g_iconst X (0 : Int32) dX6_gauge_9 (by decide) ?_
    refine g_iconst X (3 : Int32) dX6_gauge_10 (by decide) ?_
    refine g_calli (pc' := 14) (rest := []) rfl (fun H locs ls d qR qL => g_runS X cw_X6_50 wt_X6_in ⟨Nat.le_of_ble_eq_true rfl, Nat.le_of_ble_eq_true rfl⟩ dX6_gauge_11 (c_X6_in l E n M2 p2 (0 : Int32) (3 : Int32) _ hw) rfl rfl (Nat.le_of_ble_eq_true rfl) ⟨Nat.le_of_ble_eq_true rfl, Nat.le_of_ble_eq_true rfl⟩ qR qL) (fun x7 M6 hw => ?_)
    refine g_if_eq X 30 dX6_gauge_14 (by decide) hw (fun hw => ?_) (fun hw => ?_)
    · refine g_calld (pc' := 33) (rest := []) rfl (fun H locs ls d qR qL => g_runS X cw_X6_189 wt_X6_nothing ⟨Nat.le_of_ble_eq_true rfl, Nat.le_of_ble_eq_true rfl⟩ dX6_gauge_30 (c_X6_nothing l E n M6  _ hw) rfl rfl (Nat.le_of_ble_eq_true rfl) ⟨Nat.le_of_ble_eq_true rfl, Nat.le_of_ble_eq_true rfl⟩ qR qL) (fun z9 M8 hw => ?_)
      exact g_dret X hr hlk hSz hOld (Nat.le_refl _) dX6_gauge_33 hw
    · refine g_iload_n X dX6_gauge_17 2 rfl ?_
      refine g_iconst X (1 : Int32) dX6_gauge_18 (by decide) ?_
      refine g_icmp_le X 34 dX6_gauge_19 (by decide) hw (fun hw => ?_) (fun hw => ?_)
      · refine g_iload_n X dX6_gauge_34 2 rfl ?_
        refine g_if_ne X 46 dX6_gauge_35 (by decide) hw (fun hw => ?_) (fun hw => ?_)
        · refine g_iload_n X dX6_gauge_46 2 rfl ?_
          refine g_iconst X (1 : Int32) dX6_gauge_47 (by decide) ?_
          refine g_icmp_ne X 59 dX6_gauge_48 (by decide) hw (fun hw => ?_) (fun hw => ?_)
          · refine g_iload_n X dX6_gauge_59 2 rfl ?_
            refine g_iconst X (2 : Int32) dX6_gauge_60 (by decide) ?_
            refine g_icmp_ne X 73 dX6_gauge_61 (by decide) hw (fun hw => ?_) (fun hw => ?_)
            · refine g_aload_n X dX6_gauge_73 0 rfl ?_
              refine g_iload_n X dX6_gauge_74 1 rfl ?_
              refine g_calld (pc' := 78) (rest := []) rfl (fun H locs ls d qR qL => g_runV X cw_X6_111 iv_X6_present ⟨Nat.le_of_ble_eq_true rfl, Nat.le_of_ble_eq_true rfl⟩ dX6_gauge_75 (c_X6_present l E n M6 t p1 _ hw) hk1 rfl rfl (Nat.le_of_ble_eq_true rfl) ⟨Nat.le_of_ble_eq_true rfl, Nat.le_of_ble_eq_true rfl⟩ qR qL) (fun z11 M10 hw => ?_)
              exact g_dret X hr hlk hSz hOld (Nat.le_refl _) dX6_gauge_78 hw
            · refine g_aload_n X dX6_gauge_64 0 rfl ?_
              refine g_iload_n X dX6_gauge_65 1 rfl ?_
              refine g_iconst X (0 : Int32) dX6_gauge_66 (by decide) ?_
              refine g_calld (pc' := 70) (rest := []) rfl (fun H locs ls d qR qL => g_runV X cw_X6_58 iv_X6_traced ⟨Nat.le_of_ble_eq_true rfl, Nat.le_of_ble_eq_true rfl⟩ dX6_gauge_67 (c_X6_traced l E n M6 t p1 (0 : Int32) _ hw) hk1 rfl rfl (Nat.le_of_ble_eq_true rfl) ⟨Nat.le_of_ble_eq_true rfl, Nat.le_of_ble_eq_true rfl⟩ qR qL) (fun z13 M12 hw => ?_)
              refine g_goto X 78 dX6_gauge_70 (by decide) ?_
              exact g_dret X hr hlk hSz hOld (Nat.le_refl _) dX6_gauge_78 hw
          · refine g_aload_n X dX6_gauge_51 0 rfl ?_
            refine g_iload_n X dX6_gauge_52 1 rfl ?_
            refine g_calld (pc' := 56) (rest := []) rfl (fun H locs ls d qR qL => g_runV X cw_X6_116 iv_X6_factor ⟨Nat.le_of_ble_eq_true rfl, Nat.le_of_ble_eq_true rfl⟩ dX6_gauge_53 (c_X6_factor l E n M6 t p1 _ hw) hk1 rfl rfl (Nat.le_of_ble_eq_true rfl) ⟨Nat.le_of_ble_eq_true rfl, Nat.le_of_ble_eq_true rfl⟩ qR qL) (fun z15 M14 hw => ?_)
            refine g_goto X 78 dX6_gauge_56 (by decide) ?_
            exact g_dret X hr hlk hSz hOld (Nat.le_refl _) dX6_gauge_78 hw
        · refine g_aload_n X dX6_gauge_38 0 rfl ?_
          refine g_iload_n X dX6_gauge_39 1 rfl ?_
          refine g_calld (pc' := 43) (rest := []) rfl (fun H locs ls d qR qL => g_runV X cw_X6_94 iv_X6_gain ⟨Nat.le_of_ble_eq_true rfl, Nat.le_of_ble_eq_true rfl⟩ dX6_gauge_40 (c_X6_gain l E n M6 t p1 _ hw) hk1 rfl rfl (Nat.le_of_ble_eq_true rfl) ⟨Nat.le_of_ble_eq_true rfl, Nat.le_of_ble_eq_true rfl⟩ qR qL) (fun z17 M16 hw => ?_)
          refine g_goto X 78 dX6_gauge_43 (by decide) ?_
          exact g_dret X hr hlk hSz hOld (Nat.le_refl _) dX6_gauge_78 hw
      · refine g_aload_n X dX6_gauge_22 0 rfl ?_
        refine g_iload_n X dX6_gauge_23 1 rfl ?_
        refine g_calli (pc' := 27) (rest := []) rfl (fun H locs ls d qR qL => g_runV X cw_X6_82 iv_X6_partOn ⟨Nat.le_of_ble_eq_true rfl, Nat.le_of_ble_eq_true rfl⟩ dX6_gauge_24 (c_X6_partOn l E n M6 t p1 _ hw) hk1 rfl rfl (Nat.le_of_ble_eq_true rfl) ⟨Nat.le_of_ble_eq_true rfl, Nat.le_of_ble_eq_true rfl⟩ qR qL) (fun x19 M18 hw => ?_)
        refine g_if_ge X 34 dX6_gauge_27 (by decide) hw (fun hw => ?_) (fun hw => ?_)
        · refine g_iload_n X dX6_gauge_34 2 rfl ?_
          refine g_if_ne X 46 dX6_gauge_35 (by decide) hw (fun hw => ?_) (fun hw => ?_)
          · refine g_iload_n X dX6_gauge_46 2 rfl ?_
            refine g_iconst X (1 : Int32) dX6_gauge_47 (by decide) ?_
            refine g_icmp_ne X 59 dX6_gauge_48 (by decide) hw (fun hw => ?_) (fun hw => ?_)
            · refine g_iload_n X dX6_gauge_59 2 rfl ?_
              refine g_iconst X (2 : Int32) dX6_gauge_60 (by decide) ?_
              refine g_icmp_ne X 73 dX6_gauge_61 (by decide) hw (fun hw => ?_) (fun hw => ?_)
              · refine g_aload_n X dX6_gauge_73 0 rfl ?_
                refine g_iload_n X dX6_gauge_74 1 rfl ?_
                refine g_calld (pc' := 78) (rest := []) rfl (fun H locs ls d qR qL => g_runV X cw_X6_111 iv_X6_present ⟨Nat.le_of_ble_eq_true rfl, Nat.le_of_ble_eq_true rfl⟩ dX6_gauge_75 (c_X6_present l E n M18 t p1 _ hw) hk1 rfl rfl (Nat.le_of_ble_eq_true rfl) ⟨Nat.le_of_ble_eq_true rfl, Nat.le_of_ble_eq_true rfl⟩ qR qL) (fun z21 M20 hw => ?_)
                exact g_dret X hr hlk hSz hOld (Nat.le_refl _) dX6_gauge_78 hw
              · refine g_aload_n X dX6_gauge_64 0 rfl ?_
                refine g_iload_n X dX6_gauge_65 1 rfl ?_
                refine g_iconst X (0 : Int32) dX6_gauge_66 (by decide) ?_
                refine g_calld (pc' := 70) (rest := []) rfl (fun H locs ls d qR qL => g_runV X cw_X6_58 iv_X6_traced ⟨Nat.le_of_ble_eq_true rfl, Nat.le_of_ble_eq_true rfl⟩ dX6_gauge_67 (c_X6_traced l E n M18 t p1 (0 : Int32) _ hw) hk1 rfl rfl (Nat.le_of_ble_eq_true rfl) ⟨Nat.le_of_ble_eq_true rfl, Nat.le_of_ble_eq_true rfl⟩ qR qL) (fun z23 M22 hw => ?_)
                refine g_goto X 78 dX6_gauge_70 (by decide) ?_
                exact g_dret X hr hlk hSz hOld (Nat.le_refl _) dX6_gauge_78 hw
            · refine g_aload_n X dX6_gauge_51 0 rfl ?_
              refine g_iload_n X dX6_gauge_52 1 rfl ?_
              refine g_calld (pc' := 56) (rest := []) rfl (fun H locs ls d qR qL => g_runV X cw_X6_116 iv_X6_factor ⟨Nat.le_of_ble_eq_true rfl, Nat.le_of_ble_eq_true rfl⟩ dX6_gauge_53 (c_X6_factor l E n M18 t p1 _ hw) hk1 rfl rfl (Nat.le_of_ble_eq_true rfl) ⟨Nat.le_of_ble_eq_true rfl, Nat.le_of_ble_eq_true rfl⟩ qR qL) (fun z25 M24 hw => ?_)
              refine g_goto X 78 dX6_gauge_56 (by decide) ?_
              exact g_dret X hr hlk hSz hOld (Nat.le_refl _) dX6_gauge_78 hw
          · refine g_aload_n X dX6_gauge_38 0 rfl ?_
            refine g_iload_n X dX6_gauge_39 1 rfl ?_
            refine g_calld (pc' := 43) (rest := []) rfl (fun H locs ls d qR qL => g_runV X cw_X6_94 iv_X6_gain ⟨Nat.le_of_ble_eq_true rfl, Nat.le_of_ble_eq_true rfl⟩ dX6_gauge_40 (c_X6_gain l E n M18 t p1 _ hw) hk1 rfl rfl (Nat.le_of_ble_eq_true rfl) ⟨Nat.le_of_ble_eq_true rfl, Nat.le_of_ble_eq_true rfl⟩ qR qL) (fun z27 M26 hw => ?_)
            refine g_goto X 78 dX6_gauge_43 (by decide) ?_
            exact g_dret X hr hlk hSz hOld (Nat.le_refl _) dX6_gauge_78 hw
        · refine g_calld (pc' := 33) (rest := []) rfl (fun H locs ls d qR qL => g_runS X cw_X6_189 wt_X6_nothing ⟨Nat.le_of_ble_eq_true rfl, Nat.le_of_ble_eq_true rfl⟩ dX6_gauge_30 (c_X6_nothing l E n M18  _ hw) rfl rfl (Nat.le_of_ble_eq_true rfl) ⟨Nat.le_of_ble_eq_true rfl, Nat.le_of_ble_eq_true rfl⟩ qR qL) (fun z29 M28 hw => ?_)
          exact g_dret X hr hlk hSz hOld (Nat.le_refl _) dX6_gauge_33 hw
theorem dJxf58ca_isNaN_12338_0 : decode cJxf58ca_isNaN_12338 0 = .ok (.fload_n 0, 1) := by decide +kernel
theorem dJxf58ca_isNaN_12338_1 : decode cJxf58ca_isNaN_12338 1 = .ok (.fload_n 0, 1) := by decide +kernel
theorem dJxf58ca_isNaN_12338_2 : decode cJxf58ca_isNaN_12338 2 = .ok (.fcmp .l, 1) := by decide +kernel
theorem dJxf58ca_isNaN_12338_3 : decode cJxf58ca_isNaN_12338 3 = .ok (.ifCond .eq 7, 3) := by decide +kernel
theorem dJxf58ca_isNaN_12338_6 : decode cJxf58ca_isNaN_12338 6 = .ok (.iconst 1, 1) := by decide +kernel
theorem dJxf58ca_isNaN_12338_7 : decode cJxf58ca_isNaN_12338 7 = .ok (.goto 4, 3) := by decide +kernel
theorem dJxf58ca_isNaN_12338_10 : decode cJxf58ca_isNaN_12338 10 = .ok (.iconst 0, 1) := by decide +kernel
theorem dJxf58ca_isNaN_12338_11 : decode cJxf58ca_isNaN_12338 11 = .ok (.ireturn, 1) := by decide +kernel
abbrev rmJxf58ca_isNaN_12338 : Room := { frames := 0, cells := 0, slots := 0, locals := 0 }
def w_Jxf58ca_isNaN_12338 (n : Nat) (M : Mem) (p1 : UInt32) (K : Int32 → Mem → Prop) : Prop := (((Op.cmpValue (FP.fcmp p1 p1) CmpOp.l) = 0 → K (0 : Int32) M) ∧ (¬ (Op.cmpValue (FP.fcmp p1 p1) CmpOp.l) = 0 → K (1 : Int32) M))
set_option maxHeartbeats 4000000 in
set_option maxRecDepth 20000 in
theorem c_Jxf58ca_isNaN_12338 (l : Launch) (E : Gl) (n : Nat) (M : Mem) (p1 : UInt32) (K : Int32 → Mem → Prop) (hw : w_Jxf58ca_isNaN_12338 n M p1 K) : CT E l yJxf58ca_isNaN_12338 cJxf58ca_isNaN_12338 1 (some .boolean) rmJxf58ca_isNaN_12338 n M [fV p1] (PI E n K) := by
  refine g_metF l (by decide +kernel) (Nat.le_of_ble_eq_true rfl) ?_
  intro p e s m args below meth c X hr hlk hnm hSz hOld
  change CX E p s m c _ _ RJxf58ca at X
  unfold w_Jxf58ca_isNaN_12338 at hw
  refine g_fload_n X dJxf58ca_isNaN_12338_0 0 rfl ?_
  refine g_fload_n X dJxf58ca_isNaN_12338_1 0 rfl ?_
  refine g_fcmp X dJxf58ca_isNaN_12338_2 ?_
  refine g_if_eq X 10 dJxf58ca_isNaN_12338_3 (by decide) hw (fun hw => ?_) (fun hw => ?_)
  · refine g_iconst X (0 : Int32) dJxf58ca_isNaN_12338_10 (by decide) ?_
    exact g_zret X hr hlk hSz hOld (Nat.le_refl _) dJxf58ca_isNaN_12338_11 ⟨rfl, hw⟩
  · refine g_iconst X (1 : Int32) dJxf58ca_isNaN_12338_6 (by decide) ?_
    refine g_goto X 11 dJxf58ca_isNaN_12338_7 (by decide) ?_
    exact g_zret X hr hlk hSz hOld (Nat.le_refl _) dJxf58ca_isNaN_12338_11 ⟨rfl, hw⟩
theorem dJxf58ca_floatToIntBits_5c35a_0 : decode cJxf58ca_floatToIntBits_5c35a 0 = .ok (.fload_n 0, 1) := by decide +kernel
theorem dJxf58ca_floatToIntBits_5c35a_1 : decode cJxf58ca_floatToIntBits_5c35a 1 = .ok (.invokestatic 59, 3) := by decide +kernel
theorem dJxf58ca_floatToIntBits_5c35a_4 : decode cJxf58ca_floatToIntBits_5c35a 4 = .ok (.ifCond .ne 8, 3) := by decide +kernel
theorem dJxf58ca_floatToIntBits_5c35a_7 : decode cJxf58ca_floatToIntBits_5c35a 7 = .ok (.fload_n 0, 1) := by decide +kernel
theorem dJxf58ca_floatToIntBits_5c35a_8 : decode cJxf58ca_floatToIntBits_5c35a 8 = .ok (.invokestatic 74, 3) := by decide +kernel
theorem dJxf58ca_floatToIntBits_5c35a_11 : decode cJxf58ca_floatToIntBits_5c35a 11 = .ok (.ireturn, 1) := by decide +kernel
theorem dJxf58ca_floatToIntBits_5c35a_12 : decode cJxf58ca_floatToIntBits_5c35a 12 = .ok (.ldc 77, 2) := by decide +kernel
theorem dJxf58ca_floatToIntBits_5c35a_14 : decode cJxf58ca_floatToIntBits_5c35a 14 = .ok (.ireturn, 1) := by decide +kernel
abbrev rmJxf58ca_floatToIntBits_5c35a : Room := { frames := 1, cells := 0, slots := 0, locals := 24 }
def w_Jxf58ca_floatToIntBits_5c35a (n : Nat) (M : Mem) (p1 : UInt32) (K : Int32 → Mem → Prop) : Prop := w_Jxf58ca_isNaN_12338 n M p1 (fun x2 M1 => ((¬ x2 = 0 → K (2143289344 : Int32) M1) ∧ (x2 = 0 → K (UInt32.toInt32 p1) M1)))
set_option maxHeartbeats 4000000 in
set_option maxRecDepth 20000 in
theorem c_Jxf58ca_floatToIntBits_5c35a (l : Launch) (E : Gl) (n : Nat) (M : Mem) (p1 : UInt32) (K : Int32 → Mem → Prop) (hw : w_Jxf58ca_floatToIntBits_5c35a n M p1 K) : CT E l yJxf58ca_floatToIntBits_5c35a cJxf58ca_floatToIntBits_5c35a 1 (some .int) rmJxf58ca_floatToIntBits_5c35a n M [fV p1] (PI E n K) := by
  refine g_metF l (by decide +kernel) (Nat.le_of_ble_eq_true rfl) ?_
  intro p e s m args below meth c X hr hlk hnm hSz hOld
  change CX E p s m c _ _ RJxf58ca at X
  unfold w_Jxf58ca_floatToIntBits_5c35a at hw
  refine g_fload_n X dJxf58ca_floatToIntBits_5c35a_0 0 rfl ?_
  refine g_calli (pc' := 4) (rest := []) rfl (fun H locs ls d qR qL => g_runS X cw_Jxf58ca_59 wt_Jxf58ca_isNaN_12338 ⟨Nat.le_of_ble_eq_true rfl, Nat.le_of_ble_eq_true rfl⟩ dJxf58ca_floatToIntBits_5c35a_1 (c_Jxf58ca_isNaN_12338 l E n M p1 _ hw) rfl rfl (Nat.le_of_ble_eq_true rfl) ⟨Nat.le_of_ble_eq_true rfl, Nat.le_of_ble_eq_true rfl⟩ qR qL) (fun x2 M1 hw => ?_)
  refine g_if_ne X 12 dJxf58ca_floatToIntBits_5c35a_4 (by decide) hw (fun hw => ?_) (fun hw => ?_)
  · refine g_ldc X (2143289344 : Int32) dJxf58ca_floatToIntBits_5c35a_12 wk_Jxf58ca_77 ?_
    exact g_iret X hr hlk hSz hOld (Nat.le_refl _) dJxf58ca_floatToIntBits_5c35a_14 hw
  · refine g_fload_n X dJxf58ca_floatToIntBits_5c35a_7 0 rfl ?_
    refine g_natF2I X wm_Jxf58ca_74 wv_floatToRawIntBits wt_floatToRawIntBits wiq_Jxf58ca dJxf58ca_floatToIntBits_5c35a_8 (by decide) ⟨by decide, by decide⟩ ?_
    exact g_iret X hr hlk hSz hOld (Nat.le_refl _) dJxf58ca_floatToIntBits_5c35a_11 hw
theorem dX6_display_0 : decode cX6_display 0 = .ok (.aload_n 0, 1) := by decide +kernel
theorem dX6_display_1 : decode cX6_display 1 = .ok (.iload_n 1, 1) := by decide +kernel
theorem dX6_display_2 : decode cX6_display 2 = .ok (.invokevirtual 77, 3) := by decide +kernel
theorem dX6_display_5 : decode cX6_display 5 = .ok (.ifCond .eq 5, 3) := by decide +kernel
theorem dX6_display_8 : decode cX6_display 8 = .ok (.iconst (-1), 1) := by decide +kernel
theorem dX6_display_9 : decode cX6_display 9 = .ok (.ireturn, 1) := by decide +kernel
theorem dX6_display_10 : decode cX6_display 10 = .ok (.aload_n 0, 1) := by decide +kernel
theorem dX6_display_11 : decode cX6_display 11 = .ok (.iload_n 1, 1) := by decide +kernel
theorem dX6_display_12 : decode cX6_display 12 = .ok (.invokevirtual 82, 3) := by decide +kernel
theorem dX6_display_15 : decode cX6_display 15 = .ok (.ifCond .ge 8, 3) := by decide +kernel
theorem dX6_display_18 : decode cX6_display 18 = .ok (.bipush (-5), 2) := by decide +kernel
theorem dX6_display_20 : decode cX6_display 20 = .ok (.goto 12, 3) := by decide +kernel
theorem dX6_display_23 : decode cX6_display 23 = .ok (.aload_n 0, 1) := by decide +kernel
theorem dX6_display_24 : decode cX6_display 24 = .ok (.iload_n 1, 1) := by decide +kernel
theorem dX6_display_25 : decode cX6_display 25 = .ok (.invokevirtual 111, 3) := by decide +kernel
theorem dX6_display_28 : decode cX6_display 28 = .ok (.d2f, 1) := by decide +kernel
theorem dX6_display_29 : decode cX6_display 29 = .ok (.invokestatic 193, 3) := by decide +kernel
theorem dX6_display_32 : decode cX6_display 32 = .ok (.ireturn, 1) := by decide +kernel
abbrev rmX6_display : Room := { frames := 2, cells := 0, slots := 0, locals := 44 }
def w_X6_display (n : Nat) (M : Mem) (t : Nat) (p1 : Int32) (K : Int32 → Mem → Prop) : Prop := ((t ≤ n ∧ kd t = (6, 0)) ∧ w_X6_noHead n M t p1 (fun x3 M2 => ((x3 = 0 → w_X6_partOn n M2 t p1 (fun x5 M4 => ((0 ≤ x5 → w_X6_present n M4 t p1 (fun z7 M6 => (vf_n32 (FP.d2f z7) ∧ w_Jxf58ca_floatToIntBits_5c35a n M6 (FP.d2f z7) (fun x9 M8 => K x9 M8)))) ∧ (¬ 0 ≤ x5 → K (-5 : Int32) M4)))) ∧ (¬ x3 = 0 → K (-1 : Int32) M2))))
set_option maxHeartbeats 4000000 in
set_option maxRecDepth 20000 in
theorem c_X6_display (l : Launch) (E : Gl) (n : Nat) (M : Mem) (t : Nat) (p1 : Int32) (K : Int32 → Mem → Prop) (hw : w_X6_display n M t p1 K) : CT E l yX6_display cX6_display 2 (some .int) rmX6_display n M [rV t, iV p1] (PI E n K) := by
  refine g_met l (by decide) (Nat.le_of_ble_eq_true rfl) ?_
  intro p e s m args below meth c X hr hlk hnm hSz hOld
  change CX E p s m c _ _ RX6 at X
  unfold w_X6_display at hw
  refine g_aload_n X dX6_display_0 0 rfl ?_
  refine g_iload_n X dX6_display_1 1 rfl ?_
  obtain ⟨hk1, hw⟩ := hw
  refine g_calli (pc' := 5) (rest := []) rfl (fun H locs ls d qR qL => g_runV X cw_X6_77 iv_X6_noHead ⟨Nat.le_of_ble_eq_true rfl, Nat.le_of_ble_eq_true rfl⟩ dX6_display_2 (c_X6_noHead l E n M t p1 _ hw) hk1 rfl rfl (Nat.le_of_ble_eq_true rfl) ⟨Nat.le_of_ble_eq_true rfl, Nat.le_of_ble_eq_true rfl⟩ qR qL) (fun x3 M2 hw => ?_)
  refine g_if_eq X 10 dX6_display_5 (by decide) hw (fun hw => ?_) (fun hw => ?_)
  · refine g_aload_n X dX6_display_10 0 rfl ?_
    refine g_iload_n X dX6_display_11 1 rfl ?_
    refine g_calli (pc' := 15) (rest := []) rfl (fun H locs ls d qR qL => g_runV X cw_X6_82 iv_X6_partOn ⟨Nat.le_of_ble_eq_true rfl, Nat.le_of_ble_eq_true rfl⟩ dX6_display_12 (c_X6_partOn l E n M2 t p1 _ hw) hk1 rfl rfl (Nat.le_of_ble_eq_true rfl) ⟨Nat.le_of_ble_eq_true rfl, Nat.le_of_ble_eq_true rfl⟩ qR qL) (fun x5 M4 hw => ?_)
    refine g_if_ge X 23 dX6_display_15 (by decide) hw (fun hw => ?_) (fun hw => ?_)
    · refine g_aload_n X dX6_display_23 0 rfl ?_
      refine g_iload_n X dX6_display_24 1 rfl ?_
      refine g_calld (pc' := 28) (rest := []) rfl (fun H locs ls d qR qL => g_runV X cw_X6_111 iv_X6_present ⟨Nat.le_of_ble_eq_true rfl, Nat.le_of_ble_eq_true rfl⟩ dX6_display_25 (c_X6_present l E n M4 t p1 _ hw) hk1 rfl rfl (Nat.le_of_ble_eq_true rfl) ⟨Nat.le_of_ble_eq_true rfl, Nat.le_of_ble_eq_true rfl⟩ qR qL) (fun z7 M6 hw => ?_)
      refine g_d2f X dX6_display_28 hw (fun hw => ?_)
      refine g_calli (pc' := 32) (rest := []) rfl (fun H locs ls d qR qL => g_runS X cw_X6_193 wt_Jxf58ca_floatToIntBits_5c35a ⟨Nat.le_of_ble_eq_true rfl, Nat.le_of_ble_eq_true rfl⟩ dX6_display_29 (c_Jxf58ca_floatToIntBits_5c35a l E n M6 (FP.d2f z7) _ hw) rfl rfl (Nat.le_of_ble_eq_true rfl) ⟨Nat.le_of_ble_eq_true rfl, Nat.le_of_ble_eq_true rfl⟩ qR qL) (fun x9 M8 hw => ?_)
      exact g_iret X hr hlk hSz hOld (Nat.le_refl _) dX6_display_32 hw
    · refine g_bipush X (-5 : Int32) dX6_display_18 (by decide) ?_
      refine g_goto X 32 dX6_display_20 (by decide) ?_
      exact g_iret X hr hlk hSz hOld (Nat.le_refl _) dX6_display_32 hw
  · refine g_iconst X (-1 : Int32) dX6_display_8 (by decide) ?_
    exact g_iret X hr hlk hSz hOld (Nat.le_refl _) dX6_display_9 hw
theorem dX6_placeOf_0 : decode cX6_placeOf 0 = .ok (.iconst 0, 1) := by decide +kernel
theorem dX6_placeOf_1 : decode cX6_placeOf 1 = .ok (.istore_n 2, 1) := by decide +kernel
theorem dX6_placeOf_2 : decode cX6_placeOf 2 = .ok (.iload_n 2, 1) := by decide +kernel
theorem dX6_placeOf_3 : decode cX6_placeOf 3 = .ok (.aload_n 0, 1) := by decide +kernel
theorem dX6_placeOf_4 : decode cX6_placeOf 4 = .ok (.getfield 7, 3) := by decide +kernel
theorem dX6_placeOf_7 : decode cX6_placeOf 7 = .ok (.bipush 11, 2) := by decide +kernel
theorem dX6_placeOf_9 : decode cX6_placeOf 9 = .ok (.iaload, 1) := by decide +kernel
theorem dX6_placeOf_10 : decode cX6_placeOf 10 = .ok (.if_icmp .ge 25, 3) := by decide +kernel
theorem dX6_placeOf_13 : decode cX6_placeOf 13 = .ok (.aload_n 0, 1) := by decide +kernel
theorem dX6_placeOf_14 : decode cX6_placeOf 14 = .ok (.getfield 7, 3) := by decide +kernel
theorem dX6_placeOf_17 : decode cX6_placeOf 17 = .ok (.sipush 572, 3) := by decide +kernel
theorem dX6_placeOf_20 : decode cX6_placeOf 20 = .ok (.iload_n 2, 1) := by decide +kernel
theorem dX6_placeOf_21 : decode cX6_placeOf 21 = .ok (.iadd, 1) := by decide +kernel
theorem dX6_placeOf_22 : decode cX6_placeOf 22 = .ok (.iaload, 1) := by decide +kernel
theorem dX6_placeOf_23 : decode cX6_placeOf 23 = .ok (.iload_n 1, 1) := by decide +kernel
theorem dX6_placeOf_24 : decode cX6_placeOf 24 = .ok (.if_icmp .ne 5, 3) := by decide +kernel
theorem dX6_placeOf_27 : decode cX6_placeOf 27 = .ok (.iload_n 2, 1) := by decide +kernel
theorem dX6_placeOf_28 : decode cX6_placeOf 28 = .ok (.ireturn, 1) := by decide +kernel
theorem dX6_placeOf_29 : decode cX6_placeOf 29 = .ok (.iinc 2 1, 3) := by decide +kernel
theorem dX6_placeOf_32 : decode cX6_placeOf 32 = .ok (.goto (-30), 3) := by decide +kernel
theorem dX6_placeOf_35 : decode cX6_placeOf 35 = .ok (.bipush (-5), 2) := by decide +kernel
theorem dX6_placeOf_37 : decode cX6_placeOf 37 = .ok (.ireturn, 1) := by decide +kernel
abbrev rmX6_placeOf : Room := { frames := 0, cells := 0, slots := 0, locals := 0 }
def w_X6_placeOf_L2 (n : Nat) (K : Int32 → Mem → Prop) : Nat → Mem → Nat → Int32 → Int32 → Prop
  | 0, _, _, _, _ => False
  | fuel + 1, M, o0, a1, a2 => ((o0 ≤ n ∧ kd o0 = (6, 0)) ∧ (∀ r2, r2 = gR M o0 0 → ((r2 ≤ n ∧ (kd r2).1 = 7 ∧ vp_in (11 : Int32) (kd r2).2) ∧ (∀ x3, x3 = gI M r2 (Int32.toNatClampNeg (11 : Int32)) → ((x3 ≤ a2 → K (-5 : Int32) M) ∧ (¬ x3 ≤ a2 → (∀ r4, r4 = gR M o0 0 → ((r4 ≤ n ∧ (kd r4).1 = 7 ∧ vp_in ((572 : Int32) + a2) (kd r4).2) ∧ (∀ x5, x5 = gI M r4 (Int32.toNatClampNeg ((572 : Int32) + a2)) → ((¬ x5 = a1 → (∀ x6, x6 = a2 + (1 : Int32) → w_X6_placeOf_L2 n K fuel M o0 a1 x6)) ∧ (x5 = a1 → K a2 M)))))))))))
def w_X6_placeOf (n : Nat) (M : Mem) (t : Nat) (p1 : Int32) (K : Int32 → Mem → Prop) : Prop := w_X6_placeOf_L2 n K 4000 M t p1 (0 : Int32)
set_option maxHeartbeats 4000000 in
set_option maxRecDepth 20000 in
theorem c_X6_placeOf (l : Launch) (E : Gl) (n : Nat) (M : Mem) (t : Nat) (p1 : Int32) (K : Int32 → Mem → Prop) (hw : w_X6_placeOf n M t p1 K) : CT E l yX6_placeOf cX6_placeOf 3 (some .int) rmX6_placeOf n M [rV t, iV p1] (PI E n K) := by
  refine g_met l (by decide) (Nat.le_of_ble_eq_true rfl) ?_
  intro p e s m args below meth c X hr hlk hnm hSz hOld
  change CX E p s m c _ _ RX6 at X
  have L2 : ∀ (fuel : Nat) (M : Mem) (o0 : Nat) (a1 : Int32) (a2 : Int32), w_X6_placeOf_L2 n K fuel M o0 a1 a2 → G E p l e rmX6_placeOf s m args below meth c 3 n M 0 0 (MQD lw_cs below (PI E n K) args s rmX6_placeOf.cells rmX6_placeOf.slots (Ab E)) 2 [(0, rV o0), (1, iV a1), (2, iV a2)] [] := by
    intro fuel
    induction fuel with
    | zero => intro M o0 a1 a2 hw; exact False.elim hw
    | succ fuel ih =>
      intro M o0 a1 a2 hw
      unfold w_X6_placeOf_L2 at hw
      refine g_iload_n X dX6_placeOf_2 2 rfl ?_
      refine g_aload_n X dX6_placeOf_3 0 rfl ?_
      obtain ⟨hk1, hw⟩ := hw
      refine g_get X (rV (gR M o0 0)) dX6_placeOf_4 fl_X6_7 (fun _ => rfl) ⟨hk1, hw⟩ (fun hw => ?_)
      refine g_topR (fun r2 hr2 => ?_)
      have hw := hw r2 hr2
      refine g_bipush X (11 : Int32) dX6_placeOf_7 (by decide) ?_
      refine g_iald X dX6_placeOf_9 hw (fun hw => ?_)
      refine g_topI (fun x3 hx3 => ?_)
      have hw := hw x3 hx3
      refine g_icmp_ge X 35 dX6_placeOf_10 (by decide) hw (fun hw => ?_) (fun hw => ?_)
      · refine g_bipush X (-5 : Int32) dX6_placeOf_35 (by decide) ?_
        exact g_iret X hr hlk hSz hOld (Nat.le_refl _) dX6_placeOf_37 hw
      · refine g_aload_n X dX6_placeOf_13 0 rfl ?_
        refine g_get X (rV (gR M o0 0)) dX6_placeOf_14 fl_X6_7 (fun _ => rfl) ⟨hk1, hw⟩ (fun hw => ?_)
        refine g_topR (fun r4 hr4 => ?_)
        have hw := hw r4 hr4
        refine g_sipush X (572 : Int32) dX6_placeOf_17 (by decide) ?_
        refine g_iload_n X dX6_placeOf_20 2 rfl ?_
        refine g_iadd X dX6_placeOf_21 ?_
        refine g_iald X dX6_placeOf_22 hw (fun hw => ?_)
        refine g_topI (fun x5 hx5 => ?_)
        have hw := hw x5 hx5
        refine g_iload_n X dX6_placeOf_23 1 rfl ?_
        refine g_icmp_ne X 29 dX6_placeOf_24 (by decide) hw (fun hw => ?_) (fun hw => ?_)
        · obtain ⟨x6, hx6⟩ : ∃ y : Int32, y = a2 + (1 : Int32) := ⟨_, rfl⟩
          have hw := hw x6 hx6
          refine g_iinc (lv' := [(2, iV x6), (0, rV o0), (1, iV a1)]) X x6 dX6_placeOf_29 2 rfl (by rw [hx6]; rfl) (by decide) rfl ?_
          refine g_goto X 2 dX6_placeOf_32 (by decide) ?_
          refine g_lvsub (lv' := [(0, rV o0), (1, iV a1), (2, iV x6)]) [1, 2, 0] rfl ?_
          exact ih _ _ _ _ hw
        · refine g_iload_n X dX6_placeOf_27 2 rfl ?_
          exact g_iret X hr hlk hSz hOld (Nat.le_refl _) dX6_placeOf_28 hw
  unfold w_X6_placeOf at hw
  refine g_iconst X (0 : Int32) dX6_placeOf_0 (by decide) ?_
  refine g_istore_n (lv' := [(2, iV (0 : Int32)), (0, rV t), (1, iV p1)]) X dX6_placeOf_1 (by decide) rfl ?_
  refine g_lvsub (lv' := [(0, rV t), (1, iV p1), (2, iV (0 : Int32))]) [1, 2, 0] rfl ?_
  exact L2 _ _ _ _ _ hw
theorem dX6_part_0 : decode cX6_part 0 = .ok (.aload_n 0, 1) := by decide +kernel
theorem dX6_part_1 : decode cX6_part 1 = .ok (.iload_n 1, 1) := by decide +kernel
theorem dX6_part_2 : decode cX6_part 2 = .ok (.invokevirtual 199, 3) := by decide +kernel
theorem dX6_part_5 : decode cX6_part 5 = .ok (.ifCond .eq 5, 3) := by decide +kernel
theorem dX6_part_8 : decode cX6_part 8 = .ok (.iconst (-1), 1) := by decide +kernel
theorem dX6_part_9 : decode cX6_part 9 = .ok (.ireturn, 1) := by decide +kernel
theorem dX6_part_10 : decode cX6_part 10 = .ok (.iload_n 2, 1) := by decide +kernel
theorem dX6_part_11 : decode cX6_part 11 = .ok (.iconst 0, 1) := by decide +kernel
theorem dX6_part_12 : decode cX6_part 12 = .ok (.iconst 5, 1) := by decide +kernel
theorem dX6_part_13 : decode cX6_part 13 = .ok (.invokestatic 50, 3) := by decide +kernel
theorem dX6_part_16 : decode cX6_part 16 = .ok (.ifCond .eq 10, 3) := by decide +kernel
theorem dX6_part_19 : decode cX6_part 19 = .ok (.aload_n 0, 1) := by decide +kernel
theorem dX6_part_20 : decode cX6_part 20 = .ok (.iload_n 1, 1) := by decide +kernel
theorem dX6_part_21 : decode cX6_part 21 = .ok (.iload_n 2, 1) := by decide +kernel
theorem dX6_part_22 : decode cX6_part 22 = .ok (.invokevirtual 108, 3) := by decide +kernel
theorem dX6_part_25 : decode cX6_part 25 = .ok (.ireturn, 1) := by decide +kernel
theorem dX6_part_26 : decode cX6_part 26 = .ok (.iload_n 2, 1) := by decide +kernel
theorem dX6_part_27 : decode cX6_part 27 = .ok (.tableswitch 79 6 8 #[25, 50, 73], 25) := by decide +kernel
theorem dX6_part_52 : decode cX6_part 52 = .ok (.aload_n 0, 1) := by decide +kernel
theorem dX6_part_53 : decode cX6_part 53 = .ok (.iload_n 1, 1) := by decide +kernel
theorem dX6_part_54 : decode cX6_part 54 = .ok (.bipush 6, 2) := by decide +kernel
theorem dX6_part_56 : decode cX6_part 56 = .ok (.invokevirtual 108, 3) := by decide +kernel
theorem dX6_part_59 : decode cX6_part 59 = .ok (.ifCond .ne 8, 3) := by decide +kernel
theorem dX6_part_62 : decode cX6_part 62 = .ok (.bipush (-5), 2) := by decide +kernel
theorem dX6_part_64 : decode cX6_part 64 = .ok (.goto 12, 3) := by decide +kernel
theorem dX6_part_67 : decode cX6_part 67 = .ok (.aload_n 0, 1) := by decide +kernel
theorem dX6_part_68 : decode cX6_part 68 = .ok (.iload_n 1, 1) := by decide +kernel
theorem dX6_part_69 : decode cX6_part 69 = .ok (.bipush 6, 2) := by decide +kernel
theorem dX6_part_71 : decode cX6_part 71 = .ok (.invokevirtual 108, 3) := by decide +kernel
theorem dX6_part_74 : decode cX6_part 74 = .ok (.iconst 1, 1) := by decide +kernel
theorem dX6_part_75 : decode cX6_part 75 = .ok (.isub, 1) := by decide +kernel
theorem dX6_part_76 : decode cX6_part 76 = .ok (.ireturn, 1) := by decide +kernel
theorem dX6_part_77 : decode cX6_part 77 = .ok (.aload_n 0, 1) := by decide +kernel
theorem dX6_part_78 : decode cX6_part 78 = .ok (.iload_n 1, 1) := by decide +kernel
theorem dX6_part_79 : decode cX6_part 79 = .ok (.bipush 7, 2) := by decide +kernel
theorem dX6_part_81 : decode cX6_part 81 = .ok (.invokevirtual 108, 3) := by decide +kernel
theorem dX6_part_84 : decode cX6_part 84 = .ok (.ifCond .ne 8, 3) := by decide +kernel
theorem dX6_part_87 : decode cX6_part 87 = .ok (.bipush (-5), 2) := by decide +kernel
theorem dX6_part_89 : decode cX6_part 89 = .ok (.goto 10, 3) := by decide +kernel
theorem dX6_part_92 : decode cX6_part 92 = .ok (.aload_n 0, 1) := by decide +kernel
theorem dX6_part_93 : decode cX6_part 93 = .ok (.iload_n 1, 1) := by decide +kernel
theorem dX6_part_94 : decode cX6_part 94 = .ok (.bipush 7, 2) := by decide +kernel
theorem dX6_part_96 : decode cX6_part 96 = .ok (.invokevirtual 108, 3) := by decide +kernel
theorem dX6_part_99 : decode cX6_part 99 = .ok (.ireturn, 1) := by decide +kernel
theorem dX6_part_100 : decode cX6_part 100 = .ok (.aload_n 0, 1) := by decide +kernel
theorem dX6_part_101 : decode cX6_part 101 = .ok (.iload_n 1, 1) := by decide +kernel
theorem dX6_part_102 : decode cX6_part 102 = .ok (.invokevirtual 202, 3) := by decide +kernel
theorem dX6_part_105 : decode cX6_part 105 = .ok (.ireturn, 1) := by decide +kernel
theorem dX6_part_106 : decode cX6_part 106 = .ok (.bipush (-2), 2) := by decide +kernel
theorem dX6_part_108 : decode cX6_part 108 = .ok (.ireturn, 1) := by decide +kernel
abbrev rmX6_part : Room := { frames := 2, cells := 0, slots := 0, locals := 43 }
def w_X6_part (n : Nat) (M : Mem) (t : Nat) (p1 : Int32) (p2 : Int32) (K : Int32 → Mem → Prop) : Prop := ((t ≤ n ∧ kd t = (6, 0)) ∧ w_X6_noPart n M t p1 (fun x3 M2 => ((x3 = 0 → w_X6_in n M2 p2 (0 : Int32) (5 : Int32) (fun x5 M4 => ((x5 = 0 → ((p2 = (6 : Int32) → w_X6_ofPart n M4 t p1 (6 : Int32) (fun x7 M6 => ((¬ x7 = 0 → w_X6_ofPart n M6 t p1 (6 : Int32) (fun x9 M8 => K (x9 - (1 : Int32)) M8)) ∧ (x7 = 0 → K (-5 : Int32) M6)))) ∧ (¬ p2 = (6 : Int32) → ((p2 = (7 : Int32) → w_X6_ofPart n M4 t p1 (7 : Int32) (fun x11 M10 => ((¬ x11 = 0 → w_X6_ofPart n M10 t p1 (7 : Int32) (fun x13 M12 => K x13 M12)) ∧ (x11 = 0 → K (-5 : Int32) M10)))) ∧ (¬ p2 = (7 : Int32) → ((p2 = (8 : Int32) → w_X6_placeOf n M4 t p1 (fun x15 M14 => K x15 M14)) ∧ (¬ p2 = (8 : Int32) → K (-2 : Int32) M4))))))) ∧ (¬ x5 = 0 → w_X6_ofPart n M4 t p1 p2 (fun x17 M16 => K x17 M16))))) ∧ (¬ x3 = 0 → K (-1 : Int32) M2))))
set_option maxHeartbeats 4000000 in
set_option maxRecDepth 20000 in
theorem c_X6_part (l : Launch) (E : Gl) (n : Nat) (M : Mem) (t : Nat) (p1 : Int32) (p2 : Int32) (K : Int32 → Mem → Prop) (hw : w_X6_part n M t p1 p2 K) : CT E l yX6_part cX6_part 3 (some .int) rmX6_part n M [rV t, iV p1, iV p2] (PI E n K) := by
  refine g_met l (by decide) (Nat.le_of_ble_eq_true rfl) ?_
  intro p e s m args below meth c X hr hlk hnm hSz hOld
  change CX E p s m c _ _ RX6 at X
  unfold w_X6_part at hw
  refine g_aload_n X dX6_part_0 0 rfl ?_
  refine g_iload_n X dX6_part_1 1 rfl ?_
  obtain ⟨hk1, hw⟩ := hw
  refine g_calli (pc' := 5) (rest := []) rfl (fun H locs ls d qR qL => g_runV X cw_X6_199 iv_X6_noPart ⟨Nat.le_of_ble_eq_true rfl, Nat.le_of_ble_eq_true rfl⟩ dX6_part_2 (c_X6_noPart l E n M t p1 _ hw) hk1 rfl rfl (Nat.le_of_ble_eq_true rfl) ⟨Nat.le_of_ble_eq_true rfl, Nat.le_of_ble_eq_true rfl⟩ qR qL) (fun x3 M2 hw => ?_)
  refine g_if_eq X 10 dX6_part_5 (by decide) hw (fun hw => ?_) (fun hw => ?_)
  · refine g_iload_n X dX6_part_10 2 rfl ?_
    refine g_iconst X (0 : Int32) dX6_part_11 (by decide) ?_
    refine g_iconst X (5 : Int32) dX6_part_12 (by decide) ?_
    refine g_calli (pc' := 16) (rest := []) rfl (fun H locs ls d qR qL => g_runS X cw_X6_50 wt_X6_in ⟨Nat.le_of_ble_eq_true rfl, Nat.le_of_ble_eq_true rfl⟩ dX6_part_13 (c_X6_in l E n M2 p2 (0 : Int32) (5 : Int32) _ hw) rfl rfl (Nat.le_of_ble_eq_true rfl) ⟨Nat.le_of_ble_eq_true rfl, Nat.le_of_ble_eq_true rfl⟩ qR qL) (fun x5 M4 hw => ?_)
    refine g_if_eq X 26 dX6_part_16 (by decide) hw (fun hw => ?_) (fun hw => ?_)
    · refine g_iload_n X dX6_part_26 2 rfl ?_
      by_cases q0 : p2 = (6 : Int32)
      · have hw := hw.1 q0
        refine g_swIn (off := 25) X 52 dX6_part_27 (by rw [q0]; decide) (by rw [q0]; decide) (by rw [q0]; decide) (by decide) ?_
        refine g_aload_n X dX6_part_52 0 rfl ?_
        refine g_iload_n X dX6_part_53 1 rfl ?_
        refine g_bipush X (6 : Int32) dX6_part_54 (by decide) ?_
        refine g_calli (pc' := 59) (rest := []) rfl (fun H locs ls d qR qL => g_runV X cw_X6_108 iv_X6_ofPart ⟨Nat.le_of_ble_eq_true rfl, Nat.le_of_ble_eq_true rfl⟩ dX6_part_56 (c_X6_ofPart l E n M4 t p1 (6 : Int32) _ hw) hk1 rfl rfl (Nat.le_of_ble_eq_true rfl) ⟨Nat.le_of_ble_eq_true rfl, Nat.le_of_ble_eq_true rfl⟩ qR qL) (fun x7 M6 hw => ?_)
        refine g_if_ne X 67 dX6_part_59 (by decide) hw (fun hw => ?_) (fun hw => ?_)
        · refine g_aload_n X dX6_part_67 0 rfl ?_
          refine g_iload_n X dX6_part_68 1 rfl ?_
          refine g_bipush X (6 : Int32) dX6_part_69 (by decide) ?_
          refine g_calli (pc' := 74) (rest := []) rfl (fun H locs ls d qR qL => g_runV X cw_X6_108 iv_X6_ofPart ⟨Nat.le_of_ble_eq_true rfl, Nat.le_of_ble_eq_true rfl⟩ dX6_part_71 (c_X6_ofPart l E n M6 t p1 (6 : Int32) _ hw) hk1 rfl rfl (Nat.le_of_ble_eq_true rfl) ⟨Nat.le_of_ble_eq_true rfl, Nat.le_of_ble_eq_true rfl⟩ qR qL) (fun x9 M8 hw => ?_)
          refine g_iconst X (1 : Int32) dX6_part_74 (by decide) ?_
          refine g_isub X dX6_part_75 ?_
          exact g_iret X hr hlk hSz hOld (Nat.le_refl _) dX6_part_76 hw
        · refine g_bipush X (-5 : Int32) dX6_part_62 (by decide) ?_
          refine g_goto X 76 dX6_part_64 (by decide) ?_
          exact g_iret X hr hlk hSz hOld (Nat.le_refl _) dX6_part_76 hw
      have hw := hw.2 q0
      by_cases q1 : p2 = (7 : Int32)
      · have hw := hw.1 q1
        refine g_swIn (off := 50) X 77 dX6_part_27 (by rw [q1]; decide) (by rw [q1]; decide) (by rw [q1]; decide) (by decide) ?_
        refine g_aload_n X dX6_part_77 0 rfl ?_
        refine g_iload_n X dX6_part_78 1 rfl ?_
        refine g_bipush X (7 : Int32) dX6_part_79 (by decide) ?_
        refine g_calli (pc' := 84) (rest := []) rfl (fun H locs ls d qR qL => g_runV X cw_X6_108 iv_X6_ofPart ⟨Nat.le_of_ble_eq_true rfl, Nat.le_of_ble_eq_true rfl⟩ dX6_part_81 (c_X6_ofPart l E n M4 t p1 (7 : Int32) _ hw) hk1 rfl rfl (Nat.le_of_ble_eq_true rfl) ⟨Nat.le_of_ble_eq_true rfl, Nat.le_of_ble_eq_true rfl⟩ qR qL) (fun x11 M10 hw => ?_)
        refine g_if_ne X 92 dX6_part_84 (by decide) hw (fun hw => ?_) (fun hw => ?_)
        · refine g_aload_n X dX6_part_92 0 rfl ?_
          refine g_iload_n X dX6_part_93 1 rfl ?_
          refine g_bipush X (7 : Int32) dX6_part_94 (by decide) ?_
          refine g_calli (pc' := 99) (rest := []) rfl (fun H locs ls d qR qL => g_runV X cw_X6_108 iv_X6_ofPart ⟨Nat.le_of_ble_eq_true rfl, Nat.le_of_ble_eq_true rfl⟩ dX6_part_96 (c_X6_ofPart l E n M10 t p1 (7 : Int32) _ hw) hk1 rfl rfl (Nat.le_of_ble_eq_true rfl) ⟨Nat.le_of_ble_eq_true rfl, Nat.le_of_ble_eq_true rfl⟩ qR qL) (fun x13 M12 hw => ?_)
          exact g_iret X hr hlk hSz hOld (Nat.le_refl _) dX6_part_99 hw
        · refine g_bipush X (-5 : Int32) dX6_part_87 (by decide) ?_
          refine g_goto X 99 dX6_part_89 (by decide) ?_
          exact g_iret X hr hlk hSz hOld (Nat.le_refl _) dX6_part_99 hw
      have hw := hw.2 q1
      by_cases q2 : p2 = (8 : Int32)
      · have hw := hw.1 q2
        refine g_swIn (off := 73) X 100 dX6_part_27 (by rw [q2]; decide) (by rw [q2]; decide) (by rw [q2]; decide) (by decide) ?_
        refine g_aload_n X dX6_part_100 0 rfl ?_
        refine g_iload_n X dX6_part_101 1 rfl ?_
        refine g_calli (pc' := 105) (rest := []) rfl (fun H locs ls d qR qL => g_runV X cw_X6_202 iv_X6_placeOf ⟨Nat.le_of_ble_eq_true rfl, Nat.le_of_ble_eq_true rfl⟩ dX6_part_102 (c_X6_placeOf l E n M4 t p1 _ hw) hk1 rfl rfl (Nat.le_of_ble_eq_true rfl) ⟨Nat.le_of_ble_eq_true rfl, Nat.le_of_ble_eq_true rfl⟩ qR qL) (fun x15 M14 hw => ?_)
        exact g_iret X hr hlk hSz hOld (Nat.le_refl _) dX6_part_105 hw
      have hw := hw.2 q2
      have swn0 := sw_ne (k := 6) (by decide) q0
      have swn1 := sw_ne (k := 7) (by decide) q1
      have swn2 := sw_ne (k := 8) (by decide) q2
      refine g_swOut X 106 dX6_part_27 (by omega) (by decide) ?_
      refine g_bipush X (-2 : Int32) dX6_part_106 (by decide) ?_
      exact g_iret X hr hlk hSz hOld (Nat.le_refl _) dX6_part_108 hw
    · refine g_aload_n X dX6_part_19 0 rfl ?_
      refine g_iload_n X dX6_part_20 1 rfl ?_
      refine g_iload_n X dX6_part_21 2 rfl ?_
      refine g_calli (pc' := 25) (rest := []) rfl (fun H locs ls d qR qL => g_runV X cw_X6_108 iv_X6_ofPart ⟨Nat.le_of_ble_eq_true rfl, Nat.le_of_ble_eq_true rfl⟩ dX6_part_22 (c_X6_ofPart l E n M4 t p1 p2 _ hw) hk1 rfl rfl (Nat.le_of_ble_eq_true rfl) ⟨Nat.le_of_ble_eq_true rfl, Nat.le_of_ble_eq_true rfl⟩ qR qL) (fun x17 M16 hw => ?_)
      exact g_iret X hr hlk hSz hOld (Nat.le_refl _) dX6_part_25 hw
  · refine g_iconst X (-1 : Int32) dX6_part_8 (by decide) ?_
    exact g_iret X hr hlk hSz hOld (Nat.le_refl _) dX6_part_9 hw
theorem dX6_fits_0 : decode cX6_fits 0 = .ok (.aload_n 0, 1) := by decide +kernel
theorem dX6_fits_1 : decode cX6_fits 1 = .ok (.iload_n 1, 1) := by decide +kernel
theorem dX6_fits_2 : decode cX6_fits 2 = .ok (.invokevirtual 199, 3) := by decide +kernel
theorem dX6_fits_5 : decode cX6_fits 5 = .ok (.ifCond .ne 11, 3) := by decide +kernel
theorem dX6_fits_8 : decode cX6_fits 8 = .ok (.aload_n 0, 1) := by decide +kernel
theorem dX6_fits_9 : decode cX6_fits 9 = .ok (.iload_n 2, 1) := by decide +kernel
theorem dX6_fits_10 : decode cX6_fits 10 = .ok (.invokevirtual 77, 3) := by decide +kernel
theorem dX6_fits_13 : decode cX6_fits 13 = .ok (.ifCond .eq 5, 3) := by decide +kernel
theorem dX6_fits_16 : decode cX6_fits 16 = .ok (.iconst (-1), 1) := by decide +kernel
theorem dX6_fits_17 : decode cX6_fits 17 = .ok (.ireturn, 1) := by decide +kernel
theorem dX6_fits_18 : decode cX6_fits 18 = .ok (.aload_n 0, 1) := by decide +kernel
theorem dX6_fits_19 : decode cX6_fits 19 = .ok (.iload_n 2, 1) := by decide +kernel
theorem dX6_fits_20 : decode cX6_fits 20 = .ok (.iload_n 1, 1) := by decide +kernel
theorem dX6_fits_21 : decode cX6_fits 21 = .ok (.invokevirtual 133, 3) := by decide +kernel
theorem dX6_fits_24 : decode cX6_fits 24 = .ok (.ifCond .eq 7, 3) := by decide +kernel
theorem dX6_fits_27 : decode cX6_fits 27 = .ok (.iconst 1, 1) := by decide +kernel
theorem dX6_fits_28 : decode cX6_fits 28 = .ok (.goto 4, 3) := by decide +kernel
theorem dX6_fits_31 : decode cX6_fits 31 = .ok (.iconst 0, 1) := by decide +kernel
theorem dX6_fits_32 : decode cX6_fits 32 = .ok (.ireturn, 1) := by decide +kernel
abbrev rmX6_fits : Room := { frames := 2, cells := 0, slots := 0, locals := 45 }
def w_X6_fits (n : Nat) (M : Mem) (t : Nat) (p1 : Int32) (p2 : Int32) (K : Int32 → Mem → Prop) : Prop := ((t ≤ n ∧ kd t = (6, 0)) ∧ w_X6_noPart n M t p1 (fun x3 M2 => ((¬ x3 = 0 → K (-1 : Int32) M2) ∧ (x3 = 0 → w_X6_noHead n M2 t p2 (fun x5 M4 => ((x5 = 0 → w_X6_takes n M4 t p2 p1 (fun x7 M6 => ((x7 = 0 → K (0 : Int32) M6) ∧ (¬ x7 = 0 → K (1 : Int32) M6)))) ∧ (¬ x5 = 0 → K (-1 : Int32) M4)))))))
set_option maxHeartbeats 4000000 in
set_option maxRecDepth 20000 in
theorem c_X6_fits (l : Launch) (E : Gl) (n : Nat) (M : Mem) (t : Nat) (p1 : Int32) (p2 : Int32) (K : Int32 → Mem → Prop) (hw : w_X6_fits n M t p1 p2 K) : CT E l yX6_fits cX6_fits 3 (some .int) rmX6_fits n M [rV t, iV p1, iV p2] (PI E n K) := by
  refine g_met l (by decide) (Nat.le_of_ble_eq_true rfl) ?_
  intro p e s m args below meth c X hr hlk hnm hSz hOld
  change CX E p s m c _ _ RX6 at X
  unfold w_X6_fits at hw
  refine g_aload_n X dX6_fits_0 0 rfl ?_
  refine g_iload_n X dX6_fits_1 1 rfl ?_
  obtain ⟨hk1, hw⟩ := hw
  refine g_calli (pc' := 5) (rest := []) rfl (fun H locs ls d qR qL => g_runV X cw_X6_199 iv_X6_noPart ⟨Nat.le_of_ble_eq_true rfl, Nat.le_of_ble_eq_true rfl⟩ dX6_fits_2 (c_X6_noPart l E n M t p1 _ hw) hk1 rfl rfl (Nat.le_of_ble_eq_true rfl) ⟨Nat.le_of_ble_eq_true rfl, Nat.le_of_ble_eq_true rfl⟩ qR qL) (fun x3 M2 hw => ?_)
  refine g_if_ne X 16 dX6_fits_5 (by decide) hw (fun hw => ?_) (fun hw => ?_)
  · refine g_iconst X (-1 : Int32) dX6_fits_16 (by decide) ?_
    exact g_iret X hr hlk hSz hOld (Nat.le_refl _) dX6_fits_17 hw
  · refine g_aload_n X dX6_fits_8 0 rfl ?_
    refine g_iload_n X dX6_fits_9 2 rfl ?_
    refine g_calli (pc' := 13) (rest := []) rfl (fun H locs ls d qR qL => g_runV X cw_X6_77 iv_X6_noHead ⟨Nat.le_of_ble_eq_true rfl, Nat.le_of_ble_eq_true rfl⟩ dX6_fits_10 (c_X6_noHead l E n M2 t p2 _ hw) hk1 rfl rfl (Nat.le_of_ble_eq_true rfl) ⟨Nat.le_of_ble_eq_true rfl, Nat.le_of_ble_eq_true rfl⟩ qR qL) (fun x5 M4 hw => ?_)
    refine g_if_eq X 18 dX6_fits_13 (by decide) hw (fun hw => ?_) (fun hw => ?_)
    · refine g_aload_n X dX6_fits_18 0 rfl ?_
      refine g_iload_n X dX6_fits_19 2 rfl ?_
      refine g_iload_n X dX6_fits_20 1 rfl ?_
      refine g_calli (pc' := 24) (rest := []) rfl (fun H locs ls d qR qL => g_runV X cw_X6_133 iv_X6_takes ⟨Nat.le_of_ble_eq_true rfl, Nat.le_of_ble_eq_true rfl⟩ dX6_fits_21 (c_X6_takes l E n M4 t p2 p1 _ hw) hk1 rfl rfl (Nat.le_of_ble_eq_true rfl) ⟨Nat.le_of_ble_eq_true rfl, Nat.le_of_ble_eq_true rfl⟩ qR qL) (fun x7 M6 hw => ?_)
      refine g_if_eq X 31 dX6_fits_24 (by decide) hw (fun hw => ?_) (fun hw => ?_)
      · refine g_iconst X (0 : Int32) dX6_fits_31 (by decide) ?_
        exact g_iret X hr hlk hSz hOld (Nat.le_refl _) dX6_fits_32 hw
      · refine g_iconst X (1 : Int32) dX6_fits_27 (by decide) ?_
        refine g_goto X 32 dX6_fits_28 (by decide) ?_
        exact g_iret X hr hlk hSz hOld (Nat.le_refl _) dX6_fits_32 hw
    · refine g_iconst X (-1 : Int32) dX6_fits_16 (by decide) ?_
      exact g_iret X hr hlk hSz hOld (Nat.le_refl _) dX6_fits_17 hw
theorem dX6_value_0 : decode cX6_value 0 = .ok (.aload_n 0, 1) := by decide +kernel
theorem dX6_value_1 : decode cX6_value 1 = .ok (.iload_n 1, 1) := by decide +kernel
theorem dX6_value_2 : decode cX6_value 2 = .ok (.invokevirtual 199, 3) := by decide +kernel
theorem dX6_value_5 : decode cX6_value 5 = .ok (.ifCond .ne 12, 3) := by decide +kernel
theorem dX6_value_8 : decode cX6_value 8 = .ok (.aload_n 0, 1) := by decide +kernel
theorem dX6_value_9 : decode cX6_value 9 = .ok (.iload_n 1, 1) := by decide +kernel
theorem dX6_value_10 : decode cX6_value 10 = .ok (.iconst 4, 1) := by decide +kernel
theorem dX6_value_11 : decode cX6_value 11 = .ok (.invokevirtual 108, 3) := by decide +kernel
theorem dX6_value_14 : decode cX6_value 14 = .ok (.ifCond .ne 9, 3) := by decide +kernel
theorem dX6_value_17 : decode cX6_value 17 = .ok (.invokestatic 189, 3) := by decide +kernel
theorem dX6_value_20 : decode cX6_value 20 = .ok (.goto 12, 3) := by decide +kernel
theorem dX6_value_23 : decode cX6_value 23 = .ok (.aload_n 0, 1) := by decide +kernel
theorem dX6_value_24 : decode cX6_value 24 = .ok (.getfield 19, 3) := by decide +kernel
theorem dX6_value_27 : decode cX6_value 27 = .ok (.bipush 99, 2) := by decide +kernel
theorem dX6_value_29 : decode cX6_value 29 = .ok (.iload_n 1, 1) := by decide +kernel
theorem dX6_value_30 : decode cX6_value 30 = .ok (.iadd, 1) := by decide +kernel
theorem dX6_value_31 : decode cX6_value 31 = .ok (.daload, 1) := by decide +kernel
theorem dX6_value_32 : decode cX6_value 32 = .ok (.dreturn, 1) := by decide +kernel
abbrev rmX6_value : Room := { frames := 2, cells := 0, slots := 0, locals := 43 }
def w_X6_value (n : Nat) (M : Mem) (t : Nat) (p1 : Int32) (K : UInt64 → Mem → Prop) : Prop := ((t ≤ n ∧ kd t = (6, 0)) ∧ w_X6_noPart n M t p1 (fun x3 M2 => ((¬ x3 = 0 → w_X6_nothing n M2  (fun z5 M4 => K z5 M4)) ∧ (x3 = 0 → w_X6_ofPart n M2 t p1 (4 : Int32) (fun x7 M6 => ((¬ x7 = 0 → (∀ r8, r8 = gR M6 t 3 → ((r8 ≤ n ∧ (kd r8).1 = 8 ∧ vp_in ((99 : Int32) + p1) (kd r8).2) ∧ (∀ z9, z9 = gD M6 r8 (Int32.toNatClampNeg ((99 : Int32) + p1)) → K z9 M6)))) ∧ (x7 = 0 → w_X6_nothing n M6  (fun z11 M10 => K z11 M10))))))))
set_option maxHeartbeats 4000000 in
set_option maxRecDepth 20000 in
theorem c_X6_value (l : Launch) (E : Gl) (n : Nat) (M : Mem) (t : Nat) (p1 : Int32) (K : UInt64 → Mem → Prop) (hw : w_X6_value n M t p1 K) : CT E l yX6_value cX6_value 2 (some .double) rmX6_value n M [rV t, iV p1] (PD E n K) := by
  refine g_met l (by decide) (Nat.le_of_ble_eq_true rfl) ?_
  intro p e s m args below meth c X hr hlk hnm hSz hOld
  change CX E p s m c _ _ RX6 at X
  unfold w_X6_value at hw
  refine g_aload_n X dX6_value_0 0 rfl ?_
  refine g_iload_n X dX6_value_1 1 rfl ?_
  obtain ⟨hk1, hw⟩ := hw
  refine g_calli (pc' := 5) (rest := []) rfl (fun H locs ls d qR qL => g_runV X cw_X6_199 iv_X6_noPart ⟨Nat.le_of_ble_eq_true rfl, Nat.le_of_ble_eq_true rfl⟩ dX6_value_2 (c_X6_noPart l E n M t p1 _ hw) hk1 rfl rfl (Nat.le_of_ble_eq_true rfl) ⟨Nat.le_of_ble_eq_true rfl, Nat.le_of_ble_eq_true rfl⟩ qR qL) (fun x3 M2 hw => ?_)
  refine g_if_ne X 17 dX6_value_5 (by decide) hw (fun hw => ?_) (fun hw => ?_)
  · refine g_calld (pc' := 20) (rest := []) rfl (fun H locs ls d qR qL => g_runS X cw_X6_189 wt_X6_nothing ⟨Nat.le_of_ble_eq_true rfl, Nat.le_of_ble_eq_true rfl⟩ dX6_value_17 (c_X6_nothing l E n M2  _ hw) rfl rfl (Nat.le_of_ble_eq_true rfl) ⟨Nat.le_of_ble_eq_true rfl, Nat.le_of_ble_eq_true rfl⟩ qR qL) (fun z5 M4 hw => ?_)
    refine g_goto X 32 dX6_value_20 (by decide) ?_
    exact g_dret X hr hlk hSz hOld (Nat.le_refl _) dX6_value_32 hw
  · refine g_aload_n X dX6_value_8 0 rfl ?_
    refine g_iload_n X dX6_value_9 1 rfl ?_
    refine g_iconst X (4 : Int32) dX6_value_10 (by decide) ?_
    refine g_calli (pc' := 14) (rest := []) rfl (fun H locs ls d qR qL => g_runV X cw_X6_108 iv_X6_ofPart ⟨Nat.le_of_ble_eq_true rfl, Nat.le_of_ble_eq_true rfl⟩ dX6_value_11 (c_X6_ofPart l E n M2 t p1 (4 : Int32) _ hw) hk1 rfl rfl (Nat.le_of_ble_eq_true rfl) ⟨Nat.le_of_ble_eq_true rfl, Nat.le_of_ble_eq_true rfl⟩ qR qL) (fun x7 M6 hw => ?_)
    refine g_if_ne X 23 dX6_value_14 (by decide) hw (fun hw => ?_) (fun hw => ?_)
    · refine g_aload_n X dX6_value_23 0 rfl ?_
      refine g_get X (rV (gR M6 t 3)) dX6_value_24 fl_X6_19 (fun _ => rfl) ⟨hk1, hw⟩ (fun hw => ?_)
      refine g_topR (fun r8 hr8 => ?_)
      have hw := hw r8 hr8
      refine g_bipush X (99 : Int32) dX6_value_27 (by decide) ?_
      refine g_iload_n X dX6_value_29 1 rfl ?_
      refine g_iadd X dX6_value_30 ?_
      refine g_dald X dX6_value_31 hw (fun hw => ?_)
      refine g_topD (fun z9 hz9 => ?_)
      have hw := hw z9 hz9
      exact g_dret X hr hlk hSz hOld (Nat.le_refl _) dX6_value_32 hw
    · refine g_calld (pc' := 20) (rest := []) rfl (fun H locs ls d qR qL => g_runS X cw_X6_189 wt_X6_nothing ⟨Nat.le_of_ble_eq_true rfl, Nat.le_of_ble_eq_true rfl⟩ dX6_value_17 (c_X6_nothing l E n M6  _ hw) rfl rfl (Nat.le_of_ble_eq_true rfl) ⟨Nat.le_of_ble_eq_true rfl, Nat.le_of_ble_eq_true rfl⟩ qR qL) (fun z11 M10 hw => ?_)
      refine g_goto X 32 dX6_value_20 (by decide) ?_
      exact g_dret X hr hlk hSz hOld (Nat.le_refl _) dX6_value_32 hw
theorem dX6_foretold_0 : decode cX6_foretold 0 = .ok (.aload_n 0, 1) := by decide +kernel
theorem dX6_foretold_1 : decode cX6_foretold 1 = .ok (.iload_n 1, 1) := by decide +kernel
theorem dX6_foretold_2 : decode cX6_foretold 2 = .ok (.invokevirtual 199, 3) := by decide +kernel
theorem dX6_foretold_5 : decode cX6_foretold 5 = .ok (.ifCond .ne 11, 3) := by decide +kernel
theorem dX6_foretold_8 : decode cX6_foretold 8 = .ok (.aload_n 0, 1) := by decide +kernel
theorem dX6_foretold_9 : decode cX6_foretold 9 = .ok (.iload_n 2, 1) := by decide +kernel
theorem dX6_foretold_10 : decode cX6_foretold 10 = .ok (.invokevirtual 77, 3) := by decide +kernel
theorem dX6_foretold_13 : decode cX6_foretold 13 = .ok (.ifCond .eq 7, 3) := by decide +kernel
theorem dX6_foretold_16 : decode cX6_foretold 16 = .ok (.invokestatic 189, 3) := by decide +kernel
theorem dX6_foretold_19 : decode cX6_foretold 19 = .ok (.dreturn, 1) := by decide +kernel
theorem dX6_foretold_20 : decode cX6_foretold 20 = .ok (.aload_n 0, 1) := by decide +kernel
theorem dX6_foretold_21 : decode cX6_foretold 21 = .ok (.getfield 7, 3) := by decide +kernel
theorem dX6_foretold_24 : decode cX6_foretold 24 = .ok (.iconst 0, 1) := by decide +kernel
theorem dX6_foretold_25 : decode cX6_foretold 25 = .ok (.iaload, 1) := by decide +kernel
theorem dX6_foretold_26 : decode cX6_foretold 26 = .ok (.iconst 1, 1) := by decide +kernel
theorem dX6_foretold_27 : decode cX6_foretold 27 = .ok (.isub, 1) := by decide +kernel
theorem dX6_foretold_28 : decode cX6_foretold 28 = .ok (.istore_n 3, 1) := by decide +kernel
theorem dX6_foretold_29 : decode cX6_foretold 29 = .ok (.aload_n 0, 1) := by decide +kernel
theorem dX6_foretold_30 : decode cX6_foretold 30 = .ok (.aload_n 0, 1) := by decide +kernel
theorem dX6_foretold_31 : decode cX6_foretold 31 = .ok (.getfield 19, 3) := by decide +kernel
theorem dX6_foretold_34 : decode cX6_foretold 34 = .ok (.iconst 0, 1) := by decide +kernel
theorem dX6_foretold_35 : decode cX6_foretold 35 = .ok (.daload, 1) := by decide +kernel
theorem dX6_foretold_36 : decode cX6_foretold 36 = .ok (.aload_n 0, 1) := by decide +kernel
theorem dX6_foretold_37 : decode cX6_foretold 37 = .ok (.iload_n 1, 1) := by decide +kernel
theorem dX6_foretold_38 : decode cX6_foretold 38 = .ok (.iconst 1, 1) := by decide +kernel
theorem dX6_foretold_39 : decode cX6_foretold 39 = .ok (.invokevirtual 108, 3) := by decide +kernel
theorem dX6_foretold_42 : decode cX6_foretold 42 = .ok (.ldc2_w 73, 3) := by decide +kernel
theorem dX6_foretold_45 : decode cX6_foretold 45 = .ok (.aload_n 0, 1) := by decide +kernel
theorem dX6_foretold_46 : decode cX6_foretold 46 = .ok (.iload_n 1, 1) := by decide +kernel
theorem dX6_foretold_47 : decode cX6_foretold 47 = .ok (.iconst 2, 1) := by decide +kernel
theorem dX6_foretold_48 : decode cX6_foretold 48 = .ok (.invokevirtual 108, 3) := by decide +kernel
theorem dX6_foretold_51 : decode cX6_foretold 51 = .ok (.i2d, 1) := by decide +kernel
theorem dX6_foretold_52 : decode cX6_foretold 52 = .ok (.dmul, 1) := by decide +kernel
theorem dX6_foretold_53 : decode cX6_foretold 53 = .ok (.iload_n 3, 1) := by decide +kernel
theorem dX6_foretold_54 : decode cX6_foretold 54 = .ok (.invokevirtual 88, 3) := by decide +kernel
theorem dX6_foretold_57 : decode cX6_foretold 57 = .ok (.dstore 4, 2) := by decide +kernel
theorem dX6_foretold_59 : decode cX6_foretold 59 = .ok (.aload_n 0, 1) := by decide +kernel
theorem dX6_foretold_60 : decode cX6_foretold 60 = .ok (.getfield 19, 3) := by decide +kernel
theorem dX6_foretold_63 : decode cX6_foretold 63 = .ok (.iconst 0, 1) := by decide +kernel
theorem dX6_foretold_64 : decode cX6_foretold 64 = .ok (.daload, 1) := by decide +kernel
theorem dX6_foretold_65 : decode cX6_foretold 65 = .ok (.dload 4, 2) := by decide +kernel
theorem dX6_foretold_67 : decode cX6_foretold 67 = .ok (.dsub, 1) := by decide +kernel
theorem dX6_foretold_68 : decode cX6_foretold 68 = .ok (.dstore 6, 2) := by decide +kernel
theorem dX6_foretold_70 : decode cX6_foretold 70 = .ok (.dload 6, 2) := by decide +kernel
theorem dX6_foretold_72 : decode cX6_foretold 72 = .ok (.aload_n 0, 1) := by decide +kernel
theorem dX6_foretold_73 : decode cX6_foretold 73 = .ok (.iload_n 1, 1) := by decide +kernel
theorem dX6_foretold_74 : decode cX6_foretold 74 = .ok (.iconst 2, 1) := by decide +kernel
theorem dX6_foretold_75 : decode cX6_foretold 75 = .ok (.invokevirtual 108, 3) := by decide +kernel
theorem dX6_foretold_78 : decode cX6_foretold 78 = .ok (.i2d, 1) := by decide +kernel
theorem dX6_foretold_79 : decode cX6_foretold 79 = .ok (.dmul, 1) := by decide +kernel
theorem dX6_foretold_80 : decode cX6_foretold 80 = .ok (.iload_n 3, 1) := by decide +kernel
theorem dX6_foretold_81 : decode cX6_foretold 81 = .ok (.i2d, 1) := by decide +kernel
theorem dX6_foretold_82 : decode cX6_foretold 82 = .ok (.ddiv, 1) := by decide +kernel
theorem dX6_foretold_83 : decode cX6_foretold 83 = .ok (.aload_n 0, 1) := by decide +kernel
theorem dX6_foretold_84 : decode cX6_foretold 84 = .ok (.iload_n 2, 1) := by decide +kernel
theorem dX6_foretold_85 : decode cX6_foretold 85 = .ok (.invokevirtual 94, 3) := by decide +kernel
theorem dX6_foretold_88 : decode cX6_foretold 88 = .ok (.dmul, 1) := by decide +kernel
theorem dX6_foretold_89 : decode cX6_foretold 89 = .ok (.dstore 8, 2) := by decide +kernel
theorem dX6_foretold_91 : decode cX6_foretold 91 = .ok (.dload 8, 2) := by decide +kernel
theorem dX6_foretold_93 : decode cX6_foretold 93 = .ok (.aload_n 0, 1) := by decide +kernel
theorem dX6_foretold_94 : decode cX6_foretold 94 = .ok (.iload_n 2, 1) := by decide +kernel
theorem dX6_foretold_95 : decode cX6_foretold 95 = .ok (.invokevirtual 116, 3) := by decide +kernel
theorem dX6_foretold_98 : decode cX6_foretold 98 = .ok (.dmul, 1) := by decide +kernel
theorem dX6_foretold_99 : decode cX6_foretold 99 = .ok (.dreturn, 1) := by decide +kernel
abbrev rmX6_foretold : Room := { frames := 2, cells := 0, slots := 0, locals := 43 }
def w_X6_foretold (n : Nat) (M : Mem) (t : Nat) (p1 : Int32) (p2 : Int32) (K : UInt64 → Mem → Prop) : Prop := ((t ≤ n ∧ kd t = (6, 0)) ∧ w_X6_noPart n M t p1 (fun x3 M2 => ((¬ x3 = 0 → w_X6_nothing n M2  (fun z5 M4 => K z5 M4)) ∧ (x3 = 0 → w_X6_noHead n M2 t p2 (fun x7 M6 => ((x7 = 0 → (∀ r8, r8 = gR M6 t 0 → ((r8 ≤ n ∧ (kd r8).1 = 7 ∧ vp_in (0 : Int32) (kd r8).2) ∧ (∀ x9, x9 = gI M6 r8 (Int32.toNatClampNeg (0 : Int32)) → (∀ x10, x10 = x9 - (1 : Int32) → (∀ r11, r11 = gR M6 t 3 → ((r11 ≤ n ∧ (kd r11).1 = 8 ∧ vp_in (0 : Int32) (kd r11).2) ∧ (∀ z12, z12 = gD M6 r11 (Int32.toNatClampNeg (0 : Int32)) → w_X6_ofPart n M6 t p1 (1 : Int32) (fun x14 M13 => w_X6_ofPart n M13 t p1 (2 : Int32) (fun x16 M15 => (vf_n64 (FP.dmul (4652007308841189376 : UInt64) (FP.i2d x16)) ∧ (∀ z17, z17 = FP.dmul (4652007308841189376 : UInt64) (FP.i2d x16) → w_X6_decayed n M15 t z12 x14 z17 x10 (fun z19 M18 => (∀ r20, r20 = gR M18 t 3 → ((r20 ≤ n ∧ (kd r20).1 = 8 ∧ vp_in (0 : Int32) (kd r20).2) ∧ (∀ z21, z21 = gD M18 r20 (Int32.toNatClampNeg (0 : Int32)) → (vf_n64 (FP.dsub z21 z19) ∧ (∀ z22, z22 = FP.dsub z21 z19 → w_X6_ofPart n M18 t p1 (2 : Int32) (fun x24 M23 => (vf_n64 (FP.dmul z22 (FP.i2d x24)) ∧ (∀ z25, z25 = FP.dmul z22 (FP.i2d x24) → (vf_n64 (FP.ddiv z25 (FP.i2d x10)) ∧ (∀ z26, z26 = FP.ddiv z25 (FP.i2d x10) → w_X6_gain n M23 t p2 (fun z28 M27 => (vf_n64 (FP.dmul z26 z28) ∧ (∀ z29, z29 = FP.dmul z26 z28 → w_X6_factor n M27 t p2 (fun z31 M30 => (vf_n64 (FP.dmul z29 z31) ∧ (∀ z32, z32 = FP.dmul z29 z31 → K z32 M30))))))))))))))))))))))))))))) ∧ (¬ x7 = 0 → w_X6_nothing n M6  (fun z34 M33 => K z34 M33))))))))
set_option maxHeartbeats 4000000 in
set_option maxRecDepth 20000 in
theorem c_X6_foretold (l : Launch) (E : Gl) (n : Nat) (M : Mem) (t : Nat) (p1 : Int32) (p2 : Int32) (K : UInt64 → Mem → Prop) (hw : w_X6_foretold n M t p1 p2 K) : CT E l yX6_foretold cX6_foretold 10 (some .double) rmX6_foretold n M [rV t, iV p1, iV p2] (PD E n K) := by
  refine g_met l (by decide) (Nat.le_of_ble_eq_true rfl) ?_
  intro p e s m args below meth c X hr hlk hnm hSz hOld
  change CX E p s m c _ _ RX6 at X
  unfold w_X6_foretold at hw
  refine g_aload_n X dX6_foretold_0 0 rfl ?_
  refine g_iload_n X dX6_foretold_1 1 rfl ?_
  obtain ⟨hk1, hw⟩ := hw
  refine g_calli (pc' := 5) (rest := []) rfl (fun H locs ls d qR qL => g_runV X cw_X6_199 iv_X6_noPart ⟨Nat.le_of_ble_eq_true rfl, Nat.le_of_ble_eq_true rfl⟩ dX6_foretold_2 (c_X6_noPart l E n M t p1 _ hw) hk1 rfl rfl (Nat.le_of_ble_eq_true rfl) ⟨Nat.le_of_ble_eq_true rfl, Nat.le_of_ble_eq_true rfl⟩ qR qL) (fun x3 M2 hw => ?_)
  refine g_if_ne X 16 dX6_foretold_5 (by decide) hw (fun hw => ?_) (fun hw => ?_)
  · refine g_calld (pc' := 19) (rest := []) rfl (fun H locs ls d qR qL => g_runS X cw_X6_189 wt_X6_nothing ⟨Nat.le_of_ble_eq_true rfl, Nat.le_of_ble_eq_true rfl⟩ dX6_foretold_16 (c_X6_nothing l E n M2  _ hw) rfl rfl (Nat.le_of_ble_eq_true rfl) ⟨Nat.le_of_ble_eq_true rfl, Nat.le_of_ble_eq_true rfl⟩ qR qL) (fun z5 M4 hw => ?_)
    exact g_dret X hr hlk hSz hOld (Nat.le_refl _) dX6_foretold_19 hw
  · refine g_aload_n X dX6_foretold_8 0 rfl ?_
    refine g_iload_n X dX6_foretold_9 2 rfl ?_
    refine g_calli (pc' := 13) (rest := []) rfl (fun H locs ls d qR qL => g_runV X cw_X6_77 iv_X6_noHead ⟨Nat.le_of_ble_eq_true rfl, Nat.le_of_ble_eq_true rfl⟩ dX6_foretold_10 (c_X6_noHead l E n M2 t p2 _ hw) hk1 rfl rfl (Nat.le_of_ble_eq_true rfl) ⟨Nat.le_of_ble_eq_true rfl, Nat.le_of_ble_eq_true rfl⟩ qR qL) (fun x7 M6 hw => ?_)
    refine g_if_eq X 20 dX6_foretold_13 (by decide) hw (fun hw => ?_) (fun hw => ?_)
    · refine g_aload_n X dX6_foretold_20 0 rfl ?_
      refine g_get X (rV (gR M6 t 0)) dX6_foretold_21 fl_X6_7 (fun _ => rfl) ⟨hk1, hw⟩ (fun hw => ?_)
      refine g_topR (fun r8 hr8 => ?_)
      have hw := hw r8 hr8
      refine g_iconst X (0 : Int32) dX6_foretold_24 (by decide) ?_
      refine g_iald X dX6_foretold_25 hw (fun hw => ?_)
      refine g_topI (fun x9 hx9 => ?_)
      have hw := hw x9 hx9
      refine g_iconst X (1 : Int32) dX6_foretold_26 (by decide) ?_
      refine g_isub X dX6_foretold_27 ?_
      refine g_topI (fun x10 hx10 => ?_)
      have hw := hw x10 hx10
      refine g_istore_n (lv' := [(3, iV x10), (0, rV t), (1, iV p1), (2, iV p2)]) X dX6_foretold_28 (by decide) rfl ?_
      refine g_aload_n X dX6_foretold_29 1 rfl ?_
      refine g_aload_n X dX6_foretold_30 1 rfl ?_
      refine g_get X (rV (gR M6 t 3)) dX6_foretold_31 fl_X6_19 (fun _ => rfl) ⟨hk1, hw⟩ (fun hw => ?_)
      refine g_topR (fun r11 hr11 => ?_)
      have hw := hw r11 hr11
      refine g_iconst X (0 : Int32) dX6_foretold_34 (by decide) ?_
      refine g_dald X dX6_foretold_35 hw (fun hw => ?_)
      refine g_topD (fun z12 hz12 => ?_)
      have hw := hw z12 hz12
      refine g_aload_n X dX6_foretold_36 1 rfl ?_
      refine g_iload_n X dX6_foretold_37 2 rfl ?_
      refine g_iconst X (1 : Int32) dX6_foretold_38 (by decide) ?_
      refine g_calli (pc' := 42) (rest := [dV z12, rV t]) rfl (fun H locs ls d qR qL => g_runV X cw_X6_108 iv_X6_ofPart ⟨Nat.le_of_ble_eq_true rfl, Nat.le_of_ble_eq_true rfl⟩ dX6_foretold_39 (c_X6_ofPart l E n M6 t p1 (1 : Int32) _ hw) hk1 rfl rfl (Nat.le_of_ble_eq_true rfl) ⟨Nat.le_of_ble_eq_true rfl, Nat.le_of_ble_eq_true rfl⟩ qR qL) (fun x14 M13 hw => ?_)
      refine g_ldcD X (4652007308841189376 : UInt64) dX6_foretold_42 wk_X6_73 ?_
      refine g_aload_n X dX6_foretold_45 1 rfl ?_
      refine g_iload_n X dX6_foretold_46 2 rfl ?_
      refine g_iconst X (2 : Int32) dX6_foretold_47 (by decide) ?_
      refine g_calli (pc' := 51) (rest := [dV (4652007308841189376 : UInt64), iV x14, dV z12, rV t]) rfl (fun H locs ls d qR qL => g_runV X cw_X6_108 iv_X6_ofPart ⟨Nat.le_of_ble_eq_true rfl, Nat.le_of_ble_eq_true rfl⟩ dX6_foretold_48 (c_X6_ofPart l E n M13 t p1 (2 : Int32) _ hw) hk1 rfl rfl (Nat.le_of_ble_eq_true rfl) ⟨Nat.le_of_ble_eq_true rfl, Nat.le_of_ble_eq_true rfl⟩ qR qL) (fun x16 M15 hw => ?_)
      refine g_i2d X dX6_foretold_51 ?_
      refine g_dmul X dX6_foretold_52 hw (fun hw => ?_)
      refine g_topD (fun z17 hz17 => ?_)
      have hw := hw z17 hz17
      refine g_iload_n X dX6_foretold_53 0 rfl ?_
      refine g_calld (pc' := 57) (rest := []) rfl (fun H locs ls d qR qL => g_runV X cw_X6_88 iv_X6_decayed ⟨Nat.le_of_ble_eq_true rfl, Nat.le_of_ble_eq_true rfl⟩ dX6_foretold_54 (c_X6_decayed l E n M15 t z12 x14 z17 x10 _ hw) hk1 rfl rfl (Nat.le_of_ble_eq_true rfl) ⟨Nat.le_of_ble_eq_true rfl, Nat.le_of_ble_eq_true rfl⟩ qR qL) (fun z19 M18 hw => ?_)
      refine g_dstore (lv' := [(4, dV z19), (3, iV x10), (0, rV t), (1, iV p1), (2, iV p2)]) X dX6_foretold_57 (by decide) rfl ?_
      refine g_aload_n X dX6_foretold_59 2 rfl ?_
      refine g_get X (rV (gR M18 t 3)) dX6_foretold_60 fl_X6_19 (fun _ => rfl) ⟨hk1, hw⟩ (fun hw => ?_)
      refine g_topR (fun r20 hr20 => ?_)
      have hw := hw r20 hr20
      refine g_iconst X (0 : Int32) dX6_foretold_63 (by decide) ?_
      refine g_dald X dX6_foretold_64 hw (fun hw => ?_)
      refine g_topD (fun z21 hz21 => ?_)
      have hw := hw z21 hz21
      refine g_dload X dX6_foretold_65 0 rfl ?_
      refine g_dsub X dX6_foretold_67 hw (fun hw => ?_)
      refine g_topD (fun z22 hz22 => ?_)
      have hw := hw z22 hz22
      refine g_dstore (lv' := [(6, dV z22), (4, dV z19), (3, iV x10), (0, rV t), (1, iV p1), (2, iV p2)]) X dX6_foretold_68 (by decide) rfl ?_
      refine g_dload X dX6_foretold_70 0 rfl ?_
      refine g_aload_n X dX6_foretold_72 3 rfl ?_
      refine g_iload_n X dX6_foretold_73 4 rfl ?_
      refine g_iconst X (2 : Int32) dX6_foretold_74 (by decide) ?_
      refine g_calli (pc' := 78) (rest := [dV z22]) rfl (fun H locs ls d qR qL => g_runV X cw_X6_108 iv_X6_ofPart ⟨Nat.le_of_ble_eq_true rfl, Nat.le_of_ble_eq_true rfl⟩ dX6_foretold_75 (c_X6_ofPart l E n M18 t p1 (2 : Int32) _ hw) hk1 rfl rfl (Nat.le_of_ble_eq_true rfl) ⟨Nat.le_of_ble_eq_true rfl, Nat.le_of_ble_eq_true rfl⟩ qR qL) (fun x24 M23 hw => ?_)
      refine g_i2d X dX6_foretold_78 ?_
      refine g_dmul X dX6_foretold_79 hw (fun hw => ?_)
      refine g_topD (fun z25 hz25 => ?_)
      have hw := hw z25 hz25
      refine g_iload_n X dX6_foretold_80 2 rfl ?_
      refine g_i2d X dX6_foretold_81 ?_
      refine g_ddiv X dX6_foretold_82 hw (fun hw => ?_)
      refine g_topD (fun z26 hz26 => ?_)
      have hw := hw z26 hz26
      refine g_aload_n X dX6_foretold_83 3 rfl ?_
      refine g_iload_n X dX6_foretold_84 5 rfl ?_
      refine g_calld (pc' := 88) (rest := [dV z26]) rfl (fun H locs ls d qR qL => g_runV X cw_X6_94 iv_X6_gain ⟨Nat.le_of_ble_eq_true rfl, Nat.le_of_ble_eq_true rfl⟩ dX6_foretold_85 (c_X6_gain l E n M23 t p2 _ hw) hk1 rfl rfl (Nat.le_of_ble_eq_true rfl) ⟨Nat.le_of_ble_eq_true rfl, Nat.le_of_ble_eq_true rfl⟩ qR qL) (fun z28 M27 hw => ?_)
      refine g_dmul X dX6_foretold_88 hw (fun hw => ?_)
      refine g_topD (fun z29 hz29 => ?_)
      have hw := hw z29 hz29
      refine g_dstore (lv' := [(8, dV z29), (6, dV z22), (4, dV z19), (3, iV x10), (0, rV t), (1, iV p1), (2, iV p2)]) X dX6_foretold_89 (by decide) rfl ?_
      refine g_dload X dX6_foretold_91 0 rfl ?_
      refine g_aload_n X dX6_foretold_93 4 rfl ?_
      refine g_iload_n X dX6_foretold_94 6 rfl ?_
      refine g_calld (pc' := 98) (rest := [dV z29]) rfl (fun H locs ls d qR qL => g_runV X cw_X6_116 iv_X6_factor ⟨Nat.le_of_ble_eq_true rfl, Nat.le_of_ble_eq_true rfl⟩ dX6_foretold_95 (c_X6_factor l E n M27 t p2 _ hw) hk1 rfl rfl (Nat.le_of_ble_eq_true rfl) ⟨Nat.le_of_ble_eq_true rfl, Nat.le_of_ble_eq_true rfl⟩ qR qL) (fun z31 M30 hw => ?_)
      refine g_dmul X dX6_foretold_98 hw (fun hw => ?_)
      refine g_topD (fun z32 hz32 => ?_)
      have hw := hw z32 hz32
      exact g_dret X hr hlk hSz hOld (Nat.le_refl _) dX6_foretold_99 hw
    · refine g_calld (pc' := 19) (rest := []) rfl (fun H locs ls d qR qL => g_runS X cw_X6_189 wt_X6_nothing ⟨Nat.le_of_ble_eq_true rfl, Nat.le_of_ble_eq_true rfl⟩ dX6_foretold_16 (c_X6_nothing l E n M6  _ hw) rfl rfl (Nat.le_of_ble_eq_true rfl) ⟨Nat.le_of_ble_eq_true rfl, Nat.le_of_ble_eq_true rfl⟩ qR qL) (fun z34 M33 hw => ?_)
      exact g_dret X hr hlk hSz hOld (Nat.le_refl _) dX6_foretold_19 hw
theorem dJxe99ae_isNaN_b9ae7_0 : decode cJxe99ae_isNaN_b9ae7 0 = .ok (.dload_n 0, 1) := by decide +kernel
theorem dJxe99ae_isNaN_b9ae7_1 : decode cJxe99ae_isNaN_b9ae7 1 = .ok (.dload_n 0, 1) := by decide +kernel
theorem dJxe99ae_isNaN_b9ae7_2 : decode cJxe99ae_isNaN_b9ae7 2 = .ok (.dcmp .l, 1) := by decide +kernel
theorem dJxe99ae_isNaN_b9ae7_3 : decode cJxe99ae_isNaN_b9ae7 3 = .ok (.ifCond .eq 7, 3) := by decide +kernel
theorem dJxe99ae_isNaN_b9ae7_6 : decode cJxe99ae_isNaN_b9ae7 6 = .ok (.iconst 1, 1) := by decide +kernel
theorem dJxe99ae_isNaN_b9ae7_7 : decode cJxe99ae_isNaN_b9ae7 7 = .ok (.goto 4, 3) := by decide +kernel
theorem dJxe99ae_isNaN_b9ae7_10 : decode cJxe99ae_isNaN_b9ae7 10 = .ok (.iconst 0, 1) := by decide +kernel
theorem dJxe99ae_isNaN_b9ae7_11 : decode cJxe99ae_isNaN_b9ae7 11 = .ok (.ireturn, 1) := by decide +kernel
abbrev rmJxe99ae_isNaN_b9ae7 : Room := { frames := 0, cells := 0, slots := 0, locals := 0 }
def w_Jxe99ae_isNaN_b9ae7 (n : Nat) (M : Mem) (p1 : UInt64) (K : Int32 → Mem → Prop) : Prop := (((Op.cmpValue (FP.dcmp p1 p1) CmpOp.l) = 0 → K (0 : Int32) M) ∧ (¬ (Op.cmpValue (FP.dcmp p1 p1) CmpOp.l) = 0 → K (1 : Int32) M))
set_option maxHeartbeats 4000000 in
set_option maxRecDepth 20000 in
theorem c_Jxe99ae_isNaN_b9ae7 (l : Launch) (E : Gl) (n : Nat) (M : Mem) (p1 : UInt64) (K : Int32 → Mem → Prop) (hw : w_Jxe99ae_isNaN_b9ae7 n M p1 K) : CT E l yJxe99ae_isNaN_b9ae7 cJxe99ae_isNaN_b9ae7 2 (some .boolean) rmJxe99ae_isNaN_b9ae7 n M [dV p1] (PI E n K) := by
  refine g_metF l (by decide +kernel) (Nat.le_of_ble_eq_true rfl) ?_
  intro p e s m args below meth c X hr hlk hnm hSz hOld
  change CX E p s m c _ _ RJxe99ae at X
  unfold w_Jxe99ae_isNaN_b9ae7 at hw
  refine g_dload_n X dJxe99ae_isNaN_b9ae7_0 0 rfl ?_
  refine g_dload_n X dJxe99ae_isNaN_b9ae7_1 0 rfl ?_
  refine g_dcmp X dJxe99ae_isNaN_b9ae7_2 ?_
  refine g_if_eq X 10 dJxe99ae_isNaN_b9ae7_3 (by decide) hw (fun hw => ?_) (fun hw => ?_)
  · refine g_iconst X (0 : Int32) dJxe99ae_isNaN_b9ae7_10 (by decide) ?_
    exact g_zret X hr hlk hSz hOld (Nat.le_refl _) dJxe99ae_isNaN_b9ae7_11 ⟨rfl, hw⟩
  · refine g_iconst X (1 : Int32) dJxe99ae_isNaN_b9ae7_6 (by decide) ?_
    refine g_goto X 11 dJxe99ae_isNaN_b9ae7_7 (by decide) ?_
    exact g_zret X hr hlk hSz hOld (Nat.le_refl _) dJxe99ae_isNaN_b9ae7_11 ⟨rfl, hw⟩
theorem dJxe99ae_doubleToLongBits_ccdee_0 : decode cJxe99ae_doubleToLongBits_ccdee 0 = .ok (.dload_n 0, 1) := by decide +kernel
theorem dJxe99ae_doubleToLongBits_ccdee_1 : decode cJxe99ae_doubleToLongBits_ccdee 1 = .ok (.invokestatic 122, 3) := by decide +kernel
theorem dJxe99ae_doubleToLongBits_ccdee_4 : decode cJxe99ae_doubleToLongBits_ccdee 4 = .ok (.ifCond .ne 8, 3) := by decide +kernel
theorem dJxe99ae_doubleToLongBits_ccdee_7 : decode cJxe99ae_doubleToLongBits_ccdee 7 = .ok (.dload_n 0, 1) := by decide +kernel
theorem dJxe99ae_doubleToLongBits_ccdee_8 : decode cJxe99ae_doubleToLongBits_ccdee 8 = .ok (.invokestatic 134, 3) := by decide +kernel
theorem dJxe99ae_doubleToLongBits_ccdee_11 : decode cJxe99ae_doubleToLongBits_ccdee 11 = .ok (.lreturn, 1) := by decide +kernel
theorem dJxe99ae_doubleToLongBits_ccdee_12 : decode cJxe99ae_doubleToLongBits_ccdee 12 = .ok (.ldc2_w 137, 3) := by decide +kernel
theorem dJxe99ae_doubleToLongBits_ccdee_15 : decode cJxe99ae_doubleToLongBits_ccdee 15 = .ok (.lreturn, 1) := by decide +kernel
abbrev rmJxe99ae_doubleToLongBits_ccdee : Room := { frames := 1, cells := 0, slots := 0, locals := 24 }
def w_Jxe99ae_doubleToLongBits_ccdee (n : Nat) (M : Mem) (p1 : UInt64) (K : Int64 → Mem → Prop) : Prop := w_Jxe99ae_isNaN_b9ae7 n M p1 (fun x2 M1 => ((¬ x2 = 0 → K (9221120237041090560 : Int64) M1) ∧ (x2 = 0 → K (UInt64.toInt64 p1) M1)))
set_option maxHeartbeats 4000000 in
set_option maxRecDepth 20000 in
theorem c_Jxe99ae_doubleToLongBits_ccdee (l : Launch) (E : Gl) (n : Nat) (M : Mem) (p1 : UInt64) (K : Int64 → Mem → Prop) (hw : w_Jxe99ae_doubleToLongBits_ccdee n M p1 K) : CT E l yJxe99ae_doubleToLongBits_ccdee cJxe99ae_doubleToLongBits_ccdee 2 (some .long) rmJxe99ae_doubleToLongBits_ccdee n M [dV p1] (PL E n K) := by
  refine g_metF l (by decide +kernel) (Nat.le_of_ble_eq_true rfl) ?_
  intro p e s m args below meth c X hr hlk hnm hSz hOld
  change CX E p s m c _ _ RJxe99ae at X
  unfold w_Jxe99ae_doubleToLongBits_ccdee at hw
  refine g_dload_n X dJxe99ae_doubleToLongBits_ccdee_0 0 rfl ?_
  refine g_calli (pc' := 4) (rest := []) rfl (fun H locs ls d qR qL => g_runS X cw_Jxe99ae_122 wt_Jxe99ae_isNaN_b9ae7 ⟨Nat.le_of_ble_eq_true rfl, Nat.le_of_ble_eq_true rfl⟩ dJxe99ae_doubleToLongBits_ccdee_1 (c_Jxe99ae_isNaN_b9ae7 l E n M p1 _ hw) rfl rfl (Nat.le_of_ble_eq_true rfl) ⟨Nat.le_of_ble_eq_true rfl, Nat.le_of_ble_eq_true rfl⟩ qR qL) (fun x2 M1 hw => ?_)
  refine g_if_ne X 12 dJxe99ae_doubleToLongBits_ccdee_4 (by decide) hw (fun hw => ?_) (fun hw => ?_)
  · refine g_ldcL X (9221120237041090560 : Int64) dJxe99ae_doubleToLongBits_ccdee_12 wk_Jxe99ae_137 ?_
    exact g_lret X hr hlk hSz hOld (Nat.le_refl _) dJxe99ae_doubleToLongBits_ccdee_15 hw
  · refine g_dload_n X dJxe99ae_doubleToLongBits_ccdee_7 0 rfl ?_
    refine g_natD2L X wm_Jxe99ae_134 wv_doubleToRawLongBits wt_doubleToRawLongBits wiq_Jxe99ae dJxe99ae_doubleToLongBits_ccdee_8 (by decide) ⟨by decide, by decide⟩ ?_
    exact g_lret X hr hlk hSz hOld (Nat.le_refl _) dJxe99ae_doubleToLongBits_ccdee_11 hw
theorem dX6_pressureBits_0 : decode cX6_pressureBits 0 = .ok (.iload_n 1, 1) := by decide +kernel
theorem dX6_pressureBits_1 : decode cX6_pressureBits 1 = .ok (.iconst 0, 1) := by decide +kernel
theorem dX6_pressureBits_2 : decode cX6_pressureBits 2 = .ok (.iconst 2, 1) := by decide +kernel
theorem dX6_pressureBits_3 : decode cX6_pressureBits 3 = .ok (.invokestatic 50, 3) := by decide +kernel
theorem dX6_pressureBits_6 : decode cX6_pressureBits 6 = .ok (.ifCond .eq 15, 3) := by decide +kernel
theorem dX6_pressureBits_9 : decode cX6_pressureBits 9 = .ok (.aload_n 0, 1) := by decide +kernel
theorem dX6_pressureBits_10 : decode cX6_pressureBits 10 = .ok (.getfield 19, 3) := by decide +kernel
theorem dX6_pressureBits_13 : decode cX6_pressureBits 13 = .ok (.iload_n 1, 1) := by decide +kernel
theorem dX6_pressureBits_14 : decode cX6_pressureBits 14 = .ok (.daload, 1) := by decide +kernel
theorem dX6_pressureBits_15 : decode cX6_pressureBits 15 = .ok (.invokestatic 205, 3) := by decide +kernel
theorem dX6_pressureBits_18 : decode cX6_pressureBits 18 = .ok (.goto 6, 3) := by decide +kernel
theorem dX6_pressureBits_21 : decode cX6_pressureBits 21 = .ok (.ldc2_w 209, 3) := by decide +kernel
theorem dX6_pressureBits_24 : decode cX6_pressureBits 24 = .ok (.lreturn, 1) := by decide +kernel
abbrev rmX6_pressureBits : Room := { frames := 2, cells := 0, slots := 0, locals := 45 }
def w_X6_pressureBits (n : Nat) (M : Mem) (t : Nat) (p1 : Int32) (K : Int64 → Mem → Prop) : Prop := w_X6_in n M p1 (0 : Int32) (2 : Int32) (fun x2 M1 => ((x2 = 0 → K (-2 : Int64) M1) ∧ (¬ x2 = 0 → ((t ≤ n ∧ kd t = (6, 0)) ∧ (∀ r4, r4 = gR M1 t 3 → ((r4 ≤ n ∧ (kd r4).1 = 8 ∧ vp_in p1 (kd r4).2) ∧ (∀ z5, z5 = gD M1 r4 (Int32.toNatClampNeg p1) → w_Jxe99ae_doubleToLongBits_ccdee n M1 z5 (fun y7 M6 => K y7 M6))))))))
set_option maxHeartbeats 4000000 in
set_option maxRecDepth 20000 in
theorem c_X6_pressureBits (l : Launch) (E : Gl) (n : Nat) (M : Mem) (t : Nat) (p1 : Int32) (K : Int64 → Mem → Prop) (hw : w_X6_pressureBits n M t p1 K) : CT E l yX6_pressureBits cX6_pressureBits 2 (some .long) rmX6_pressureBits n M [rV t, iV p1] (PL E n K) := by
  refine g_met l (by decide) (Nat.le_of_ble_eq_true rfl) ?_
  intro p e s m args below meth c X hr hlk hnm hSz hOld
  change CX E p s m c _ _ RX6 at X
  unfold w_X6_pressureBits at hw
  refine g_iload_n X dX6_pressureBits_0 1 rfl ?_
  refine g_iconst X (0 : Int32) dX6_pressureBits_1 (by decide) ?_
  refine g_iconst X (2 : Int32) dX6_pressureBits_2 (by decide) ?_
  refine g_calli (pc' := 6) (rest := []) rfl (fun H locs ls d qR qL => g_runS X cw_X6_50 wt_X6_in ⟨Nat.le_of_ble_eq_true rfl, Nat.le_of_ble_eq_true rfl⟩ dX6_pressureBits_3 (c_X6_in l E n M p1 (0 : Int32) (2 : Int32) _ hw) rfl rfl (Nat.le_of_ble_eq_true rfl) ⟨Nat.le_of_ble_eq_true rfl, Nat.le_of_ble_eq_true rfl⟩ qR qL) (fun x2 M1 hw => ?_)
  refine g_if_eq X 21 dX6_pressureBits_6 (by decide) hw (fun hw => ?_) (fun hw => ?_)
  · refine g_ldcL X (-2 : Int64) dX6_pressureBits_21 wk_X6_209 ?_
    exact g_lret X hr hlk hSz hOld (Nat.le_refl _) dX6_pressureBits_24 hw
  · refine g_aload_n X dX6_pressureBits_9 0 rfl ?_
    obtain ⟨hk3, hw⟩ := hw
    refine g_get X (rV (gR M1 t 3)) dX6_pressureBits_10 fl_X6_19 (fun _ => rfl) ⟨hk3, hw⟩ (fun hw => ?_)
    refine g_topR (fun r4 hr4 => ?_)
    have hw := hw r4 hr4
    refine g_iload_n X dX6_pressureBits_13 1 rfl ?_
    refine g_dald X dX6_pressureBits_14 hw (fun hw => ?_)
    refine g_topD (fun z5 hz5 => ?_)
    have hw := hw z5 hz5
    refine g_calll (pc' := 18) (rest := []) rfl (fun H locs ls d qR qL => g_runS X cw_X6_205 wt_Jxe99ae_doubleToLongBits_ccdee ⟨Nat.le_of_ble_eq_true rfl, Nat.le_of_ble_eq_true rfl⟩ dX6_pressureBits_15 (c_Jxe99ae_doubleToLongBits_ccdee l E n M1 z5 _ hw) rfl rfl (Nat.le_of_ble_eq_true rfl) ⟨Nat.le_of_ble_eq_true rfl, Nat.le_of_ble_eq_true rfl⟩ qR qL) (fun y7 M6 hw => ?_)
    refine g_goto X 24 dX6_pressureBits_18 (by decide) ?_
    exact g_lret X hr hlk hSz hOld (Nat.le_refl _) dX6_pressureBits_24 hw
theorem dX6_trace_0 : decode cX6_trace 0 = .ok (.aload_n 0, 1) := by decide +kernel
theorem dX6_trace_1 : decode cX6_trace 1 = .ok (.iload_n 1, 1) := by decide +kernel
theorem dX6_trace_2 : decode cX6_trace 2 = .ok (.invokevirtual 77, 3) := by decide +kernel
theorem dX6_trace_5 : decode cX6_trace 5 = .ok (.ifCond .ne 26, 3) := by decide +kernel
theorem dX6_trace_8 : decode cX6_trace 8 = .ok (.aload_n 0, 1) := by decide +kernel
theorem dX6_trace_9 : decode cX6_trace 9 = .ok (.iload_n 1, 1) := by decide +kernel
theorem dX6_trace_10 : decode cX6_trace 10 = .ok (.invokevirtual 82, 3) := by decide +kernel
theorem dX6_trace_13 : decode cX6_trace 13 = .ok (.ifCond .lt 18, 3) := by decide +kernel
theorem dX6_trace_16 : decode cX6_trace 16 = .ok (.iload_n 2, 1) := by decide +kernel
theorem dX6_trace_17 : decode cX6_trace 17 = .ok (.ifCond .lt 14, 3) := by decide +kernel
theorem dX6_trace_20 : decode cX6_trace 20 = .ok (.iload_n 2, 1) := by decide +kernel
theorem dX6_trace_21 : decode cX6_trace 21 = .ok (.aload_n 0, 1) := by decide +kernel
theorem dX6_trace_22 : decode cX6_trace 22 = .ok (.iload_n 1, 1) := by decide +kernel
theorem dX6_trace_23 : decode cX6_trace 23 = .ok (.bipush 8, 2) := by decide +kernel
theorem dX6_trace_25 : decode cX6_trace 25 = .ok (.invokevirtual 54, 3) := by decide +kernel
theorem dX6_trace_28 : decode cX6_trace 28 = .ok (.if_icmp .lt 7, 3) := by decide +kernel
theorem dX6_trace_31 : decode cX6_trace 31 = .ok (.invokestatic 189, 3) := by decide +kernel
theorem dX6_trace_34 : decode cX6_trace 34 = .ok (.dreturn, 1) := by decide +kernel
theorem dX6_trace_35 : decode cX6_trace 35 = .ok (.aload_n 0, 1) := by decide +kernel
theorem dX6_trace_36 : decode cX6_trace 36 = .ok (.iload_n 1, 1) := by decide +kernel
theorem dX6_trace_37 : decode cX6_trace 37 = .ok (.iload_n 2, 1) := by decide +kernel
theorem dX6_trace_38 : decode cX6_trace 38 = .ok (.invokevirtual 58, 3) := by decide +kernel
theorem dX6_trace_41 : decode cX6_trace 41 = .ok (.dreturn, 1) := by decide +kernel
abbrev rmX6_trace : Room := { frames := 2, cells := 0, slots := 0, locals := 43 }
def w_X6_trace (n : Nat) (M : Mem) (t : Nat) (p1 : Int32) (p2 : Int32) (K : UInt64 → Mem → Prop) : Prop := ((t ≤ n ∧ kd t = (6, 0)) ∧ w_X6_noHead n M t p1 (fun x3 M2 => ((¬ x3 = 0 → w_X6_nothing n M2  (fun z5 M4 => K z5 M4)) ∧ (x3 = 0 → w_X6_partOn n M2 t p1 (fun x7 M6 => ((x7 < 0 → w_X6_nothing n M6  (fun z9 M8 => K z9 M8)) ∧ (¬ x7 < 0 → ((p2 < 0 → w_X6_nothing n M6  (fun z11 M10 => K z11 M10)) ∧ (¬ p2 < 0 → w_X6_ofHead n M6 t p1 (8 : Int32) (fun x13 M12 => ((p2 < x13 → w_X6_traced n M12 t p1 p2 (fun z15 M14 => K z15 M14)) ∧ (¬ p2 < x13 → w_X6_nothing n M12  (fun z17 M16 => K z17 M16)))))))))))))
set_option maxHeartbeats 4000000 in
set_option maxRecDepth 20000 in
theorem c_X6_trace (l : Launch) (E : Gl) (n : Nat) (M : Mem) (t : Nat) (p1 : Int32) (p2 : Int32) (K : UInt64 → Mem → Prop) (hw : w_X6_trace n M t p1 p2 K) : CT E l yX6_trace cX6_trace 3 (some .double) rmX6_trace n M [rV t, iV p1, iV p2] (PD E n K) := by
  refine g_met l (by decide) (Nat.le_of_ble_eq_true rfl) ?_
  intro p e s m args below meth c X hr hlk hnm hSz hOld
  change CX E p s m c _ _ RX6 at X
  unfold w_X6_trace at hw
  refine g_aload_n X dX6_trace_0 0 rfl ?_
  refine g_iload_n X dX6_trace_1 1 rfl ?_
  obtain ⟨hk1, hw⟩ := hw
  refine g_calli (pc' := 5) (rest := []) rfl (fun H locs ls d qR qL => g_runV X cw_X6_77 iv_X6_noHead ⟨Nat.le_of_ble_eq_true rfl, Nat.le_of_ble_eq_true rfl⟩ dX6_trace_2 (c_X6_noHead l E n M t p1 _ hw) hk1 rfl rfl (Nat.le_of_ble_eq_true rfl) ⟨Nat.le_of_ble_eq_true rfl, Nat.le_of_ble_eq_true rfl⟩ qR qL) (fun x3 M2 hw => ?_)
  refine g_if_ne X 31 dX6_trace_5 (by decide) hw (fun hw => ?_) (fun hw => ?_)
  · refine g_calld (pc' := 34) (rest := []) rfl (fun H locs ls d qR qL => g_runS X cw_X6_189 wt_X6_nothing ⟨Nat.le_of_ble_eq_true rfl, Nat.le_of_ble_eq_true rfl⟩ dX6_trace_31 (c_X6_nothing l E n M2  _ hw) rfl rfl (Nat.le_of_ble_eq_true rfl) ⟨Nat.le_of_ble_eq_true rfl, Nat.le_of_ble_eq_true rfl⟩ qR qL) (fun z5 M4 hw => ?_)
    exact g_dret X hr hlk hSz hOld (Nat.le_refl _) dX6_trace_34 hw
  · refine g_aload_n X dX6_trace_8 0 rfl ?_
    refine g_iload_n X dX6_trace_9 1 rfl ?_
    refine g_calli (pc' := 13) (rest := []) rfl (fun H locs ls d qR qL => g_runV X cw_X6_82 iv_X6_partOn ⟨Nat.le_of_ble_eq_true rfl, Nat.le_of_ble_eq_true rfl⟩ dX6_trace_10 (c_X6_partOn l E n M2 t p1 _ hw) hk1 rfl rfl (Nat.le_of_ble_eq_true rfl) ⟨Nat.le_of_ble_eq_true rfl, Nat.le_of_ble_eq_true rfl⟩ qR qL) (fun x7 M6 hw => ?_)
    refine g_if_lt X 31 dX6_trace_13 (by decide) hw (fun hw => ?_) (fun hw => ?_)
    · refine g_calld (pc' := 34) (rest := []) rfl (fun H locs ls d qR qL => g_runS X cw_X6_189 wt_X6_nothing ⟨Nat.le_of_ble_eq_true rfl, Nat.le_of_ble_eq_true rfl⟩ dX6_trace_31 (c_X6_nothing l E n M6  _ hw) rfl rfl (Nat.le_of_ble_eq_true rfl) ⟨Nat.le_of_ble_eq_true rfl, Nat.le_of_ble_eq_true rfl⟩ qR qL) (fun z9 M8 hw => ?_)
      exact g_dret X hr hlk hSz hOld (Nat.le_refl _) dX6_trace_34 hw
    · refine g_iload_n X dX6_trace_16 2 rfl ?_
      refine g_if_lt X 31 dX6_trace_17 (by decide) hw (fun hw => ?_) (fun hw => ?_)
      · refine g_calld (pc' := 34) (rest := []) rfl (fun H locs ls d qR qL => g_runS X cw_X6_189 wt_X6_nothing ⟨Nat.le_of_ble_eq_true rfl, Nat.le_of_ble_eq_true rfl⟩ dX6_trace_31 (c_X6_nothing l E n M6  _ hw) rfl rfl (Nat.le_of_ble_eq_true rfl) ⟨Nat.le_of_ble_eq_true rfl, Nat.le_of_ble_eq_true rfl⟩ qR qL) (fun z11 M10 hw => ?_)
        exact g_dret X hr hlk hSz hOld (Nat.le_refl _) dX6_trace_34 hw
      · refine g_iload_n X dX6_trace_20 2 rfl ?_
        refine g_aload_n X dX6_trace_21 0 rfl ?_
        refine g_iload_n X dX6_trace_22 1 rfl ?_
        refine g_bipush X (8 : Int32) dX6_trace_23 (by decide) ?_
        refine g_calli (pc' := 28) (rest := [iV p2]) rfl (fun H locs ls d qR qL => g_runV X cw_X6_54 iv_X6_ofHead ⟨Nat.le_of_ble_eq_true rfl, Nat.le_of_ble_eq_true rfl⟩ dX6_trace_25 (c_X6_ofHead l E n M6 t p1 (8 : Int32) _ hw) hk1 rfl rfl (Nat.le_of_ble_eq_true rfl) ⟨Nat.le_of_ble_eq_true rfl, Nat.le_of_ble_eq_true rfl⟩ qR qL) (fun x13 M12 hw => ?_)
        refine g_icmp_lt X 35 dX6_trace_28 (by decide) hw (fun hw => ?_) (fun hw => ?_)
        · refine g_aload_n X dX6_trace_35 0 rfl ?_
          refine g_iload_n X dX6_trace_36 1 rfl ?_
          refine g_iload_n X dX6_trace_37 2 rfl ?_
          refine g_calld (pc' := 41) (rest := []) rfl (fun H locs ls d qR qL => g_runV X cw_X6_58 iv_X6_traced ⟨Nat.le_of_ble_eq_true rfl, Nat.le_of_ble_eq_true rfl⟩ dX6_trace_38 (c_X6_traced l E n M12 t p1 p2 _ hw) hk1 rfl rfl (Nat.le_of_ble_eq_true rfl) ⟨Nat.le_of_ble_eq_true rfl, Nat.le_of_ble_eq_true rfl⟩ qR qL) (fun z15 M14 hw => ?_)
          exact g_dret X hr hlk hSz hOld (Nat.le_refl _) dX6_trace_41 hw
        · refine g_calld (pc' := 34) (rest := []) rfl (fun H locs ls d qR qL => g_runS X cw_X6_189 wt_X6_nothing ⟨Nat.le_of_ble_eq_true rfl, Nat.le_of_ble_eq_true rfl⟩ dX6_trace_31 (c_X6_nothing l E n M12  _ hw) rfl rfl (Nat.le_of_ble_eq_true rfl) ⟨Nat.le_of_ble_eq_true rfl, Nat.le_of_ble_eq_true rfl⟩ qR qL) (fun z17 M16 hw => ?_)
          exact g_dret X hr hlk hSz hOld (Nat.le_refl _) dX6_trace_34 hw
theorem dX6_inState_0 : decode cX6_inState 0 = .ok (.iconst 0, 1) := by decide +kernel
theorem dX6_inState_1 : decode cX6_inState 1 = .ok (.istore_n 2, 1) := by decide +kernel
theorem dX6_inState_2 : decode cX6_inState 2 = .ok (.iconst 0, 1) := by decide +kernel
theorem dX6_inState_3 : decode cX6_inState 3 = .ok (.istore_n 3, 1) := by decide +kernel
theorem dX6_inState_4 : decode cX6_inState 4 = .ok (.iload_n 3, 1) := by decide +kernel
theorem dX6_inState_5 : decode cX6_inState 5 = .ok (.aload_n 0, 1) := by decide +kernel
theorem dX6_inState_6 : decode cX6_inState 6 = .ok (.getfield 7, 3) := by decide +kernel
theorem dX6_inState_9 : decode cX6_inState 9 = .ok (.iconst 2, 1) := by decide +kernel
theorem dX6_inState_10 : decode cX6_inState 10 = .ok (.iaload, 1) := by decide +kernel
theorem dX6_inState_11 : decode cX6_inState 11 = .ok (.if_icmp .ge 27, 3) := by decide +kernel
theorem dX6_inState_14 : decode cX6_inState 14 = .ok (.iload_n 2, 1) := by decide +kernel
theorem dX6_inState_15 : decode cX6_inState 15 = .ok (.aload_n 0, 1) := by decide +kernel
theorem dX6_inState_16 : decode cX6_inState 16 = .ok (.iload_n 3, 1) := by decide +kernel
theorem dX6_inState_17 : decode cX6_inState 17 = .ok (.iconst 3, 1) := by decide +kernel
theorem dX6_inState_18 : decode cX6_inState 18 = .ok (.invokevirtual 108, 3) := by decide +kernel
theorem dX6_inState_21 : decode cX6_inState 21 = .ok (.iload_n 1, 1) := by decide +kernel
theorem dX6_inState_22 : decode cX6_inState 22 = .ok (.if_icmp .ne 7, 3) := by decide +kernel
theorem dX6_inState_25 : decode cX6_inState 25 = .ok (.iconst 1, 1) := by decide +kernel
theorem dX6_inState_26 : decode cX6_inState 26 = .ok (.goto 4, 3) := by decide +kernel
theorem dX6_inState_29 : decode cX6_inState 29 = .ok (.iconst 0, 1) := by decide +kernel
theorem dX6_inState_30 : decode cX6_inState 30 = .ok (.iadd, 1) := by decide +kernel
theorem dX6_inState_31 : decode cX6_inState 31 = .ok (.istore_n 2, 1) := by decide +kernel
theorem dX6_inState_32 : decode cX6_inState 32 = .ok (.iinc 3 1, 3) := by decide +kernel
theorem dX6_inState_35 : decode cX6_inState 35 = .ok (.goto (-31), 3) := by decide +kernel
theorem dX6_inState_38 : decode cX6_inState 38 = .ok (.iload_n 2, 1) := by decide +kernel
theorem dX6_inState_39 : decode cX6_inState 39 = .ok (.ireturn, 1) := by decide +kernel
abbrev rmX6_inState : Room := { frames := 1, cells := 0, slots := 0, locals := 22 }
def w_X6_inState_L4 (n : Nat) (K : Int32 → Mem → Prop) : Nat → Mem → Nat → Int32 → Int32 → Int32 → Prop
  | 0, _, _, _, _, _ => False
  | fuel + 1, M, o0, a1, a2, a3 => ((o0 ≤ n ∧ kd o0 = (6, 0)) ∧ (∀ r2, r2 = gR M o0 0 → ((r2 ≤ n ∧ (kd r2).1 = 7 ∧ vp_in (2 : Int32) (kd r2).2) ∧ (∀ x3, x3 = gI M r2 (Int32.toNatClampNeg (2 : Int32)) → ((x3 ≤ a3 → K a2 M) ∧ (¬ x3 ≤ a3 → w_X6_ofPart n M o0 a3 (3 : Int32) (fun x5 M4 => ((¬ x5 = a1 → (∀ x6, x6 = a2 + (0 : Int32) → (∀ x7, x7 = a3 + (1 : Int32) → w_X6_inState_L4 n K fuel M4 o0 a1 x6 x7))) ∧ (x5 = a1 → (∀ x8, x8 = a2 + (1 : Int32) → (∀ x9, x9 = a3 + (1 : Int32) → w_X6_inState_L4 n K fuel M4 o0 a1 x8 x9)))))))))))
def w_X6_inState (n : Nat) (M : Mem) (t : Nat) (p1 : Int32) (K : Int32 → Mem → Prop) : Prop := w_X6_inState_L4 n K 4000 M t p1 (0 : Int32) (0 : Int32)
set_option maxHeartbeats 4000000 in
set_option maxRecDepth 20000 in
theorem c_X6_inState (l : Launch) (E : Gl) (n : Nat) (M : Mem) (t : Nat) (p1 : Int32) (K : Int32 → Mem → Prop) (hw : w_X6_inState n M t p1 K) : CT E l yX6_inState cX6_inState 4 (some .int) rmX6_inState n M [rV t, iV p1] (PI E n K) := by
  refine g_met l (by decide) (Nat.le_of_ble_eq_true rfl) ?_
  intro p e s m args below meth c X hr hlk hnm hSz hOld
  change CX E p s m c _ _ RX6 at X
  have L4 : ∀ (fuel : Nat) (M : Mem) (o0 : Nat) (a1 : Int32) (a2 : Int32) (a3 : Int32), w_X6_inState_L4 n K fuel M o0 a1 a2 a3 → G E p l e rmX6_inState s m args below meth c 4 n M 0 0 (MQD lw_cs below (PI E n K) args s rmX6_inState.cells rmX6_inState.slots (Ab E)) 4 [(0, rV o0), (1, iV a1), (2, iV a2), (3, iV a3)] [] := by
    intro fuel
    induction fuel with
    | zero => intro M o0 a1 a2 a3 hw; exact False.elim hw
    | succ fuel ih =>
      intro M o0 a1 a2 a3 hw
      unfold w_X6_inState_L4 at hw
      refine g_iload_n X dX6_inState_4 3 rfl ?_
      refine g_aload_n X dX6_inState_5 0 rfl ?_
      obtain ⟨hk1, hw⟩ := hw
      refine g_get X (rV (gR M o0 0)) dX6_inState_6 fl_X6_7 (fun _ => rfl) ⟨hk1, hw⟩ (fun hw => ?_)
      refine g_topR (fun r2 hr2 => ?_)
      have hw := hw r2 hr2
      refine g_iconst X (2 : Int32) dX6_inState_9 (by decide) ?_
      refine g_iald X dX6_inState_10 hw (fun hw => ?_)
      refine g_topI (fun x3 hx3 => ?_)
      have hw := hw x3 hx3
      refine g_icmp_ge X 38 dX6_inState_11 (by decide) hw (fun hw => ?_) (fun hw => ?_)
      · refine g_iload_n X dX6_inState_38 2 rfl ?_
        exact g_iret X hr hlk hSz hOld (Nat.le_refl _) dX6_inState_39 hw
      · refine g_iload_n X dX6_inState_14 2 rfl ?_
        refine g_aload_n X dX6_inState_15 0 rfl ?_
        refine g_iload_n X dX6_inState_16 3 rfl ?_
        refine g_iconst X (3 : Int32) dX6_inState_17 (by decide) ?_
        refine g_calli (pc' := 21) (rest := [iV a2]) rfl (fun H locs ls d qR qL => g_runV X cw_X6_108 iv_X6_ofPart ⟨Nat.le_of_ble_eq_true rfl, Nat.le_of_ble_eq_true rfl⟩ dX6_inState_18 (c_X6_ofPart l E n M o0 a3 (3 : Int32) _ hw) hk1 rfl rfl (Nat.le_of_ble_eq_true rfl) ⟨Nat.le_of_ble_eq_true rfl, Nat.le_of_ble_eq_true rfl⟩ qR qL) (fun x5 M4 hw => ?_)
        refine g_iload_n X dX6_inState_21 1 rfl ?_
        refine g_icmp_ne X 29 dX6_inState_22 (by decide) hw (fun hw => ?_) (fun hw => ?_)
        · refine g_iconst X (0 : Int32) dX6_inState_29 (by decide) ?_
          refine g_iadd X dX6_inState_30 ?_
          refine g_topI (fun x6 hx6 => ?_)
          have hw := hw x6 hx6
          refine g_istore_n (lv' := [(2, iV x6), (0, rV o0), (1, iV a1), (3, iV a3)]) X dX6_inState_31 (by decide) rfl ?_
          obtain ⟨x7, hx7⟩ : ∃ y : Int32, y = a3 + (1 : Int32) := ⟨_, rfl⟩
          have hw := hw x7 hx7
          refine g_iinc (lv' := [(3, iV x7), (2, iV x6), (0, rV o0), (1, iV a1)]) X x7 dX6_inState_32 3 rfl (by rw [hx7]; rfl) (by decide) rfl ?_
          refine g_goto X 4 dX6_inState_35 (by decide) ?_
          refine g_lvsub (lv' := [(0, rV o0), (1, iV a1), (2, iV x6), (3, iV x7)]) [2, 3, 1, 0] rfl ?_
          exact ih _ _ _ _ _ hw
        · refine g_iconst X (1 : Int32) dX6_inState_25 (by decide) ?_
          refine g_goto X 30 dX6_inState_26 (by decide) ?_
          refine g_iadd X dX6_inState_30 ?_
          refine g_topI (fun x8 hx8 => ?_)
          have hw := hw x8 hx8
          refine g_istore_n (lv' := [(2, iV x8), (0, rV o0), (1, iV a1), (3, iV a3)]) X dX6_inState_31 (by decide) rfl ?_
          obtain ⟨x9, hx9⟩ : ∃ y : Int32, y = a3 + (1 : Int32) := ⟨_, rfl⟩
          have hw := hw x9 hx9
          refine g_iinc (lv' := [(3, iV x9), (2, iV x8), (0, rV o0), (1, iV a1)]) X x9 dX6_inState_32 3 rfl (by rw [hx9]; rfl) (by decide) rfl ?_
          refine g_goto X 4 dX6_inState_35 (by decide) ?_
          refine g_lvsub (lv' := [(0, rV o0), (1, iV a1), (2, iV x8), (3, iV x9)]) [2, 3, 1, 0] rfl ?_
          exact ih _ _ _ _ _ hw
  unfold w_X6_inState at hw
  refine g_iconst X (0 : Int32) dX6_inState_0 (by decide) ?_
  refine g_istore_n (lv' := [(2, iV (0 : Int32)), (0, rV t), (1, iV p1)]) X dX6_inState_1 (by decide) rfl ?_
  refine g_iconst X (0 : Int32) dX6_inState_2 (by decide) ?_
  refine g_istore_n (lv' := [(3, iV (0 : Int32)), (2, iV (0 : Int32)), (0, rV t), (1, iV p1)]) X dX6_inState_3 (by decide) rfl ?_
  refine g_lvsub (lv' := [(0, rV t), (1, iV p1), (2, iV (0 : Int32)), (3, iV (0 : Int32))]) [2, 3, 1, 0] rfl ?_
  exact L4 _ _ _ _ _ _ hw
theorem dX6_count_0 : decode cX6_count 0 = .ok (.iload_n 1, 1) := by decide +kernel
theorem dX6_count_1 : decode cX6_count 1 = .ok (.tableswitch 141 0 16 #[83, 83, 83, 90, 90, 90, 90, 98, 105, 112, 119, 119, 119, 119, 119, 131, 136], 83) := by decide +kernel
theorem dX6_count_84 : decode cX6_count 84 = .ok (.aload_n 0, 1) := by decide +kernel
theorem dX6_count_85 : decode cX6_count 85 = .ok (.getfield 7, 3) := by decide +kernel
theorem dX6_count_88 : decode cX6_count 88 = .ok (.iload_n 1, 1) := by decide +kernel
theorem dX6_count_89 : decode cX6_count 89 = .ok (.iaload, 1) := by decide +kernel
theorem dX6_count_90 : decode cX6_count 90 = .ok (.ireturn, 1) := by decide +kernel
theorem dX6_count_91 : decode cX6_count 91 = .ok (.aload_n 0, 1) := by decide +kernel
theorem dX6_count_92 : decode cX6_count 92 = .ok (.iload_n 1, 1) := by decide +kernel
theorem dX6_count_93 : decode cX6_count 93 = .ok (.iconst 3, 1) := by decide +kernel
theorem dX6_count_94 : decode cX6_count 94 = .ok (.isub, 1) := by decide +kernel
theorem dX6_count_95 : decode cX6_count 95 = .ok (.invokevirtual 211, 3) := by decide +kernel
theorem dX6_count_98 : decode cX6_count 98 = .ok (.ireturn, 1) := by decide +kernel
theorem dX6_count_99 : decode cX6_count 99 = .ok (.aload_n 0, 1) := by decide +kernel
theorem dX6_count_100 : decode cX6_count 100 = .ok (.getfield 7, 3) := by decide +kernel
theorem dX6_count_103 : decode cX6_count 103 = .ok (.iconst 4, 1) := by decide +kernel
theorem dX6_count_104 : decode cX6_count 104 = .ok (.iaload, 1) := by decide +kernel
theorem dX6_count_105 : decode cX6_count 105 = .ok (.ireturn, 1) := by decide +kernel
theorem dX6_count_106 : decode cX6_count 106 = .ok (.aload_n 0, 1) := by decide +kernel
theorem dX6_count_107 : decode cX6_count 107 = .ok (.getfield 7, 3) := by decide +kernel
theorem dX6_count_110 : decode cX6_count 110 = .ok (.iconst 5, 1) := by decide +kernel
theorem dX6_count_111 : decode cX6_count 111 = .ok (.iaload, 1) := by decide +kernel
theorem dX6_count_112 : decode cX6_count 112 = .ok (.ireturn, 1) := by decide +kernel
theorem dX6_count_113 : decode cX6_count 113 = .ok (.aload_n 0, 1) := by decide +kernel
theorem dX6_count_114 : decode cX6_count 114 = .ok (.getfield 7, 3) := by decide +kernel
theorem dX6_count_117 : decode cX6_count 117 = .ok (.iconst 3, 1) := by decide +kernel
theorem dX6_count_118 : decode cX6_count 118 = .ok (.iaload, 1) := by decide +kernel
theorem dX6_count_119 : decode cX6_count 119 = .ok (.ireturn, 1) := by decide +kernel
theorem dX6_count_120 : decode cX6_count 120 = .ok (.aload_n 0, 1) := by decide +kernel
theorem dX6_count_121 : decode cX6_count 121 = .ok (.getfield 7, 3) := by decide +kernel
theorem dX6_count_124 : decode cX6_count 124 = .ok (.iconst 5, 1) := by decide +kernel
theorem dX6_count_125 : decode cX6_count 125 = .ok (.iload_n 1, 1) := by decide +kernel
theorem dX6_count_126 : decode cX6_count 126 = .ok (.iadd, 1) := by decide +kernel
theorem dX6_count_127 : decode cX6_count 127 = .ok (.bipush 9, 2) := by decide +kernel
theorem dX6_count_129 : decode cX6_count 129 = .ok (.isub, 1) := by decide +kernel
theorem dX6_count_130 : decode cX6_count 130 = .ok (.iaload, 1) := by decide +kernel
theorem dX6_count_131 : decode cX6_count 131 = .ok (.ireturn, 1) := by decide +kernel
theorem dX6_count_132 : decode cX6_count 132 = .ok (.aload_n 0, 1) := by decide +kernel
theorem dX6_count_133 : decode cX6_count 133 = .ok (.getfield 46, 3) := by decide +kernel
theorem dX6_count_136 : decode cX6_count 136 = .ok (.ireturn, 1) := by decide +kernel
theorem dX6_count_137 : decode cX6_count 137 = .ok (.aload_n 0, 1) := by decide +kernel
theorem dX6_count_138 : decode cX6_count 138 = .ok (.getfield 150, 3) := by decide +kernel
theorem dX6_count_141 : decode cX6_count 141 = .ok (.ireturn, 1) := by decide +kernel
theorem dX6_count_142 : decode cX6_count 142 = .ok (.bipush (-2), 2) := by decide +kernel
theorem dX6_count_144 : decode cX6_count 144 = .ok (.ireturn, 1) := by decide +kernel
abbrev rmX6_count : Room := { frames := 2, cells := 0, slots := 0, locals := 45 }
def w_X6_count (n : Nat) (M : Mem) (t : Nat) (p1 : Int32) (K : Int32 → Mem → Prop) : Prop := ((p1 = (0 : Int32) → ((t ≤ n ∧ kd t = (6, 0)) ∧ (∀ r2, r2 = gR M t 0 → ((r2 ≤ n ∧ (kd r2).1 = 7 ∧ vp_in p1 (kd r2).2) ∧ (∀ x3, x3 = gI M r2 (Int32.toNatClampNeg p1) → K x3 M))))) ∧ (¬ p1 = (0 : Int32) → ((p1 = (1 : Int32) → ((t ≤ n ∧ kd t = (6, 0)) ∧ (∀ r5, r5 = gR M t 0 → ((r5 ≤ n ∧ (kd r5).1 = 7 ∧ vp_in p1 (kd r5).2) ∧ (∀ x6, x6 = gI M r5 (Int32.toNatClampNeg p1) → K x6 M))))) ∧ (¬ p1 = (1 : Int32) → ((p1 = (2 : Int32) → ((t ≤ n ∧ kd t = (6, 0)) ∧ (∀ r8, r8 = gR M t 0 → ((r8 ≤ n ∧ (kd r8).1 = 7 ∧ vp_in p1 (kd r8).2) ∧ (∀ x9, x9 = gI M r8 (Int32.toNatClampNeg p1) → K x9 M))))) ∧ (¬ p1 = (2 : Int32) → ((p1 = (3 : Int32) → ((t ≤ n ∧ kd t = (6, 0)) ∧ w_X6_inState n M t (p1 - (3 : Int32)) (fun x12 M11 => K x12 M11))) ∧ (¬ p1 = (3 : Int32) → ((p1 = (4 : Int32) → ((t ≤ n ∧ kd t = (6, 0)) ∧ w_X6_inState n M t (p1 - (3 : Int32)) (fun x15 M14 => K x15 M14))) ∧ (¬ p1 = (4 : Int32) → ((p1 = (5 : Int32) → ((t ≤ n ∧ kd t = (6, 0)) ∧ w_X6_inState n M t (p1 - (3 : Int32)) (fun x18 M17 => K x18 M17))) ∧ (¬ p1 = (5 : Int32) → ((p1 = (6 : Int32) → ((t ≤ n ∧ kd t = (6, 0)) ∧ w_X6_inState n M t (p1 - (3 : Int32)) (fun x21 M20 => K x21 M20))) ∧ (¬ p1 = (6 : Int32) → ((p1 = (7 : Int32) → ((t ≤ n ∧ kd t = (6, 0)) ∧ (∀ r23, r23 = gR M t 0 → ((r23 ≤ n ∧ (kd r23).1 = 7 ∧ vp_in (4 : Int32) (kd r23).2) ∧ (∀ x24, x24 = gI M r23 (Int32.toNatClampNeg (4 : Int32)) → K x24 M))))) ∧ (¬ p1 = (7 : Int32) → ((p1 = (8 : Int32) → ((t ≤ n ∧ kd t = (6, 0)) ∧ (∀ r26, r26 = gR M t 0 → ((r26 ≤ n ∧ (kd r26).1 = 7 ∧ vp_in (5 : Int32) (kd r26).2) ∧ (∀ x27, x27 = gI M r26 (Int32.toNatClampNeg (5 : Int32)) → K x27 M))))) ∧ (¬ p1 = (8 : Int32) → ((p1 = (9 : Int32) → ((t ≤ n ∧ kd t = (6, 0)) ∧ (∀ r29, r29 = gR M t 0 → ((r29 ≤ n ∧ (kd r29).1 = 7 ∧ vp_in (3 : Int32) (kd r29).2) ∧ (∀ x30, x30 = gI M r29 (Int32.toNatClampNeg (3 : Int32)) → K x30 M))))) ∧ (¬ p1 = (9 : Int32) → ((p1 = (10 : Int32) → ((t ≤ n ∧ kd t = (6, 0)) ∧ (∀ r32, r32 = gR M t 0 → ((r32 ≤ n ∧ (kd r32).1 = 7 ∧ vp_in (((5 : Int32) + p1) - (9 : Int32)) (kd r32).2) ∧ (∀ x33, x33 = gI M r32 (Int32.toNatClampNeg (((5 : Int32) + p1) - (9 : Int32))) → K x33 M))))) ∧ (¬ p1 = (10 : Int32) → ((p1 = (11 : Int32) → ((t ≤ n ∧ kd t = (6, 0)) ∧ (∀ r35, r35 = gR M t 0 → ((r35 ≤ n ∧ (kd r35).1 = 7 ∧ vp_in (((5 : Int32) + p1) - (9 : Int32)) (kd r35).2) ∧ (∀ x36, x36 = gI M r35 (Int32.toNatClampNeg (((5 : Int32) + p1) - (9 : Int32))) → K x36 M))))) ∧ (¬ p1 = (11 : Int32) → ((p1 = (12 : Int32) → ((t ≤ n ∧ kd t = (6, 0)) ∧ (∀ r38, r38 = gR M t 0 → ((r38 ≤ n ∧ (kd r38).1 = 7 ∧ vp_in (((5 : Int32) + p1) - (9 : Int32)) (kd r38).2) ∧ (∀ x39, x39 = gI M r38 (Int32.toNatClampNeg (((5 : Int32) + p1) - (9 : Int32))) → K x39 M))))) ∧ (¬ p1 = (12 : Int32) → ((p1 = (13 : Int32) → ((t ≤ n ∧ kd t = (6, 0)) ∧ (∀ r41, r41 = gR M t 0 → ((r41 ≤ n ∧ (kd r41).1 = 7 ∧ vp_in (((5 : Int32) + p1) - (9 : Int32)) (kd r41).2) ∧ (∀ x42, x42 = gI M r41 (Int32.toNatClampNeg (((5 : Int32) + p1) - (9 : Int32))) → K x42 M))))) ∧ (¬ p1 = (13 : Int32) → ((p1 = (14 : Int32) → ((t ≤ n ∧ kd t = (6, 0)) ∧ (∀ r44, r44 = gR M t 0 → ((r44 ≤ n ∧ (kd r44).1 = 7 ∧ vp_in (((5 : Int32) + p1) - (9 : Int32)) (kd r44).2) ∧ (∀ x45, x45 = gI M r44 (Int32.toNatClampNeg (((5 : Int32) + p1) - (9 : Int32))) → K x45 M))))) ∧ (¬ p1 = (14 : Int32) → ((p1 = (15 : Int32) → ((t ≤ n ∧ kd t = (6, 0)) ∧ K (gI M t 6) M)) ∧ (¬ p1 = (15 : Int32) → ((p1 = (16 : Int32) → ((t ≤ n ∧ kd t = (6, 0)) ∧ K (gI M t 8) M)) ∧ (¬ p1 = (16 : Int32) → K (-2 : Int32) M))))))))))))))))))))))))))))))))))
set_option maxHeartbeats 4000000 in
set_option maxRecDepth 20000 in
theorem c_X6_count (l : Launch) (E : Gl) (n : Nat) (M : Mem) (t : Nat) (p1 : Int32) (K : Int32 → Mem → Prop) (hw : w_X6_count n M t p1 K) : CT E l yX6_count cX6_count 2 (some .int) rmX6_count n M [rV t, iV p1] (PI E n K) := by
  refine g_met l (by decide) (Nat.le_of_ble_eq_true rfl) ?_
  intro p e s m args below meth c X hr hlk hnm hSz hOld
  change CX E p s m c _ _ RX6 at X
  unfold w_X6_count at hw
  refine g_iload_n X dX6_count_0 1 rfl ?_
  by_cases q0 : p1 = (0 : Int32)
  · have hw := hw.1 q0
    refine g_swIn (off := 83) X 84 dX6_count_1 (by rw [q0]; decide) (by rw [q0]; decide) (by rw [q0]; decide) (by decide) ?_
    refine g_aload_n X dX6_count_84 0 rfl ?_
    obtain ⟨hk1, hw⟩ := hw
    refine g_get X (rV (gR M t 0)) dX6_count_85 fl_X6_7 (fun _ => rfl) ⟨hk1, hw⟩ (fun hw => ?_)
    refine g_topR (fun r2 hr2 => ?_)
    have hw := hw r2 hr2
    refine g_iload_n X dX6_count_88 1 rfl ?_
    refine g_iald X dX6_count_89 hw (fun hw => ?_)
    refine g_topI (fun x3 hx3 => ?_)
    have hw := hw x3 hx3
    exact g_iret X hr hlk hSz hOld (Nat.le_refl _) dX6_count_90 hw
  have hw := hw.2 q0
  by_cases q1 : p1 = (1 : Int32)
  · have hw := hw.1 q1
    refine g_swIn (off := 83) X 84 dX6_count_1 (by rw [q1]; decide) (by rw [q1]; decide) (by rw [q1]; decide) (by decide) ?_
    refine g_aload_n X dX6_count_84 0 rfl ?_
    obtain ⟨hk4, hw⟩ := hw
    refine g_get X (rV (gR M t 0)) dX6_count_85 fl_X6_7 (fun _ => rfl) ⟨hk4, hw⟩ (fun hw => ?_)
    refine g_topR (fun r5 hr5 => ?_)
    have hw := hw r5 hr5
    refine g_iload_n X dX6_count_88 1 rfl ?_
    refine g_iald X dX6_count_89 hw (fun hw => ?_)
    refine g_topI (fun x6 hx6 => ?_)
    have hw := hw x6 hx6
    exact g_iret X hr hlk hSz hOld (Nat.le_refl _) dX6_count_90 hw
  have hw := hw.2 q1
  by_cases q2 : p1 = (2 : Int32)
  · have hw := hw.1 q2
    refine g_swIn (off := 83) X 84 dX6_count_1 (by rw [q2]; decide) (by rw [q2]; decide) (by rw [q2]; decide) (by decide) ?_
    refine g_aload_n X dX6_count_84 0 rfl ?_
    obtain ⟨hk7, hw⟩ := hw
    refine g_get X (rV (gR M t 0)) dX6_count_85 fl_X6_7 (fun _ => rfl) ⟨hk7, hw⟩ (fun hw => ?_)
    refine g_topR (fun r8 hr8 => ?_)
    have hw := hw r8 hr8
    refine g_iload_n X dX6_count_88 1 rfl ?_
    refine g_iald X dX6_count_89 hw (fun hw => ?_)
    refine g_topI (fun x9 hx9 => ?_)
    have hw := hw x9 hx9
    exact g_iret X hr hlk hSz hOld (Nat.le_refl _) dX6_count_90 hw
  have hw := hw.2 q2
  by_cases q3 : p1 = (3 : Int32)
  · have hw := hw.1 q3
    refine g_swIn (off := 90) X 91 dX6_count_1 (by rw [q3]; decide) (by rw [q3]; decide) (by rw [q3]; decide) (by decide) ?_
    refine g_aload_n X dX6_count_91 0 rfl ?_
    refine g_iload_n X dX6_count_92 1 rfl ?_
    refine g_iconst X (3 : Int32) dX6_count_93 (by decide) ?_
    refine g_isub X dX6_count_94 ?_
    obtain ⟨hk10, hw⟩ := hw
    refine g_calli (pc' := 98) (rest := []) rfl (fun H locs ls d qR qL => g_runV X cw_X6_211 iv_X6_inState ⟨Nat.le_of_ble_eq_true rfl, Nat.le_of_ble_eq_true rfl⟩ dX6_count_95 (c_X6_inState l E n M t (p1 - (3 : Int32)) _ hw) hk10 rfl rfl (Nat.le_of_ble_eq_true rfl) ⟨Nat.le_of_ble_eq_true rfl, Nat.le_of_ble_eq_true rfl⟩ qR qL) (fun x12 M11 hw => ?_)
    exact g_iret X hr hlk hSz hOld (Nat.le_refl _) dX6_count_98 hw
  have hw := hw.2 q3
  by_cases q4 : p1 = (4 : Int32)
  · have hw := hw.1 q4
    refine g_swIn (off := 90) X 91 dX6_count_1 (by rw [q4]; decide) (by rw [q4]; decide) (by rw [q4]; decide) (by decide) ?_
    refine g_aload_n X dX6_count_91 0 rfl ?_
    refine g_iload_n X dX6_count_92 1 rfl ?_
    refine g_iconst X (3 : Int32) dX6_count_93 (by decide) ?_
    refine g_isub X dX6_count_94 ?_
    obtain ⟨hk13, hw⟩ := hw
    refine g_calli (pc' := 98) (rest := []) rfl (fun H locs ls d qR qL => g_runV X cw_X6_211 iv_X6_inState ⟨Nat.le_of_ble_eq_true rfl, Nat.le_of_ble_eq_true rfl⟩ dX6_count_95 (c_X6_inState l E n M t (p1 - (3 : Int32)) _ hw) hk13 rfl rfl (Nat.le_of_ble_eq_true rfl) ⟨Nat.le_of_ble_eq_true rfl, Nat.le_of_ble_eq_true rfl⟩ qR qL) (fun x15 M14 hw => ?_)
    exact g_iret X hr hlk hSz hOld (Nat.le_refl _) dX6_count_98 hw
  have hw := hw.2 q4
  by_cases q5 : p1 = (5 : Int32)
  · have hw := hw.1 q5
    refine g_swIn (off := 90) X 91 dX6_count_1 (by rw [q5]; decide) (by rw [q5]; decide) (by rw [q5]; decide) (by decide) ?_
    refine g_aload_n X dX6_count_91 0 rfl ?_
    refine g_iload_n X dX6_count_92 1 rfl ?_
    refine g_iconst X (3 : Int32) dX6_count_93 (by decide) ?_
    refine g_isub X dX6_count_94 ?_
    obtain ⟨hk16, hw⟩ := hw
    refine g_calli (pc' := 98) (rest := []) rfl (fun H locs ls d qR qL => g_runV X cw_X6_211 iv_X6_inState ⟨Nat.le_of_ble_eq_true rfl, Nat.le_of_ble_eq_true rfl⟩ dX6_count_95 (c_X6_inState l E n M t (p1 - (3 : Int32)) _ hw) hk16 rfl rfl (Nat.le_of_ble_eq_true rfl) ⟨Nat.le_of_ble_eq_true rfl, Nat.le_of_ble_eq_true rfl⟩ qR qL) (fun x18 M17 hw => ?_)
    exact g_iret X hr hlk hSz hOld (Nat.le_refl _) dX6_count_98 hw
  have hw := hw.2 q5
  by_cases q6 : p1 = (6 : Int32)
  · have hw := hw.1 q6
    refine g_swIn (off := 90) X 91 dX6_count_1 (by rw [q6]; decide) (by rw [q6]; decide) (by rw [q6]; decide) (by decide) ?_
    refine g_aload_n X dX6_count_91 0 rfl ?_
    refine g_iload_n X dX6_count_92 1 rfl ?_
    refine g_iconst X (3 : Int32) dX6_count_93 (by decide) ?_
    refine g_isub X dX6_count_94 ?_
    obtain ⟨hk19, hw⟩ := hw
    refine g_calli (pc' := 98) (rest := []) rfl (fun H locs ls d qR qL => g_runV X cw_X6_211 iv_X6_inState ⟨Nat.le_of_ble_eq_true rfl, Nat.le_of_ble_eq_true rfl⟩ dX6_count_95 (c_X6_inState l E n M t (p1 - (3 : Int32)) _ hw) hk19 rfl rfl (Nat.le_of_ble_eq_true rfl) ⟨Nat.le_of_ble_eq_true rfl, Nat.le_of_ble_eq_true rfl⟩ qR qL) (fun x21 M20 hw => ?_)
    exact g_iret X hr hlk hSz hOld (Nat.le_refl _) dX6_count_98 hw
  have hw := hw.2 q6
  by_cases q7 : p1 = (7 : Int32)
  · have hw := hw.1 q7
    refine g_swIn (off := 98) X 99 dX6_count_1 (by rw [q7]; decide) (by rw [q7]; decide) (by rw [q7]; decide) (by decide) ?_
    refine g_aload_n X dX6_count_99 0 rfl ?_
    obtain ⟨hk22, hw⟩ := hw
    refine g_get X (rV (gR M t 0)) dX6_count_100 fl_X6_7 (fun _ => rfl) ⟨hk22, hw⟩ (fun hw => ?_)
    refine g_topR (fun r23 hr23 => ?_)
    have hw := hw r23 hr23
    refine g_iconst X (4 : Int32) dX6_count_103 (by decide) ?_
    refine g_iald X dX6_count_104 hw (fun hw => ?_)
    refine g_topI (fun x24 hx24 => ?_)
    have hw := hw x24 hx24
    exact g_iret X hr hlk hSz hOld (Nat.le_refl _) dX6_count_105 hw
  have hw := hw.2 q7
  by_cases q8 : p1 = (8 : Int32)
  · have hw := hw.1 q8
    refine g_swIn (off := 105) X 106 dX6_count_1 (by rw [q8]; decide) (by rw [q8]; decide) (by rw [q8]; decide) (by decide) ?_
    refine g_aload_n X dX6_count_106 0 rfl ?_
    obtain ⟨hk25, hw⟩ := hw
    refine g_get X (rV (gR M t 0)) dX6_count_107 fl_X6_7 (fun _ => rfl) ⟨hk25, hw⟩ (fun hw => ?_)
    refine g_topR (fun r26 hr26 => ?_)
    have hw := hw r26 hr26
    refine g_iconst X (5 : Int32) dX6_count_110 (by decide) ?_
    refine g_iald X dX6_count_111 hw (fun hw => ?_)
    refine g_topI (fun x27 hx27 => ?_)
    have hw := hw x27 hx27
    exact g_iret X hr hlk hSz hOld (Nat.le_refl _) dX6_count_112 hw
  have hw := hw.2 q8
  by_cases q9 : p1 = (9 : Int32)
  · have hw := hw.1 q9
    refine g_swIn (off := 112) X 113 dX6_count_1 (by rw [q9]; decide) (by rw [q9]; decide) (by rw [q9]; decide) (by decide) ?_
    refine g_aload_n X dX6_count_113 0 rfl ?_
    obtain ⟨hk28, hw⟩ := hw
    refine g_get X (rV (gR M t 0)) dX6_count_114 fl_X6_7 (fun _ => rfl) ⟨hk28, hw⟩ (fun hw => ?_)
    refine g_topR (fun r29 hr29 => ?_)
    have hw := hw r29 hr29
    refine g_iconst X (3 : Int32) dX6_count_117 (by decide) ?_
    refine g_iald X dX6_count_118 hw (fun hw => ?_)
    refine g_topI (fun x30 hx30 => ?_)
    have hw := hw x30 hx30
    exact g_iret X hr hlk hSz hOld (Nat.le_refl _) dX6_count_119 hw
  have hw := hw.2 q9
  by_cases q10 : p1 = (10 : Int32)
  · have hw := hw.1 q10
    refine g_swIn (off := 119) X 120 dX6_count_1 (by rw [q10]; decide) (by rw [q10]; decide) (by rw [q10]; decide) (by decide) ?_
    refine g_aload_n X dX6_count_120 0 rfl ?_
    obtain ⟨hk31, hw⟩ := hw
    refine g_get X (rV (gR M t 0)) dX6_count_121 fl_X6_7 (fun _ => rfl) ⟨hk31, hw⟩ (fun hw => ?_)
    refine g_topR (fun r32 hr32 => ?_)
    have hw := hw r32 hr32
    refine g_iconst X (5 : Int32) dX6_count_124 (by decide) ?_
    refine g_iload_n X dX6_count_125 1 rfl ?_
    refine g_iadd X dX6_count_126 ?_
    refine g_bipush X (9 : Int32) dX6_count_127 (by decide) ?_
    refine g_isub X dX6_count_129 ?_
    refine g_iald X dX6_count_130 hw (fun hw => ?_)
    refine g_topI (fun x33 hx33 => ?_)
    have hw := hw x33 hx33
    exact g_iret X hr hlk hSz hOld (Nat.le_refl _) dX6_count_131 hw
  have hw := hw.2 q10
  by_cases q11 : p1 = (11 : Int32)
  · have hw := hw.1 q11
    refine g_swIn (off := 119) X 120 dX6_count_1 (by rw [q11]; decide) (by rw [q11]; decide) (by rw [q11]; decide) (by decide) ?_
    refine g_aload_n X dX6_count_120 0 rfl ?_
    obtain ⟨hk34, hw⟩ := hw
    refine g_get X (rV (gR M t 0)) dX6_count_121 fl_X6_7 (fun _ => rfl) ⟨hk34, hw⟩ (fun hw => ?_)
    refine g_topR (fun r35 hr35 => ?_)
    have hw := hw r35 hr35
    refine g_iconst X (5 : Int32) dX6_count_124 (by decide) ?_
    refine g_iload_n X dX6_count_125 1 rfl ?_
    refine g_iadd X dX6_count_126 ?_
    refine g_bipush X (9 : Int32) dX6_count_127 (by decide) ?_
    refine g_isub X dX6_count_129 ?_
    refine g_iald X dX6_count_130 hw (fun hw => ?_)
    refine g_topI (fun x36 hx36 => ?_)
    have hw := hw x36 hx36
    exact g_iret X hr hlk hSz hOld (Nat.le_refl _) dX6_count_131 hw
  have hw := hw.2 q11
  by_cases q12 : p1 = (12 : Int32)
  · have hw := hw.1 q12
    refine g_swIn (off := 119) X 120 dX6_count_1 (by rw [q12]; decide) (by rw [q12]; decide) (by rw [q12]; decide) (by decide) ?_
    refine g_aload_n X dX6_count_120 0 rfl ?_
    obtain ⟨hk37, hw⟩ := hw
    refine g_get X (rV (gR M t 0)) dX6_count_121 fl_X6_7 (fun _ => rfl) ⟨hk37, hw⟩ (fun hw => ?_)
    refine g_topR (fun r38 hr38 => ?_)
    have hw := hw r38 hr38
    refine g_iconst X (5 : Int32) dX6_count_124 (by decide) ?_
    refine g_iload_n X dX6_count_125 1 rfl ?_
    refine g_iadd X dX6_count_126 ?_
    refine g_bipush X (9 : Int32) dX6_count_127 (by decide) ?_
    refine g_isub X dX6_count_129 ?_
    refine g_iald X dX6_count_130 hw (fun hw => ?_)
    refine g_topI (fun x39 hx39 => ?_)
    have hw := hw x39 hx39
    exact g_iret X hr hlk hSz hOld (Nat.le_refl _) dX6_count_131 hw
  have hw := hw.2 q12
  by_cases q13 : p1 = (13 : Int32)
  · have hw := hw.1 q13
    refine g_swIn (off := 119) X 120 dX6_count_1 (by rw [q13]; decide) (by rw [q13]; decide) (by rw [q13]; decide) (by decide) ?_
    refine g_aload_n X dX6_count_120 0 rfl ?_
    obtain ⟨hk40, hw⟩ := hw
    refine g_get X (rV (gR M t 0)) dX6_count_121 fl_X6_7 (fun _ => rfl) ⟨hk40, hw⟩ (fun hw => ?_)
    refine g_topR (fun r41 hr41 => ?_)
    have hw := hw r41 hr41
    refine g_iconst X (5 : Int32) dX6_count_124 (by decide) ?_
    refine g_iload_n X dX6_count_125 1 rfl ?_
    refine g_iadd X dX6_count_126 ?_
    refine g_bipush X (9 : Int32) dX6_count_127 (by decide) ?_
    refine g_isub X dX6_count_129 ?_
    refine g_iald X dX6_count_130 hw (fun hw => ?_)
    refine g_topI (fun x42 hx42 => ?_)
    have hw := hw x42 hx42
    exact g_iret X hr hlk hSz hOld (Nat.le_refl _) dX6_count_131 hw
  have hw := hw.2 q13
  by_cases q14 : p1 = (14 : Int32)
  · have hw := hw.1 q14
    refine g_swIn (off := 119) X 120 dX6_count_1 (by rw [q14]; decide) (by rw [q14]; decide) (by rw [q14]; decide) (by decide) ?_
    refine g_aload_n X dX6_count_120 0 rfl ?_
    obtain ⟨hk43, hw⟩ := hw
    refine g_get X (rV (gR M t 0)) dX6_count_121 fl_X6_7 (fun _ => rfl) ⟨hk43, hw⟩ (fun hw => ?_)
    refine g_topR (fun r44 hr44 => ?_)
    have hw := hw r44 hr44
    refine g_iconst X (5 : Int32) dX6_count_124 (by decide) ?_
    refine g_iload_n X dX6_count_125 1 rfl ?_
    refine g_iadd X dX6_count_126 ?_
    refine g_bipush X (9 : Int32) dX6_count_127 (by decide) ?_
    refine g_isub X dX6_count_129 ?_
    refine g_iald X dX6_count_130 hw (fun hw => ?_)
    refine g_topI (fun x45 hx45 => ?_)
    have hw := hw x45 hx45
    exact g_iret X hr hlk hSz hOld (Nat.le_refl _) dX6_count_131 hw
  have hw := hw.2 q14
  by_cases q15 : p1 = (15 : Int32)
  · have hw := hw.1 q15
    refine g_swIn (off := 131) X 132 dX6_count_1 (by rw [q15]; decide) (by rw [q15]; decide) (by rw [q15]; decide) (by decide) ?_
    refine g_aload_n X dX6_count_132 0 rfl ?_
    obtain ⟨hk46, hw⟩ := hw
    refine g_get X (iV (gI M t 6)) dX6_count_133 fl_X6_46 (fun _ => rfl) ⟨hk46, hw⟩ (fun hw => ?_)
    exact g_iret X hr hlk hSz hOld (Nat.le_refl _) dX6_count_136 hw
  have hw := hw.2 q15
  by_cases q16 : p1 = (16 : Int32)
  · have hw := hw.1 q16
    refine g_swIn (off := 136) X 137 dX6_count_1 (by rw [q16]; decide) (by rw [q16]; decide) (by rw [q16]; decide) (by decide) ?_
    refine g_aload_n X dX6_count_137 0 rfl ?_
    obtain ⟨hk47, hw⟩ := hw
    refine g_get X (iV (gI M t 8)) dX6_count_138 fl_X6_150 (fun _ => rfl) ⟨hk47, hw⟩ (fun hw => ?_)
    exact g_iret X hr hlk hSz hOld (Nat.le_refl _) dX6_count_141 hw
  have hw := hw.2 q16
  have swn0 := sw_ne (k := 0) (by decide) q0
  have swn1 := sw_ne (k := 1) (by decide) q1
  have swn2 := sw_ne (k := 2) (by decide) q2
  have swn3 := sw_ne (k := 3) (by decide) q3
  have swn4 := sw_ne (k := 4) (by decide) q4
  have swn5 := sw_ne (k := 5) (by decide) q5
  have swn6 := sw_ne (k := 6) (by decide) q6
  have swn7 := sw_ne (k := 7) (by decide) q7
  have swn8 := sw_ne (k := 8) (by decide) q8
  have swn9 := sw_ne (k := 9) (by decide) q9
  have swn10 := sw_ne (k := 10) (by decide) q10
  have swn11 := sw_ne (k := 11) (by decide) q11
  have swn12 := sw_ne (k := 12) (by decide) q12
  have swn13 := sw_ne (k := 13) (by decide) q13
  have swn14 := sw_ne (k := 14) (by decide) q14
  have swn15 := sw_ne (k := 15) (by decide) q15
  have swn16 := sw_ne (k := 16) (by decide) q16
  refine g_swOut X 142 dX6_count_1 (by omega) (by decide) ?_
  refine g_bipush X (-2 : Int32) dX6_count_142 (by decide) ?_
  exact g_iret X hr hlk hSz hOld (Nat.le_refl _) dX6_count_144 hw
