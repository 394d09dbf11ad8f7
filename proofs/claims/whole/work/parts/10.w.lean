/-! written by wip/whole/gen2.py out of the bytecode -/
theorem wfl_X1_18 : Cond.fieldLink RX1 18 RX1 "gain" "D" ∈ lwG := lwG_of (tb1 _ (List.mem_of_getElem? (i := 77) (by decide +kernel))) (by decide +kernel)
theorem fl_X1_18 : FL RX1 18 1 1 := ⟨by decide, by decide, rfl, wfl_X1_18⟩
theorem wfl_X1_22 : Cond.fieldLink RX1 22 RX1 "factor" "D" ∈ lwG := lwG_of (tb1 _ (List.mem_of_getElem? (i := 80) (by decide +kernel))) (by decide +kernel)
theorem fl_X1_22 : FL RX1 22 1 2 := ⟨by decide, by decide, rfl, wfl_X1_22⟩
theorem wfl_X1_25 : Cond.fieldLink RX1 25 RX1 "wear" "I" ∈ lwG := lwG_of (tb1 _ (List.mem_of_getElem? (i := 83) (by decide +kernel))) (by decide +kernel)
theorem fl_X1_25 : FL RX1 25 1 3 := ⟨by decide, by decide, rfl, wfl_X1_25⟩
theorem wfl_X1_28 : Cond.fieldLink RX1 28 RX1 "fixture" "I" ∈ lwG := lwG_of (tb1 _ (List.mem_of_getElem? (i := 86) (by decide +kernel))) (by decide +kernel)
theorem fl_X1_28 : FL RX1 28 1 4 := ⟨by decide, by decide, rfl, wfl_X1_28⟩
theorem wfl_X1_31 : Cond.fieldLink RX1 31 RX1 "testsSince" "I" ∈ lwG := lwG_of (tb1 _ (List.mem_of_getElem? (i := 88) (by decide +kernel))) (by decide +kernel)
theorem fl_X1_31 : FL RX1 31 1 5 := ⟨by decide, by decide, rfl, wfl_X1_31⟩
theorem wfl_X1_34 : Cond.fieldLink RX1 34 RX1 "part" "I" ∈ lwG := lwG_of (tb1 _ (List.mem_of_getElem? (i := 91) (by decide +kernel))) (by decide +kernel)
theorem fl_X1_34 : FL RX1 34 1 6 := ⟨by decide, by decide, rfl, wfl_X1_34⟩
theorem wfl_X1_37 : Cond.fieldLink RX1 37 RX1 "filled" "D" ∈ lwG := lwG_of (tb1 _ (List.mem_of_getElem? (i := 94) (by decide +kernel))) (by decide +kernel)
theorem fl_X1_37 : FL RX1 37 1 7 := ⟨by decide, by decide, rfl, wfl_X1_37⟩
theorem wfl_X1_40 : Cond.fieldLink RX1 40 RX1 "pressure" "D" ∈ lwG := lwG_of (tb1 _ (List.mem_of_getElem? (i := 97) (by decide +kernel))) (by decide +kernel)
theorem fl_X1_40 : FL RX1 40 1 8 := ⟨by decide, by decide, rfl, wfl_X1_40⟩
theorem wfl_X1_43 : Cond.fieldLink RX1 43 RX1 "stepsSince" "I" ∈ lwG := lwG_of (tb1 _ (List.mem_of_getElem? (i := 100) (by decide +kernel))) (by decide +kernel)
theorem fl_X1_43 : FL RX1 43 1 9 := ⟨by decide, by decide, rfl, wfl_X1_43⟩
theorem wfl_X1_46 : Cond.fieldLink RX1 46 RX1 "tests" "I" ∈ lwG := lwG_of (tb1 _ (List.mem_of_getElem? (i := 103) (by decide +kernel))) (by decide +kernel)
theorem fl_X1_46 : FL RX1 46 1 10 := ⟨by decide, by decide, rfl, wfl_X1_46⟩
theorem wfl_X1_49 : Cond.fieldLink RX1 49 RX1 "accepted" "I" ∈ lwG := lwG_of (tb1 _ (List.mem_of_getElem? (i := 106) (by decide +kernel))) (by decide +kernel)
theorem fl_X1_49 : FL RX1 49 1 11 := ⟨by decide, by decide, rfl, wfl_X1_49⟩
theorem wfl_X1_52 : Cond.fieldLink RX1 52 RX1 "rejected" "I" ∈ lwG := lwG_of (tb1 _ (List.mem_of_getElem? (i := 109) (by decide +kernel))) (by decide +kernel)
theorem fl_X1_52 : FL RX1 52 1 12 := ⟨by decide, by decide, rfl, wfl_X1_52⟩
theorem wfl_X1_55 : Cond.fieldLink RX1 55 RX1 "retests" "I" ∈ lwG := lwG_of (tb1 _ (List.mem_of_getElem? (i := 112) (by decide +kernel))) (by decide +kernel)
theorem fl_X1_55 : FL RX1 55 1 13 := ⟨by decide, by decide, rfl, wfl_X1_55⟩
theorem wfl_X1_58 : Cond.fieldLink RX1 58 RX2 "pipe" "Z" ∈ lwG := lwG_of (tb1 _ (List.mem_of_getElem? (i := 162) (by decide +kernel))) (by decide +kernel)
theorem fl_X1_58 : FL RX1 58 2 1 := ⟨by decide, by decide, rfl, wfl_X1_58⟩
theorem wfl_X1_64 : Cond.fieldLink RX1 64 RX2 "number" "I" ∈ lwG := lwG_of (tb1 _ (List.mem_of_getElem? (i := 160) (by decide +kernel))) (by decide +kernel)
theorem fl_X1_64 : FL RX1 64 2 0 := ⟨by decide, by decide, rfl, wfl_X1_64⟩
theorem wfl_X2_25 : Cond.fieldLink RX2 25 RX2 "pipe" "Z" ∈ lwG := lwG_of (tb1 _ (List.mem_of_getElem? (i := 161) (by decide +kernel))) (by decide +kernel)
theorem fl_X2_25 : FL RX2 25 2 1 := ⟨by decide, by decide, rfl, wfl_X2_25⟩
theorem wfl_X2_29 : Cond.fieldLink RX2 29 RX2 "leak" "I" ∈ lwG := lwG_of (tb1 _ (List.mem_of_getElem? (i := 164) (by decide +kernel))) (by decide +kernel)
theorem fl_X2_29 : FL RX2 29 2 2 := ⟨by decide, by decide, rfl, wfl_X2_29⟩
theorem wfl_X2_32 : Cond.fieldLink RX2 32 RX2 "volume" "I" ∈ lwG := lwG_of (tb1 _ (List.mem_of_getElem? (i := 167) (by decide +kernel))) (by decide +kernel)
theorem fl_X2_32 : FL RX2 32 2 3 := ⟨by decide, by decide, rfl, wfl_X2_32⟩
theorem wfl_X2_22 : Cond.fieldLink RX2 22 RX2 "state" "I" ∈ lwG := lwG_of (tb1 _ (List.mem_of_getElem? (i := 170) (by decide +kernel))) (by decide +kernel)
theorem fl_X2_22 : FL RX2 22 2 4 := ⟨by decide, by decide, rfl, wfl_X2_22⟩
theorem wfl_X2_35 : Cond.fieldLink RX2 35 RX2 "place" "I" ∈ lwG := lwG_of (tb1 _ (List.mem_of_getElem? (i := 173) (by decide +kernel))) (by decide +kernel)
theorem fl_X2_35 : FL RX2 35 2 5 := ⟨by decide, by decide, rfl, wfl_X2_35⟩
theorem wfl_X2_38 : Cond.fieldLink RX2 38 RX2 "tests" "I" ∈ lwG := lwG_of (tb1 _ (List.mem_of_getElem? (i := 176) (by decide +kernel))) (by decide +kernel)
theorem fl_X2_38 : FL RX2 38 2 6 := ⟨by decide, by decide, rfl, wfl_X2_38⟩
theorem wfl_X2_41 : Cond.fieldLink RX2 41 RX2 "retests" "I" ∈ lwG := lwG_of (tb1 _ (List.mem_of_getElem? (i := 179) (by decide +kernel))) (by decide +kernel)
theorem fl_X2_41 : FL RX2 41 2 7 := ⟨by decide, by decide, rfl, wfl_X2_41⟩
theorem wfl_X2_44 : Cond.fieldLink RX2 44 RX2 "latestHead" "I" ∈ lwG := lwG_of (tb1 _ (List.mem_of_getElem? (i := 182) (by decide +kernel))) (by decide +kernel)
theorem fl_X2_44 : FL RX2 44 2 8 := ⟨by decide, by decide, rfl, wfl_X2_44⟩
theorem wfl_X2_47 : Cond.fieldLink RX2 47 RX2 "latestValue" "D" ∈ lwG := lwG_of (tb1 _ (List.mem_of_getElem? (i := 185) (by decide +kernel))) (by decide +kernel)
theorem fl_X2_47 : FL RX2 47 2 9 := ⟨by decide, by decide, rfl, wfl_X2_47⟩
theorem wfl_X2_51 : Cond.fieldLink RX2 51 RX2 "cause" "I" ∈ lwG := lwG_of (tb1 _ (List.mem_of_getElem? (i := 188) (by decide +kernel))) (by decide +kernel)
theorem fl_X2_51 : FL RX2 51 2 10 := ⟨by decide, by decide, rfl, wfl_X2_51⟩
theorem wc_X2_begin : Cond.code yX2_begin cX2_begin 5 none ∈ lwG := lwG_of (tb1 _ (List.mem_of_getElem? (i := 158) (by decide +kernel))) (by decide +kernel)
theorem wi_X2 : Cond.initialized RX2 ∈ lwG := lwG_of (tb1 _ (List.mem_of_getElem? (i := 5) (by decide +kernel))) (by decide +kernel)
theorem wm_X2_18 : Cond.methodLink RX2 18 yX2_begin ∈ lwG := lwG_of (tb1 _ (List.mem_of_getElem? (i := 155) (by decide +kernel))) (by decide +kernel)
theorem cw_X2_18 : CW RX2 18 yX2_begin cX2_begin 5 none 4 := ⟨by decide +kernel, by decide +kernel, wc_X2_begin, wi_X2, wm_X2_18⟩
theorem wn_X2_begin : Cond.instanceMethod yX2_begin ∈ lwG := lwG_of (tb1 _ (List.mem_of_getElem? (i := 156) (by decide +kernel))) (by decide +kernel)
theorem ws_X2_begin : Cond.selects RX2 yX2_begin yX2_begin ∈ lwG := lwG_of (tb1 _ (List.mem_of_getElem? (i := 157) (by decide +kernel))) (by decide +kernel)
theorem iv_X2_begin : Cond.instanceMethod yX2_begin ∈ lwG ∧ Cond.selects (fC 2) yX2_begin yX2_begin ∈ lwG ∧ 2 < 7 := ⟨wn_X2_begin, ws_X2_begin, by decide⟩
theorem wfl_X0_58 : Cond.fieldLink RX0 58 RX0 "headCount" "I" ∈ lwG := lwG_of (tb1 _ (List.mem_of_getElem? (i := 221) (by decide +kernel))) (by decide +kernel)
theorem fl_X0_58 : FL RX0 58 0 6 := ⟨by decide, by decide, rfl, wfl_X0_58⟩
theorem wfl_X0_44 : Cond.fieldLink RX0 44 RX0 "heads" "[LLeakCarousel$Head;" ∈ lwG := lwG_of (tb1 _ (List.mem_of_getElem? (i := 217) (by decide +kernel))) (by decide +kernel)
theorem fl_X0_44 : FL RX0 44 0 3 := ⟨by decide, by decide, rfl, wfl_X0_44⟩
theorem wfl_X0_61 : Cond.fieldLink RX0 61 RX0 "partCount" "I" ∈ lwG := lwG_of (tb1 _ (List.mem_of_getElem? (i := 223) (by decide +kernel))) (by decide +kernel)
theorem fl_X0_61 : FL RX0 61 0 7 := ⟨by decide, by decide, rfl, wfl_X0_61⟩
theorem wfl_X0_53 : Cond.fieldLink RX0 53 RX0 "parts" "[LLeakCarousel$Part;" ∈ lwG := lwG_of (tb1 _ (List.mem_of_getElem? (i := 218) (by decide +kernel))) (by decide +kernel)
theorem fl_X0_53 : FL RX0 53 0 4 := ⟨by decide, by decide, rfl, wfl_X0_53⟩
theorem wfl_X0_93 : Cond.fieldLink RX0 93 RX2 "state" "I" ∈ lwG := lwG_of (tb1 _ (List.mem_of_getElem? (i := 171) (by decide +kernel))) (by decide +kernel)
theorem fl_X0_93 : FL RX0 93 2 4 := ⟨by decide, by decide, rfl, wfl_X0_93⟩
theorem wfl_X0_214 : Cond.fieldLink RX0 214 RX2 "cause" "I" ∈ lwG := lwG_of (tb1 _ (List.mem_of_getElem? (i := 190) (by decide +kernel))) (by decide +kernel)
theorem fl_X0_214 : FL RX0 214 2 10 := ⟨by decide, by decide, rfl, wfl_X0_214⟩
theorem wfl_X0_149 : Cond.fieldLink RX0 149 RX1 "tests" "I" ∈ lwG := lwG_of (tb1 _ (List.mem_of_getElem? (i := 104) (by decide +kernel))) (by decide +kernel)
theorem fl_X0_149 : FL RX0 149 1 10 := ⟨by decide, by decide, rfl, wfl_X0_149⟩
theorem wfl_X0_175 : Cond.fieldLink RX0 175 RX1 "retests" "I" ∈ lwG := lwG_of (tb1 _ (List.mem_of_getElem? (i := 113) (by decide +kernel))) (by decide +kernel)
theorem fl_X0_175 : FL RX0 175 1 13 := ⟨by decide, by decide, rfl, wfl_X0_175⟩
theorem wfl_X0_96 : Cond.fieldLink RX0 96 RX2 "place" "I" ∈ lwG := lwG_of (tb1 _ (List.mem_of_getElem? (i := 174) (by decide +kernel))) (by decide +kernel)
theorem fl_X0_96 : FL RX0 96 2 5 := ⟨by decide, by decide, rfl, wfl_X0_96⟩
theorem wk_X5_260 : Cond.constantDouble RX5 260 (4652007308841189376) ∈ lwG := lwG_of (tb2 _ (List.mem_of_getElem? (i := 114) (by decide +kernel))) (by decide +kernel)
theorem wk_X5_262 : Cond.constantLong RX5 262 (4503599627370495) ∈ lwG := lwG_of (tb1 _ (List.mem_of_getElem? (i := 40) (by decide +kernel))) (by decide +kernel)
theorem wk_X5_264 : Cond.constantLong RX5 264 (4503599627370496) ∈ lwG := lwG_of (tb1 _ (List.mem_of_getElem? (i := 41) (by decide +kernel))) (by decide +kernel)
theorem wk_X5_268 : Cond.constantDouble RX5 268 (4611686018427387904) ∈ lwG := lwG_of (tb1 _ (List.mem_of_getElem? (i := 43) (by decide +kernel))) (by decide +kernel)
theorem wk_X5_266 : Cond.constantDouble RX5 266 (4751297606875873280) ∈ lwG := lwG_of (tb1 _ (List.mem_of_getElem? (i := 42) (by decide +kernel))) (by decide +kernel)
theorem wk_X5_258 : Cond.constantDouble RX5 258 (9221120237041090560) ∈ lwG := lwG_of (tb3 _ (List.mem_of_getElem? (i := 111) (by decide +kernel))) (by decide +kernel)
theorem wk_X5_272 : Cond.constant RX5 272 (8388608) ∈ lwG := lwG_of (tb3 _ (List.mem_of_getElem? (i := 120) (by decide +kernel))) (by decide +kernel)
theorem wk_X5_270 : Cond.constantDouble RX5 270 (4710765210229538816) ∈ lwG := lwG_of (tb3 _ (List.mem_of_getElem? (i := 119) (by decide +kernel))) (by decide +kernel)
theorem wfl_X3_16 : Cond.fieldLink RX3 16 RX3 "bits" "J" ∈ lwG := lwG_of (tb1 _ (List.mem_of_getElem? (i := 48) (by decide +kernel))) (by decide +kernel)
theorem fl_X3_16 : FL RX3 16 3 2 := ⟨by decide, by decide, rfl, wfl_X3_16⟩
theorem wc_X5_numberOf : Cond.code yX5_numberOf cX5_numberOf 8 (some .double) ∈ lwG := lwG_of (tb1 _ (List.mem_of_getElem? (i := 39) (by decide +kernel))) (by decide +kernel)
theorem wi_X5 : Cond.initialized RX5 ∈ lwG := lwG_of (tb1 _ (List.mem_of_getElem? (i := 1) (by decide +kernel))) (by decide +kernel)
theorem wt_X5_numberOf : Cond.static yX5_numberOf ∈ lwG := lwG_of (tb1 _ (List.mem_of_getElem? (i := 38) (by decide +kernel))) (by decide +kernel)
theorem cn_X5_numberOf : CN yX5_numberOf cX5_numberOf 8 (some .double) 1 := ⟨by decide +kernel, by decide +kernel, wc_X5_numberOf, wi_X5, wt_X5_numberOf⟩
theorem wfl_X3_25 : Cond.fieldLink RX3 25 RX3 "number" "D" ∈ lwG := lwG_of (tb1 _ (List.mem_of_getElem? (i := 50) (by decide +kernel))) (by decide +kernel)
theorem fl_X3_25 : FL RX3 25 3 3 := ⟨by decide, by decide, rfl, wfl_X3_25⟩
theorem dX1_begin_0 : decode cX1_begin 0 = .ok (.aload_n 0, 1) := by decide +kernel
theorem dX1_begin_1 : decode cX1_begin 1 = .ok (.dconst 1, 1) := by decide +kernel
theorem dX1_begin_2 : decode cX1_begin 2 = .ok (.putfield 18, 3) := by decide +kernel
theorem dX1_begin_5 : decode cX1_begin 5 = .ok (.aload_n 0, 1) := by decide +kernel
theorem dX1_begin_6 : decode cX1_begin 6 = .ok (.dconst 1, 1) := by decide +kernel
theorem dX1_begin_7 : decode cX1_begin 7 = .ok (.putfield 22, 3) := by decide +kernel
theorem dX1_begin_10 : decode cX1_begin 10 = .ok (.aload_n 0, 1) := by decide +kernel
theorem dX1_begin_11 : decode cX1_begin 11 = .ok (.iconst 0, 1) := by decide +kernel
theorem dX1_begin_12 : decode cX1_begin 12 = .ok (.putfield 25, 3) := by decide +kernel
theorem dX1_begin_15 : decode cX1_begin 15 = .ok (.aload_n 0, 1) := by decide +kernel
theorem dX1_begin_16 : decode cX1_begin 16 = .ok (.iconst 0, 1) := by decide +kernel
theorem dX1_begin_17 : decode cX1_begin 17 = .ok (.putfield 28, 3) := by decide +kernel
theorem dX1_begin_20 : decode cX1_begin 20 = .ok (.aload_n 0, 1) := by decide +kernel
theorem dX1_begin_21 : decode cX1_begin 21 = .ok (.iconst 0, 1) := by decide +kernel
theorem dX1_begin_22 : decode cX1_begin 22 = .ok (.putfield 31, 3) := by decide +kernel
theorem dX1_begin_25 : decode cX1_begin 25 = .ok (.aload_n 0, 1) := by decide +kernel
theorem dX1_begin_26 : decode cX1_begin 26 = .ok (.bipush (-5), 2) := by decide +kernel
theorem dX1_begin_28 : decode cX1_begin 28 = .ok (.putfield 34, 3) := by decide +kernel
theorem dX1_begin_31 : decode cX1_begin 31 = .ok (.aload_n 0, 1) := by decide +kernel
theorem dX1_begin_32 : decode cX1_begin 32 = .ok (.dconst 0, 1) := by decide +kernel
theorem dX1_begin_33 : decode cX1_begin 33 = .ok (.putfield 37, 3) := by decide +kernel
theorem dX1_begin_36 : decode cX1_begin 36 = .ok (.aload_n 0, 1) := by decide +kernel
theorem dX1_begin_37 : decode cX1_begin 37 = .ok (.dconst 0, 1) := by decide +kernel
theorem dX1_begin_38 : decode cX1_begin 38 = .ok (.putfield 40, 3) := by decide +kernel
theorem dX1_begin_41 : decode cX1_begin 41 = .ok (.aload_n 0, 1) := by decide +kernel
theorem dX1_begin_42 : decode cX1_begin 42 = .ok (.iconst 0, 1) := by decide +kernel
theorem dX1_begin_43 : decode cX1_begin 43 = .ok (.putfield 43, 3) := by decide +kernel
theorem dX1_begin_46 : decode cX1_begin 46 = .ok (.aload_n 0, 1) := by decide +kernel
theorem dX1_begin_47 : decode cX1_begin 47 = .ok (.iconst 0, 1) := by decide +kernel
theorem dX1_begin_48 : decode cX1_begin 48 = .ok (.putfield 46, 3) := by decide +kernel
theorem dX1_begin_51 : decode cX1_begin 51 = .ok (.aload_n 0, 1) := by decide +kernel
theorem dX1_begin_52 : decode cX1_begin 52 = .ok (.iconst 0, 1) := by decide +kernel
theorem dX1_begin_53 : decode cX1_begin 53 = .ok (.putfield 49, 3) := by decide +kernel
theorem dX1_begin_56 : decode cX1_begin 56 = .ok (.aload_n 0, 1) := by decide +kernel
theorem dX1_begin_57 : decode cX1_begin 57 = .ok (.iconst 0, 1) := by decide +kernel
theorem dX1_begin_58 : decode cX1_begin 58 = .ok (.putfield 52, 3) := by decide +kernel
theorem dX1_begin_61 : decode cX1_begin 61 = .ok (.aload_n 0, 1) := by decide +kernel
theorem dX1_begin_62 : decode cX1_begin 62 = .ok (.iconst 0, 1) := by decide +kernel
theorem dX1_begin_63 : decode cX1_begin 63 = .ok (.putfield 55, 3) := by decide +kernel
theorem dX1_begin_66 : decode cX1_begin 66 = .ok (.return_, 1) := by decide +kernel
def w_X1_begin (n : Nat) (M : Mem) (t : Nat) (K : Mem → Prop) : Prop := ((t ≤ n ∧ kd t = (1, 0)) ∧ (∀ M2, M2 = sD M t 1 FP.dconst1 → (∀ M3, M3 = sD M2 t 2 FP.dconst1 → (∀ M4, M4 = sI M3 t 3 (0 : Int32) → (∀ M5, M5 = sI M4 t 4 (0 : Int32) → (∀ M6, M6 = sI M5 t 5 (0 : Int32) → (∀ M7, M7 = sI M6 t 6 (-5 : Int32) → (∀ M8, M8 = sD M7 t 7 FP.dconst0 → (∀ M9, M9 = sD M8 t 8 FP.dconst0 → (∀ M10, M10 = sI M9 t 9 (0 : Int32) → (∀ M11, M11 = sI M10 t 10 (0 : Int32) → (∀ M12, M12 = sI M11 t 11 (0 : Int32) → (∀ M13, M13 = sI M12 t 12 (0 : Int32) → (∀ M14, M14 = sI M13 t 13 (0 : Int32) → K M14))))))))))))))
abbrev rmX1_begin : Room := { frames := 0, cells := 0, slots := 0, locals := 0 }
set_option maxHeartbeats 4000000 in
set_option maxRecDepth 20000 in
theorem c_X1_begin (l : Launch) (E : Gl) (n : Nat) (M : Mem) (t : Nat) (K : Mem → Prop) (hw : w_X1_begin n M t K) : CT E l yX1_begin cX1_begin 1 none rmX1_begin n M [rV t] (PV E n K) := by
  refine g_met l (by decide) (Nat.le_of_ble_eq_true rfl) ?_
  intro p e s m args below meth c X hr hlk hnm hz1 hz2
  change CX E p s m c _ _ RX1 at X
  unfold w_X1_begin at hw
  refine g_aload_n X dX1_begin_0 0 rfl ?_
  refine g_dconst1 X dX1_begin_1 ?_
  obtain ⟨hk1, hw⟩ := hw
  refine g_putD X dX1_begin_2 fl_X1_18 rfl (Or.inl rfl) ⟨hk1, hw⟩ (fun hw => ?_)
  refine g_topM (fun M2 hM2 => ?_)
  have hw := hw M2 hM2
  refine g_aload_n X dX1_begin_5 0 rfl ?_
  refine g_dconst1 X dX1_begin_6 ?_
  refine g_putD X dX1_begin_7 fl_X1_22 rfl (Or.inl rfl) ⟨hk1, hw⟩ (fun hw => ?_)
  refine g_topM (fun M3 hM3 => ?_)
  have hw := hw M3 hM3
  refine g_aload_n X dX1_begin_10 0 rfl ?_
  refine g_iconst X (0 : Int32) dX1_begin_11 (by decide) ?_
  refine g_putI X dX1_begin_12 fl_X1_25 rfl (Or.inl rfl) ⟨hk1, hw⟩ (fun hw => ?_)
  refine g_topM (fun M4 hM4 => ?_)
  have hw := hw M4 hM4
  refine g_aload_n X dX1_begin_15 0 rfl ?_
  refine g_iconst X (0 : Int32) dX1_begin_16 (by decide) ?_
  refine g_putI X dX1_begin_17 fl_X1_28 rfl (Or.inl rfl) ⟨hk1, hw⟩ (fun hw => ?_)
  refine g_topM (fun M5 hM5 => ?_)
  have hw := hw M5 hM5
  refine g_aload_n X dX1_begin_20 0 rfl ?_
  refine g_iconst X (0 : Int32) dX1_begin_21 (by decide) ?_
  refine g_putI X dX1_begin_22 fl_X1_31 rfl (Or.inl rfl) ⟨hk1, hw⟩ (fun hw => ?_)
  refine g_topM (fun M6 hM6 => ?_)
  have hw := hw M6 hM6
  refine g_aload_n X dX1_begin_25 0 rfl ?_
  refine g_bipush X (-5 : Int32) dX1_begin_26 (by decide) ?_
  refine g_putI X dX1_begin_28 fl_X1_34 rfl (Or.inl rfl) ⟨hk1, hw⟩ (fun hw => ?_)
  refine g_topM (fun M7 hM7 => ?_)
  have hw := hw M7 hM7
  refine g_aload_n X dX1_begin_31 0 rfl ?_
  refine g_dconst0 X dX1_begin_32 ?_
  refine g_putD X dX1_begin_33 fl_X1_37 rfl (Or.inl rfl) ⟨hk1, hw⟩ (fun hw => ?_)
  refine g_topM (fun M8 hM8 => ?_)
  have hw := hw M8 hM8
  refine g_aload_n X dX1_begin_36 0 rfl ?_
  refine g_dconst0 X dX1_begin_37 ?_
  refine g_putD X dX1_begin_38 fl_X1_40 rfl (Or.inl rfl) ⟨hk1, hw⟩ (fun hw => ?_)
  refine g_topM (fun M9 hM9 => ?_)
  have hw := hw M9 hM9
  refine g_aload_n X dX1_begin_41 0 rfl ?_
  refine g_iconst X (0 : Int32) dX1_begin_42 (by decide) ?_
  refine g_putI X dX1_begin_43 fl_X1_43 rfl (Or.inl rfl) ⟨hk1, hw⟩ (fun hw => ?_)
  refine g_topM (fun M10 hM10 => ?_)
  have hw := hw M10 hM10
  refine g_aload_n X dX1_begin_46 0 rfl ?_
  refine g_iconst X (0 : Int32) dX1_begin_47 (by decide) ?_
  refine g_putI X dX1_begin_48 fl_X1_46 rfl (Or.inl rfl) ⟨hk1, hw⟩ (fun hw => ?_)
  refine g_topM (fun M11 hM11 => ?_)
  have hw := hw M11 hM11
  refine g_aload_n X dX1_begin_51 0 rfl ?_
  refine g_iconst X (0 : Int32) dX1_begin_52 (by decide) ?_
  refine g_putI X dX1_begin_53 fl_X1_49 rfl (Or.inl rfl) ⟨hk1, hw⟩ (fun hw => ?_)
  refine g_topM (fun M12 hM12 => ?_)
  have hw := hw M12 hM12
  refine g_aload_n X dX1_begin_56 0 rfl ?_
  refine g_iconst X (0 : Int32) dX1_begin_57 (by decide) ?_
  refine g_putI X dX1_begin_58 fl_X1_52 rfl (Or.inl rfl) ⟨hk1, hw⟩ (fun hw => ?_)
  refine g_topM (fun M13 hM13 => ?_)
  have hw := hw M13 hM13
  refine g_aload_n X dX1_begin_61 0 rfl ?_
  refine g_iconst X (0 : Int32) dX1_begin_62 (by decide) ?_
  refine g_putI X dX1_begin_63 fl_X1_55 rfl (Or.inl rfl) ⟨hk1, hw⟩ (fun hw => ?_)
  refine g_topM (fun M14 hM14 => ?_)
  have hw := hw M14 hM14
  exact g_vret X hr hlk hz1 hz2 (Nat.le_refl _) dX1_begin_66 hw
theorem dX1_takes_0 : decode cX1_takes 0 = .ok (.aload_n 0, 1) := by decide +kernel
theorem dX1_takes_1 : decode cX1_takes 1 = .ok (.getfield 28, 3) := by decide +kernel
theorem dX1_takes_4 : decode cX1_takes 4 = .ok (.ifCond .eq 23, 3) := by decide +kernel
theorem dX1_takes_7 : decode cX1_takes 7 = .ok (.aload_n 0, 1) := by decide +kernel
theorem dX1_takes_8 : decode cX1_takes 8 = .ok (.getfield 28, 3) := by decide +kernel
theorem dX1_takes_11 : decode cX1_takes 11 = .ok (.iconst 2, 1) := by decide +kernel
theorem dX1_takes_12 : decode cX1_takes 12 = .ok (.if_icmp .ne 7, 3) := by decide +kernel
theorem dX1_takes_15 : decode cX1_takes 15 = .ok (.iconst 1, 1) := by decide +kernel
theorem dX1_takes_16 : decode cX1_takes 16 = .ok (.goto 4, 3) := by decide +kernel
theorem dX1_takes_19 : decode cX1_takes 19 = .ok (.iconst 0, 1) := by decide +kernel
theorem dX1_takes_20 : decode cX1_takes 20 = .ok (.aload_n 1, 1) := by decide +kernel
theorem dX1_takes_21 : decode cX1_takes 21 = .ok (.getfield 58, 3) := by decide +kernel
theorem dX1_takes_24 : decode cX1_takes 24 = .ok (.if_icmp .ne 7, 3) := by decide +kernel
theorem dX1_takes_27 : decode cX1_takes 27 = .ok (.iconst 1, 1) := by decide +kernel
theorem dX1_takes_28 : decode cX1_takes 28 = .ok (.goto 4, 3) := by decide +kernel
theorem dX1_takes_31 : decode cX1_takes 31 = .ok (.iconst 0, 1) := by decide +kernel
theorem dX1_takes_32 : decode cX1_takes 32 = .ok (.ireturn, 1) := by decide +kernel
def w_X1_takes (n : Nat) (M : Mem) (t : Nat) (p1 : Nat) (K : Int32 → Mem → Prop) : Prop := ((t ≤ n ∧ kd t = (1, 0)) ∧ (((gI M t 4) = 0 → K (1 : Int32) M) ∧ (¬ (gI M t 4) = 0 → ((¬ (gI M t 4) = (2 : Int32) → ((p1 ≤ n ∧ kd p1 = (2, 0)) ∧ ((¬ (0 : Int32) = (gI M p1 1) → K (0 : Int32) M) ∧ ((0 : Int32) = (gI M p1 1) → K (1 : Int32) M)))) ∧ ((gI M t 4) = (2 : Int32) → ((p1 ≤ n ∧ kd p1 = (2, 0)) ∧ ((¬ (1 : Int32) = (gI M p1 1) → K (0 : Int32) M) ∧ ((1 : Int32) = (gI M p1 1) → K (1 : Int32) M))))))))
abbrev rmX1_takes : Room := { frames := 0, cells := 0, slots := 0, locals := 0 }
set_option maxHeartbeats 4000000 in
set_option maxRecDepth 20000 in
theorem c_X1_takes (l : Launch) (E : Gl) (n : Nat) (M : Mem) (t : Nat) (p1 : Nat) (K : Int32 → Mem → Prop) (hw : w_X1_takes n M t p1 K) : CT E l yX1_takes cX1_takes 2 (some .boolean) rmX1_takes n M [rV t, rV p1] (PI E n K) := by
  refine g_met l (by decide) (Nat.le_of_ble_eq_true rfl) ?_
  intro p e s m args below meth c X hr hlk hnm hz1 hz2
  change CX E p s m c _ _ RX1 at X
  unfold w_X1_takes at hw
  refine g_aload_n X dX1_takes_0 0 rfl ?_
  obtain ⟨hk1, hw⟩ := hw
  refine g_get X (iV (gI M t 4)) dX1_takes_1 fl_X1_28 (fun _ => rfl) ⟨hk1, hw⟩ (fun hw => ?_)
  refine g_if_eq X 27 dX1_takes_4 (by decide) hw (fun hw => ?_) (fun hw => ?_)
  · refine g_iconst X (1 : Int32) dX1_takes_27 (by decide) ?_
    refine g_goto X 32 dX1_takes_28 (by decide) ?_
    exact g_zret X hr hlk hz1 hz2 (Nat.le_refl _) dX1_takes_32 ⟨rfl, hw⟩
  · refine g_aload_n X dX1_takes_7 0 rfl ?_
    refine g_get X (iV (gI M t 4)) dX1_takes_8 fl_X1_28 (fun _ => rfl) ⟨hk1, hw⟩ (fun hw => ?_)
    refine g_iconst X (2 : Int32) dX1_takes_11 (by decide) ?_
    refine g_icmp_ne X 19 dX1_takes_12 (by decide) hw (fun hw => ?_) (fun hw => ?_)
    · refine g_iconst X (0 : Int32) dX1_takes_19 (by decide) ?_
      refine g_aload_n X dX1_takes_20 1 rfl ?_
      obtain ⟨hk2, hw⟩ := hw
      refine g_get X (iV (gI M p1 1)) dX1_takes_21 fl_X1_58 (fun _ => rfl) ⟨hk2, hw⟩ (fun hw => ?_)
      refine g_icmp_ne X 31 dX1_takes_24 (by decide) hw (fun hw => ?_) (fun hw => ?_)
      · refine g_iconst X (0 : Int32) dX1_takes_31 (by decide) ?_
        exact g_zret X hr hlk hz1 hz2 (Nat.le_refl _) dX1_takes_32 ⟨rfl, hw⟩
      · refine g_iconst X (1 : Int32) dX1_takes_27 (by decide) ?_
        refine g_goto X 32 dX1_takes_28 (by decide) ?_
        exact g_zret X hr hlk hz1 hz2 (Nat.le_refl _) dX1_takes_32 ⟨rfl, hw⟩
    · refine g_iconst X (1 : Int32) dX1_takes_15 (by decide) ?_
      refine g_goto X 20 dX1_takes_16 (by decide) ?_
      refine g_aload_n X dX1_takes_20 1 rfl ?_
      obtain ⟨hk3, hw⟩ := hw
      refine g_get X (iV (gI M p1 1)) dX1_takes_21 fl_X1_58 (fun _ => rfl) ⟨hk3, hw⟩ (fun hw => ?_)
      refine g_icmp_ne X 31 dX1_takes_24 (by decide) hw (fun hw => ?_) (fun hw => ?_)
      · refine g_iconst X (0 : Int32) dX1_takes_31 (by decide) ?_
        exact g_zret X hr hlk hz1 hz2 (Nat.le_refl _) dX1_takes_32 ⟨rfl, hw⟩
      · refine g_iconst X (1 : Int32) dX1_takes_27 (by decide) ?_
        refine g_goto X 32 dX1_takes_28 (by decide) ?_
        exact g_zret X hr hlk hz1 hz2 (Nat.le_refl _) dX1_takes_32 ⟨rfl, hw⟩
theorem dX1_fill_0 : decode cX1_fill 0 = .ok (.aload_n 0, 1) := by decide +kernel
theorem dX1_fill_1 : decode cX1_fill 1 = .ok (.aload_n 1, 1) := by decide +kernel
theorem dX1_fill_2 : decode cX1_fill 2 = .ok (.getfield 64, 3) := by decide +kernel
theorem dX1_fill_5 : decode cX1_fill 5 = .ok (.putfield 34, 3) := by decide +kernel
theorem dX1_fill_8 : decode cX1_fill 8 = .ok (.aload_n 0, 1) := by decide +kernel
theorem dX1_fill_9 : decode cX1_fill 9 = .ok (.dload_n 2, 1) := by decide +kernel
theorem dX1_fill_10 : decode cX1_fill 10 = .ok (.putfield 37, 3) := by decide +kernel
theorem dX1_fill_13 : decode cX1_fill 13 = .ok (.aload_n 0, 1) := by decide +kernel
theorem dX1_fill_14 : decode cX1_fill 14 = .ok (.dload_n 2, 1) := by decide +kernel
theorem dX1_fill_15 : decode cX1_fill 15 = .ok (.putfield 40, 3) := by decide +kernel
theorem dX1_fill_18 : decode cX1_fill 18 = .ok (.aload_n 0, 1) := by decide +kernel
theorem dX1_fill_19 : decode cX1_fill 19 = .ok (.iconst 0, 1) := by decide +kernel
theorem dX1_fill_20 : decode cX1_fill 20 = .ok (.putfield 43, 3) := by decide +kernel
theorem dX1_fill_23 : decode cX1_fill 23 = .ok (.return_, 1) := by decide +kernel
def w_X1_fill (n : Nat) (M : Mem) (t : Nat) (p1 : Nat) (p2 : UInt64) (K : Mem → Prop) : Prop := ((p1 ≤ n ∧ kd p1 = (2, 0)) ∧ ((t ≤ n ∧ kd t = (1, 0)) ∧ (∀ M3, M3 = sI M t 6 (gI M p1 0) → (∀ M4, M4 = sD M3 t 7 p2 → (∀ M5, M5 = sD M4 t 8 p2 → (∀ M6, M6 = sI M5 t 9 (0 : Int32) → K M6))))))
abbrev rmX1_fill : Room := { frames := 0, cells := 0, slots := 0, locals := 0 }
set_option maxHeartbeats 4000000 in
set_option maxRecDepth 20000 in
theorem c_X1_fill (l : Launch) (E : Gl) (n : Nat) (M : Mem) (t : Nat) (p1 : Nat) (p2 : UInt64) (K : Mem → Prop) (hw : w_X1_fill n M t p1 p2 K) : CT E l yX1_fill cX1_fill 4 none rmX1_fill n M [rV t, rV p1, dV p2] (PV E n K) := by
  refine g_met l (by decide) (Nat.le_of_ble_eq_true rfl) ?_
  intro p e s m args below meth c X hr hlk hnm hz1 hz2
  change CX E p s m c _ _ RX1 at X
  unfold w_X1_fill at hw
  refine g_aload_n X dX1_fill_0 0 rfl ?_
  refine g_aload_n X dX1_fill_1 1 rfl ?_
  obtain ⟨hk1, hw⟩ := hw
  refine g_get X (iV (gI M p1 0)) dX1_fill_2 fl_X1_64 (fun _ => rfl) ⟨hk1, hw⟩ (fun hw => ?_)
  obtain ⟨hk2, hw⟩ := hw
  refine g_putI X dX1_fill_5 fl_X1_34 rfl (Or.inl rfl) ⟨hk2, hw⟩ (fun hw => ?_)
  refine g_topM (fun M3 hM3 => ?_)
  have hw := hw M3 hM3
  refine g_aload_n X dX1_fill_8 0 rfl ?_
  refine g_dload_n X dX1_fill_9 2 rfl ?_
  refine g_putD X dX1_fill_10 fl_X1_37 rfl (Or.inl rfl) ⟨hk2, hw⟩ (fun hw => ?_)
  refine g_topM (fun M4 hM4 => ?_)
  have hw := hw M4 hM4
  refine g_aload_n X dX1_fill_13 0 rfl ?_
  refine g_dload_n X dX1_fill_14 2 rfl ?_
  refine g_putD X dX1_fill_15 fl_X1_40 rfl (Or.inl rfl) ⟨hk2, hw⟩ (fun hw => ?_)
  refine g_topM (fun M5 hM5 => ?_)
  have hw := hw M5 hM5
  refine g_aload_n X dX1_fill_18 0 rfl ?_
  refine g_iconst X (0 : Int32) dX1_fill_19 (by decide) ?_
  refine g_putI X dX1_fill_20 fl_X1_43 rfl (Or.inl rfl) ⟨hk2, hw⟩ (fun hw => ?_)
  refine g_topM (fun M6 hM6 => ?_)
  have hw := hw M6 hM6
  exact g_vret X hr hlk hz1 hz2 (Nat.le_refl _) dX1_fill_23 hw
theorem dX1_copyOf_0 : decode cX1_copyOf 0 = .ok (.aload_n 0, 1) := by decide +kernel
theorem dX1_copyOf_1 : decode cX1_copyOf 1 = .ok (.aload_n 1, 1) := by decide +kernel
theorem dX1_copyOf_2 : decode cX1_copyOf 2 = .ok (.getfield 18, 3) := by decide +kernel
theorem dX1_copyOf_5 : decode cX1_copyOf 5 = .ok (.putfield 18, 3) := by decide +kernel
theorem dX1_copyOf_8 : decode cX1_copyOf 8 = .ok (.aload_n 0, 1) := by decide +kernel
theorem dX1_copyOf_9 : decode cX1_copyOf 9 = .ok (.aload_n 1, 1) := by decide +kernel
theorem dX1_copyOf_10 : decode cX1_copyOf 10 = .ok (.getfield 22, 3) := by decide +kernel
theorem dX1_copyOf_13 : decode cX1_copyOf 13 = .ok (.putfield 22, 3) := by decide +kernel
theorem dX1_copyOf_16 : decode cX1_copyOf 16 = .ok (.aload_n 0, 1) := by decide +kernel
theorem dX1_copyOf_17 : decode cX1_copyOf 17 = .ok (.aload_n 1, 1) := by decide +kernel
theorem dX1_copyOf_18 : decode cX1_copyOf 18 = .ok (.getfield 25, 3) := by decide +kernel
theorem dX1_copyOf_21 : decode cX1_copyOf 21 = .ok (.putfield 25, 3) := by decide +kernel
theorem dX1_copyOf_24 : decode cX1_copyOf 24 = .ok (.aload_n 0, 1) := by decide +kernel
theorem dX1_copyOf_25 : decode cX1_copyOf 25 = .ok (.aload_n 1, 1) := by decide +kernel
theorem dX1_copyOf_26 : decode cX1_copyOf 26 = .ok (.getfield 28, 3) := by decide +kernel
theorem dX1_copyOf_29 : decode cX1_copyOf 29 = .ok (.putfield 28, 3) := by decide +kernel
theorem dX1_copyOf_32 : decode cX1_copyOf 32 = .ok (.aload_n 0, 1) := by decide +kernel
theorem dX1_copyOf_33 : decode cX1_copyOf 33 = .ok (.aload_n 1, 1) := by decide +kernel
theorem dX1_copyOf_34 : decode cX1_copyOf 34 = .ok (.getfield 31, 3) := by decide +kernel
theorem dX1_copyOf_37 : decode cX1_copyOf 37 = .ok (.putfield 31, 3) := by decide +kernel
theorem dX1_copyOf_40 : decode cX1_copyOf 40 = .ok (.aload_n 0, 1) := by decide +kernel
theorem dX1_copyOf_41 : decode cX1_copyOf 41 = .ok (.aload_n 1, 1) := by decide +kernel
theorem dX1_copyOf_42 : decode cX1_copyOf 42 = .ok (.getfield 34, 3) := by decide +kernel
theorem dX1_copyOf_45 : decode cX1_copyOf 45 = .ok (.putfield 34, 3) := by decide +kernel
theorem dX1_copyOf_48 : decode cX1_copyOf 48 = .ok (.aload_n 0, 1) := by decide +kernel
theorem dX1_copyOf_49 : decode cX1_copyOf 49 = .ok (.aload_n 1, 1) := by decide +kernel
theorem dX1_copyOf_50 : decode cX1_copyOf 50 = .ok (.getfield 37, 3) := by decide +kernel
theorem dX1_copyOf_53 : decode cX1_copyOf 53 = .ok (.putfield 37, 3) := by decide +kernel
theorem dX1_copyOf_56 : decode cX1_copyOf 56 = .ok (.aload_n 0, 1) := by decide +kernel
theorem dX1_copyOf_57 : decode cX1_copyOf 57 = .ok (.aload_n 1, 1) := by decide +kernel
theorem dX1_copyOf_58 : decode cX1_copyOf 58 = .ok (.getfield 40, 3) := by decide +kernel
theorem dX1_copyOf_61 : decode cX1_copyOf 61 = .ok (.putfield 40, 3) := by decide +kernel
theorem dX1_copyOf_64 : decode cX1_copyOf 64 = .ok (.aload_n 0, 1) := by decide +kernel
theorem dX1_copyOf_65 : decode cX1_copyOf 65 = .ok (.aload_n 1, 1) := by decide +kernel
theorem dX1_copyOf_66 : decode cX1_copyOf 66 = .ok (.getfield 43, 3) := by decide +kernel
theorem dX1_copyOf_69 : decode cX1_copyOf 69 = .ok (.putfield 43, 3) := by decide +kernel
theorem dX1_copyOf_72 : decode cX1_copyOf 72 = .ok (.aload_n 0, 1) := by decide +kernel
theorem dX1_copyOf_73 : decode cX1_copyOf 73 = .ok (.aload_n 1, 1) := by decide +kernel
theorem dX1_copyOf_74 : decode cX1_copyOf 74 = .ok (.getfield 46, 3) := by decide +kernel
theorem dX1_copyOf_77 : decode cX1_copyOf 77 = .ok (.putfield 46, 3) := by decide +kernel
theorem dX1_copyOf_80 : decode cX1_copyOf 80 = .ok (.aload_n 0, 1) := by decide +kernel
theorem dX1_copyOf_81 : decode cX1_copyOf 81 = .ok (.aload_n 1, 1) := by decide +kernel
theorem dX1_copyOf_82 : decode cX1_copyOf 82 = .ok (.getfield 49, 3) := by decide +kernel
theorem dX1_copyOf_85 : decode cX1_copyOf 85 = .ok (.putfield 49, 3) := by decide +kernel
theorem dX1_copyOf_88 : decode cX1_copyOf 88 = .ok (.aload_n 0, 1) := by decide +kernel
theorem dX1_copyOf_89 : decode cX1_copyOf 89 = .ok (.aload_n 1, 1) := by decide +kernel
theorem dX1_copyOf_90 : decode cX1_copyOf 90 = .ok (.getfield 52, 3) := by decide +kernel
theorem dX1_copyOf_93 : decode cX1_copyOf 93 = .ok (.putfield 52, 3) := by decide +kernel
theorem dX1_copyOf_96 : decode cX1_copyOf 96 = .ok (.aload_n 0, 1) := by decide +kernel
theorem dX1_copyOf_97 : decode cX1_copyOf 97 = .ok (.aload_n 1, 1) := by decide +kernel
theorem dX1_copyOf_98 : decode cX1_copyOf 98 = .ok (.getfield 55, 3) := by decide +kernel
theorem dX1_copyOf_101 : decode cX1_copyOf 101 = .ok (.putfield 55, 3) := by decide +kernel
theorem dX1_copyOf_104 : decode cX1_copyOf 104 = .ok (.return_, 1) := by decide +kernel
def w_X1_copyOf (n : Nat) (M : Mem) (t : Nat) (p1 : Nat) (K : Mem → Prop) : Prop := ((p1 ≤ n ∧ kd p1 = (1, 0)) ∧ ((t ≤ n ∧ kd t = (1, 0)) ∧ (∀ M3, M3 = sD M t 1 (gD M p1 1) → (∀ M4, M4 = sD M3 t 2 (gD M3 p1 2) → (∀ M5, M5 = sI M4 t 3 (gI M4 p1 3) → (∀ M6, M6 = sI M5 t 4 (gI M5 p1 4) → (∀ M7, M7 = sI M6 t 5 (gI M6 p1 5) → (∀ M8, M8 = sI M7 t 6 (gI M7 p1 6) → (∀ M9, M9 = sD M8 t 7 (gD M8 p1 7) → (∀ M10, M10 = sD M9 t 8 (gD M9 p1 8) → (∀ M11, M11 = sI M10 t 9 (gI M10 p1 9) → (∀ M12, M12 = sI M11 t 10 (gI M11 p1 10) → (∀ M13, M13 = sI M12 t 11 (gI M12 p1 11) → (∀ M14, M14 = sI M13 t 12 (gI M13 p1 12) → (∀ M15, M15 = sI M14 t 13 (gI M14 p1 13) → K M15)))))))))))))))
abbrev rmX1_copyOf : Room := { frames := 0, cells := 0, slots := 0, locals := 0 }
set_option maxHeartbeats 4000000 in
set_option maxRecDepth 20000 in
theorem c_X1_copyOf (l : Launch) (E : Gl) (n : Nat) (M : Mem) (t : Nat) (p1 : Nat) (K : Mem → Prop) (hw : w_X1_copyOf n M t p1 K) : CT E l yX1_copyOf cX1_copyOf 2 none rmX1_copyOf n M [rV t, rV p1] (PV E n K) := by
  refine g_met l (by decide) (Nat.le_of_ble_eq_true rfl) ?_
  intro p e s m args below meth c X hr hlk hnm hz1 hz2
  change CX E p s m c _ _ RX1 at X
  unfold w_X1_copyOf at hw
  refine g_aload_n X dX1_copyOf_0 0 rfl ?_
  refine g_aload_n X dX1_copyOf_1 1 rfl ?_
  obtain ⟨hk1, hw⟩ := hw
  refine g_get X (dV (gD M p1 1)) dX1_copyOf_2 fl_X1_18 (fun _ => rfl) ⟨hk1, hw⟩ (fun hw => ?_)
  obtain ⟨hk2, hw⟩ := hw
  refine g_putD X dX1_copyOf_5 fl_X1_18 rfl (Or.inl rfl) ⟨hk2, hw⟩ (fun hw => ?_)
  refine g_topM (fun M3 hM3 => ?_)
  have hw := hw M3 hM3
  refine g_aload_n X dX1_copyOf_8 0 rfl ?_
  refine g_aload_n X dX1_copyOf_9 1 rfl ?_
  refine g_get X (dV (gD M3 p1 2)) dX1_copyOf_10 fl_X1_22 (fun _ => rfl) ⟨hk1, hw⟩ (fun hw => ?_)
  refine g_putD X dX1_copyOf_13 fl_X1_22 rfl (Or.inl rfl) ⟨hk2, hw⟩ (fun hw => ?_)
  refine g_topM (fun M4 hM4 => ?_)
  have hw := hw M4 hM4
  refine g_aload_n X dX1_copyOf_16 0 rfl ?_
  refine g_aload_n X dX1_copyOf_17 1 rfl ?_
  refine g_get X (iV (gI M4 p1 3)) dX1_copyOf_18 fl_X1_25 (fun _ => rfl) ⟨hk1, hw⟩ (fun hw => ?_)
  refine g_putI X dX1_copyOf_21 fl_X1_25 rfl (Or.inl rfl) ⟨hk2, hw⟩ (fun hw => ?_)
  refine g_topM (fun M5 hM5 => ?_)
  have hw := hw M5 hM5
  refine g_aload_n X dX1_copyOf_24 0 rfl ?_
  refine g_aload_n X dX1_copyOf_25 1 rfl ?_
  refine g_get X (iV (gI M5 p1 4)) dX1_copyOf_26 fl_X1_28 (fun _ => rfl) ⟨hk1, hw⟩ (fun hw => ?_)
  refine g_putI X dX1_copyOf_29 fl_X1_28 rfl (Or.inl rfl) ⟨hk2, hw⟩ (fun hw => ?_)
  refine g_topM (fun M6 hM6 => ?_)
  have hw := hw M6 hM6
  refine g_aload_n X dX1_copyOf_32 0 rfl ?_
  refine g_aload_n X dX1_copyOf_33 1 rfl ?_
  refine g_get X (iV (gI M6 p1 5)) dX1_copyOf_34 fl_X1_31 (fun _ => rfl) ⟨hk1, hw⟩ (fun hw => ?_)
  refine g_putI X dX1_copyOf_37 fl_X1_31 rfl (Or.inl rfl) ⟨hk2, hw⟩ (fun hw => ?_)
  refine g_topM (fun M7 hM7 => ?_)
  have hw := hw M7 hM7
  refine g_aload_n X dX1_copyOf_40 0 rfl ?_
  refine g_aload_n X dX1_copyOf_41 1 rfl ?_
  refine g_get X (iV (gI M7 p1 6)) dX1_copyOf_42 fl_X1_34 (fun _ => rfl) ⟨hk1, hw⟩ (fun hw => ?_)
  refine g_putI X dX1_copyOf_45 fl_X1_34 rfl (Or.inl rfl) ⟨hk2, hw⟩ (fun hw => ?_)
  refine g_topM (fun M8 hM8 => ?_)
  have hw := hw M8 hM8
  refine g_aload_n X dX1_copyOf_48 0 rfl ?_
  refine g_aload_n X dX1_copyOf_49 1 rfl ?_
  refine g_get X (dV (gD M8 p1 7)) dX1_copyOf_50 fl_X1_37 (fun _ => rfl) ⟨hk1, hw⟩ (fun hw => ?_)
  refine g_putD X dX1_copyOf_53 fl_X1_37 rfl (Or.inl rfl) ⟨hk2, hw⟩ (fun hw => ?_)
  refine g_topM (fun M9 hM9 => ?_)
  have hw := hw M9 hM9
  refine g_aload_n X dX1_copyOf_56 0 rfl ?_
  refine g_aload_n X dX1_copyOf_57 1 rfl ?_
  refine g_get X (dV (gD M9 p1 8)) dX1_copyOf_58 fl_X1_40 (fun _ => rfl) ⟨hk1, hw⟩ (fun hw => ?_)
  refine g_putD X dX1_copyOf_61 fl_X1_40 rfl (Or.inl rfl) ⟨hk2, hw⟩ (fun hw => ?_)
  refine g_topM (fun M10 hM10 => ?_)
  have hw := hw M10 hM10
  refine g_aload_n X dX1_copyOf_64 0 rfl ?_
  refine g_aload_n X dX1_copyOf_65 1 rfl ?_
  refine g_get X (iV (gI M10 p1 9)) dX1_copyOf_66 fl_X1_43 (fun _ => rfl) ⟨hk1, hw⟩ (fun hw => ?_)
  refine g_putI X dX1_copyOf_69 fl_X1_43 rfl (Or.inl rfl) ⟨hk2, hw⟩ (fun hw => ?_)
  refine g_topM (fun M11 hM11 => ?_)
  have hw := hw M11 hM11
  refine g_aload_n X dX1_copyOf_72 0 rfl ?_
  refine g_aload_n X dX1_copyOf_73 1 rfl ?_
  refine g_get X (iV (gI M11 p1 10)) dX1_copyOf_74 fl_X1_46 (fun _ => rfl) ⟨hk1, hw⟩ (fun hw => ?_)
  refine g_putI X dX1_copyOf_77 fl_X1_46 rfl (Or.inl rfl) ⟨hk2, hw⟩ (fun hw => ?_)
  refine g_topM (fun M12 hM12 => ?_)
  have hw := hw M12 hM12
  refine g_aload_n X dX1_copyOf_80 0 rfl ?_
  refine g_aload_n X dX1_copyOf_81 1 rfl ?_
  refine g_get X (iV (gI M12 p1 11)) dX1_copyOf_82 fl_X1_49 (fun _ => rfl) ⟨hk1, hw⟩ (fun hw => ?_)
  refine g_putI X dX1_copyOf_85 fl_X1_49 rfl (Or.inl rfl) ⟨hk2, hw⟩ (fun hw => ?_)
  refine g_topM (fun M13 hM13 => ?_)
  have hw := hw M13 hM13
  refine g_aload_n X dX1_copyOf_88 0 rfl ?_
  refine g_aload_n X dX1_copyOf_89 1 rfl ?_
  refine g_get X (iV (gI M13 p1 12)) dX1_copyOf_90 fl_X1_52 (fun _ => rfl) ⟨hk1, hw⟩ (fun hw => ?_)
  refine g_putI X dX1_copyOf_93 fl_X1_52 rfl (Or.inl rfl) ⟨hk2, hw⟩ (fun hw => ?_)
  refine g_topM (fun M14 hM14 => ?_)
  have hw := hw M14 hM14
  refine g_aload_n X dX1_copyOf_96 0 rfl ?_
  refine g_aload_n X dX1_copyOf_97 1 rfl ?_
  refine g_get X (iV (gI M14 p1 13)) dX1_copyOf_98 fl_X1_55 (fun _ => rfl) ⟨hk1, hw⟩ (fun hw => ?_)
  refine g_putI X dX1_copyOf_101 fl_X1_55 rfl (Or.inl rfl) ⟨hk2, hw⟩ (fun hw => ?_)
  refine g_topM (fun M15 hM15 => ?_)
  have hw := hw M15 hM15
  exact g_vret X hr hlk hz1 hz2 (Nat.le_refl _) dX1_copyOf_104 hw
theorem dX2_begin_0 : decode cX2_begin 0 = .ok (.aload_n 0, 1) := by decide +kernel
theorem dX2_begin_1 : decode cX2_begin 1 = .ok (.iload_n 1, 1) := by decide +kernel
theorem dX2_begin_2 : decode cX2_begin 2 = .ok (.putfield 25, 3) := by decide +kernel
theorem dX2_begin_5 : decode cX2_begin 5 = .ok (.aload_n 0, 1) := by decide +kernel
theorem dX2_begin_6 : decode cX2_begin 6 = .ok (.iload_n 2, 1) := by decide +kernel
theorem dX2_begin_7 : decode cX2_begin 7 = .ok (.putfield 29, 3) := by decide +kernel
theorem dX2_begin_10 : decode cX2_begin 10 = .ok (.aload_n 0, 1) := by decide +kernel
theorem dX2_begin_11 : decode cX2_begin 11 = .ok (.iload_n 3, 1) := by decide +kernel
theorem dX2_begin_12 : decode cX2_begin 12 = .ok (.putfield 32, 3) := by decide +kernel
theorem dX2_begin_15 : decode cX2_begin 15 = .ok (.aload_n 0, 1) := by decide +kernel
theorem dX2_begin_16 : decode cX2_begin 16 = .ok (.iconst 0, 1) := by decide +kernel
theorem dX2_begin_17 : decode cX2_begin 17 = .ok (.putfield 22, 3) := by decide +kernel
theorem dX2_begin_20 : decode cX2_begin 20 = .ok (.aload_n 0, 1) := by decide +kernel
theorem dX2_begin_21 : decode cX2_begin 21 = .ok (.iload 4, 2) := by decide +kernel
theorem dX2_begin_23 : decode cX2_begin 23 = .ok (.putfield 35, 3) := by decide +kernel
theorem dX2_begin_26 : decode cX2_begin 26 = .ok (.aload_n 0, 1) := by decide +kernel
theorem dX2_begin_27 : decode cX2_begin 27 = .ok (.iconst 0, 1) := by decide +kernel
theorem dX2_begin_28 : decode cX2_begin 28 = .ok (.putfield 38, 3) := by decide +kernel
theorem dX2_begin_31 : decode cX2_begin 31 = .ok (.aload_n 0, 1) := by decide +kernel
theorem dX2_begin_32 : decode cX2_begin 32 = .ok (.iconst 0, 1) := by decide +kernel
theorem dX2_begin_33 : decode cX2_begin 33 = .ok (.putfield 41, 3) := by decide +kernel
theorem dX2_begin_36 : decode cX2_begin 36 = .ok (.aload_n 0, 1) := by decide +kernel
theorem dX2_begin_37 : decode cX2_begin 37 = .ok (.bipush (-5), 2) := by decide +kernel
theorem dX2_begin_39 : decode cX2_begin 39 = .ok (.putfield 44, 3) := by decide +kernel
theorem dX2_begin_42 : decode cX2_begin 42 = .ok (.aload_n 0, 1) := by decide +kernel
theorem dX2_begin_43 : decode cX2_begin 43 = .ok (.dconst 0, 1) := by decide +kernel
theorem dX2_begin_44 : decode cX2_begin 44 = .ok (.putfield 47, 3) := by decide +kernel
theorem dX2_begin_47 : decode cX2_begin 47 = .ok (.aload_n 0, 1) := by decide +kernel
theorem dX2_begin_48 : decode cX2_begin 48 = .ok (.bipush (-5), 2) := by decide +kernel
theorem dX2_begin_50 : decode cX2_begin 50 = .ok (.putfield 51, 3) := by decide +kernel
theorem dX2_begin_53 : decode cX2_begin 53 = .ok (.return_, 1) := by decide +kernel
def w_X2_begin (n : Nat) (M : Mem) (t : Nat) (p1 : Int32) (p2 : Int32) (p3 : Int32) (p4 : Int32) (K : Mem → Prop) : Prop := ((t ≤ n ∧ kd t = (2, 0)) ∧ ((p1 = 0 ∨ p1 = 1) ∧ (∀ M3, M3 = sI M t 1 p1 → (∀ M4, M4 = sI M3 t 2 p2 → (∀ M5, M5 = sI M4 t 3 p3 → (∀ M6, M6 = sI M5 t 4 (0 : Int32) → (∀ M7, M7 = sI M6 t 5 p4 → (∀ M8, M8 = sI M7 t 6 (0 : Int32) → (∀ M9, M9 = sI M8 t 7 (0 : Int32) → (∀ M10, M10 = sI M9 t 8 (-5 : Int32) → (∀ M11, M11 = sD M10 t 9 FP.dconst0 → (∀ M12, M12 = sI M11 t 10 (-5 : Int32) → K M12))))))))))))
abbrev rmX2_begin : Room := { frames := 0, cells := 0, slots := 0, locals := 0 }
set_option maxHeartbeats 4000000 in
set_option maxRecDepth 20000 in
theorem c_X2_begin (l : Launch) (E : Gl) (n : Nat) (M : Mem) (t : Nat) (p1 : Int32) (p2 : Int32) (p3 : Int32) (p4 : Int32) (K : Mem → Prop) (hw : w_X2_begin n M t p1 p2 p3 p4 K) : CT E l yX2_begin cX2_begin 5 none rmX2_begin n M [rV t, iV p1, iV p2, iV p3, iV p4] (PV E n K) := by
  refine g_met l (by decide) (Nat.le_of_ble_eq_true rfl) ?_
  intro p e s m args below meth c X hr hlk hnm hz1 hz2
  change CX E p s m c _ _ RX2 at X
  unfold w_X2_begin at hw
  refine g_aload_n X dX2_begin_0 0 rfl ?_
  refine g_iload_n X dX2_begin_1 1 rfl ?_
  obtain ⟨hk1, hw⟩ := hw
  obtain ⟨hq2, hw⟩ := hw
  refine g_putZ X dX2_begin_2 fl_X2_25 rfl (Or.inl rfl) ⟨hq2, hk1, hw⟩ (fun hw => ?_)
  refine g_topM (fun M3 hM3 => ?_)
  have hw := hw M3 hM3
  refine g_aload_n X dX2_begin_5 0 rfl ?_
  refine g_iload_n X dX2_begin_6 2 rfl ?_
  refine g_putI X dX2_begin_7 fl_X2_29 rfl (Or.inl rfl) ⟨hk1, hw⟩ (fun hw => ?_)
  refine g_topM (fun M4 hM4 => ?_)
  have hw := hw M4 hM4
  refine g_aload_n X dX2_begin_10 0 rfl ?_
  refine g_iload_n X dX2_begin_11 3 rfl ?_
  refine g_putI X dX2_begin_12 fl_X2_32 rfl (Or.inl rfl) ⟨hk1, hw⟩ (fun hw => ?_)
  refine g_topM (fun M5 hM5 => ?_)
  have hw := hw M5 hM5
  refine g_aload_n X dX2_begin_15 0 rfl ?_
  refine g_iconst X (0 : Int32) dX2_begin_16 (by decide) ?_
  refine g_putI X dX2_begin_17 fl_X2_22 rfl (Or.inl rfl) ⟨hk1, hw⟩ (fun hw => ?_)
  refine g_topM (fun M6 hM6 => ?_)
  have hw := hw M6 hM6
  refine g_aload_n X dX2_begin_20 0 rfl ?_
  refine g_iload X dX2_begin_21 4 rfl ?_
  refine g_putI X dX2_begin_23 fl_X2_35 rfl (Or.inl rfl) ⟨hk1, hw⟩ (fun hw => ?_)
  refine g_topM (fun M7 hM7 => ?_)
  have hw := hw M7 hM7
  refine g_aload_n X dX2_begin_26 0 rfl ?_
  refine g_iconst X (0 : Int32) dX2_begin_27 (by decide) ?_
  refine g_putI X dX2_begin_28 fl_X2_38 rfl (Or.inl rfl) ⟨hk1, hw⟩ (fun hw => ?_)
  refine g_topM (fun M8 hM8 => ?_)
  have hw := hw M8 hM8
  refine g_aload_n X dX2_begin_31 0 rfl ?_
  refine g_iconst X (0 : Int32) dX2_begin_32 (by decide) ?_
  refine g_putI X dX2_begin_33 fl_X2_41 rfl (Or.inl rfl) ⟨hk1, hw⟩ (fun hw => ?_)
  refine g_topM (fun M9 hM9 => ?_)
  have hw := hw M9 hM9
  refine g_aload_n X dX2_begin_36 0 rfl ?_
  refine g_bipush X (-5 : Int32) dX2_begin_37 (by decide) ?_
  refine g_putI X dX2_begin_39 fl_X2_44 rfl (Or.inl rfl) ⟨hk1, hw⟩ (fun hw => ?_)
  refine g_topM (fun M10 hM10 => ?_)
  have hw := hw M10 hM10
  refine g_aload_n X dX2_begin_42 0 rfl ?_
  refine g_dconst0 X dX2_begin_43 ?_
  refine g_putD X dX2_begin_44 fl_X2_47 rfl (Or.inl rfl) ⟨hk1, hw⟩ (fun hw => ?_)
  refine g_topM (fun M11 hM11 => ?_)
  have hw := hw M11 hM11
  refine g_aload_n X dX2_begin_47 0 rfl ?_
  refine g_bipush X (-5 : Int32) dX2_begin_48 (by decide) ?_
  refine g_putI X dX2_begin_50 fl_X2_51 rfl (Or.inl rfl) ⟨hk1, hw⟩ (fun hw => ?_)
  refine g_topM (fun M12 hM12 => ?_)
  have hw := hw M12 hM12
  exact g_vret X hr hlk hz1 hz2 (Nat.le_refl _) dX2_begin_53 hw
theorem dX2_beAbsent_0 : decode cX2_beAbsent 0 = .ok (.aload_n 0, 1) := by decide +kernel
theorem dX2_beAbsent_1 : decode cX2_beAbsent 1 = .ok (.iconst 0, 1) := by decide +kernel
theorem dX2_beAbsent_2 : decode cX2_beAbsent 2 = .ok (.iconst 0, 1) := by decide +kernel
theorem dX2_beAbsent_3 : decode cX2_beAbsent 3 = .ok (.iconst 1, 1) := by decide +kernel
theorem dX2_beAbsent_4 : decode cX2_beAbsent 4 = .ok (.bipush (-5), 2) := by decide +kernel
theorem dX2_beAbsent_6 : decode cX2_beAbsent 6 = .ok (.invokevirtual 18, 3) := by decide +kernel
theorem dX2_beAbsent_9 : decode cX2_beAbsent 9 = .ok (.aload_n 0, 1) := by decide +kernel
theorem dX2_beAbsent_10 : decode cX2_beAbsent 10 = .ok (.iconst (-1), 1) := by decide +kernel
theorem dX2_beAbsent_11 : decode cX2_beAbsent 11 = .ok (.putfield 22, 3) := by decide +kernel
theorem dX2_beAbsent_14 : decode cX2_beAbsent 14 = .ok (.return_, 1) := by decide +kernel
def w_X2_beAbsent (n : Nat) (M : Mem) (t : Nat) (K : Mem → Prop) : Prop := ((t ≤ n ∧ kd t = (2, 0)) ∧ w_X2_begin n M t (0 : Int32) (0 : Int32) (1 : Int32) (-5 : Int32) (fun M2 => (∀ M3, M3 = sI M2 t 4 (-1 : Int32) → K M3)))
abbrev rmX2_beAbsent : Room := { frames := 1, cells := 0, slots := 0, locals := 24 }
set_option maxHeartbeats 4000000 in
set_option maxRecDepth 20000 in
theorem c_X2_beAbsent (l : Launch) (E : Gl) (n : Nat) (M : Mem) (t : Nat) (K : Mem → Prop) (hw : w_X2_beAbsent n M t K) : CT E l yX2_beAbsent cX2_beAbsent 1 none rmX2_beAbsent n M [rV t] (PV E n K) := by
  refine g_met l (by decide) (Nat.le_of_ble_eq_true rfl) ?_
  intro p e s m args below meth c X hr hlk hnm hz1 hz2
  change CX E p s m c _ _ RX2 at X
  unfold w_X2_beAbsent at hw
  refine g_aload_n X dX2_beAbsent_0 0 rfl ?_
  refine g_iconst X (0 : Int32) dX2_beAbsent_1 (by decide) ?_
  refine g_iconst X (0 : Int32) dX2_beAbsent_2 (by decide) ?_
  refine g_iconst X (1 : Int32) dX2_beAbsent_3 (by decide) ?_
  refine g_bipush X (-5 : Int32) dX2_beAbsent_4 (by decide) ?_
  obtain ⟨hk1, hw⟩ := hw
  refine g_callv (pc' := 9) (rest := []) rfl (fun H locs ls d a2 a4 => g_runV X cw_X2_18 iv_X2_begin ⟨Nat.le_of_ble_eq_true rfl, Nat.le_of_ble_eq_true rfl⟩ dX2_beAbsent_6 (c_X2_begin l E n M t (0 : Int32) (0 : Int32) (1 : Int32) (-5 : Int32) _ hw) hk1 rfl rfl (Nat.le_of_ble_eq_true rfl) ⟨Nat.le_of_ble_eq_true rfl, Nat.le_of_ble_eq_true rfl⟩ a2 a4) (fun M2 hw => ?_)
  refine g_aload_n X dX2_beAbsent_9 0 rfl ?_
  refine g_iconst X (-1 : Int32) dX2_beAbsent_10 (by decide) ?_
  refine g_putI X dX2_beAbsent_11 fl_X2_22 rfl (Or.inl rfl) ⟨hk1, hw⟩ (fun hw => ?_)
  refine g_topM (fun M3 hM3 => ?_)
  have hw := hw M3 hM3
  exact g_vret X hr hlk hz1 hz2 (Nat.le_refl _) dX2_beAbsent_14 hw
theorem dX2_rejectFor_0 : decode cX2_rejectFor 0 = .ok (.aload_n 0, 1) := by decide +kernel
theorem dX2_rejectFor_1 : decode cX2_rejectFor 1 = .ok (.iconst 3, 1) := by decide +kernel
theorem dX2_rejectFor_2 : decode cX2_rejectFor 2 = .ok (.putfield 22, 3) := by decide +kernel
theorem dX2_rejectFor_5 : decode cX2_rejectFor 5 = .ok (.aload_n 0, 1) := by decide +kernel
theorem dX2_rejectFor_6 : decode cX2_rejectFor 6 = .ok (.bipush (-5), 2) := by decide +kernel
theorem dX2_rejectFor_8 : decode cX2_rejectFor 8 = .ok (.putfield 35, 3) := by decide +kernel
theorem dX2_rejectFor_11 : decode cX2_rejectFor 11 = .ok (.aload_n 0, 1) := by decide +kernel
theorem dX2_rejectFor_12 : decode cX2_rejectFor 12 = .ok (.iload_n 1, 1) := by decide +kernel
theorem dX2_rejectFor_13 : decode cX2_rejectFor 13 = .ok (.putfield 51, 3) := by decide +kernel
theorem dX2_rejectFor_16 : decode cX2_rejectFor 16 = .ok (.return_, 1) := by decide +kernel
def w_X2_rejectFor (n : Nat) (M : Mem) (t : Nat) (p1 : Int32) (K : Mem → Prop) : Prop := ((t ≤ n ∧ kd t = (2, 0)) ∧ (∀ M2, M2 = sI M t 4 (3 : Int32) → (∀ M3, M3 = sI M2 t 5 (-5 : Int32) → (∀ M4, M4 = sI M3 t 10 p1 → K M4))))
abbrev rmX2_rejectFor : Room := { frames := 0, cells := 0, slots := 0, locals := 0 }
set_option maxHeartbeats 4000000 in
set_option maxRecDepth 20000 in
theorem c_X2_rejectFor (l : Launch) (E : Gl) (n : Nat) (M : Mem) (t : Nat) (p1 : Int32) (K : Mem → Prop) (hw : w_X2_rejectFor n M t p1 K) : CT E l yX2_rejectFor cX2_rejectFor 2 none rmX2_rejectFor n M [rV t, iV p1] (PV E n K) := by
  refine g_met l (by decide) (Nat.le_of_ble_eq_true rfl) ?_
  intro p e s m args below meth c X hr hlk hnm hz1 hz2
  change CX E p s m c _ _ RX2 at X
  unfold w_X2_rejectFor at hw
  refine g_aload_n X dX2_rejectFor_0 0 rfl ?_
  refine g_iconst X (3 : Int32) dX2_rejectFor_1 (by decide) ?_
  obtain ⟨hk1, hw⟩ := hw
  refine g_putI X dX2_rejectFor_2 fl_X2_22 rfl (Or.inl rfl) ⟨hk1, hw⟩ (fun hw => ?_)
  refine g_topM (fun M2 hM2 => ?_)
  have hw := hw M2 hM2
  refine g_aload_n X dX2_rejectFor_5 0 rfl ?_
  refine g_bipush X (-5 : Int32) dX2_rejectFor_6 (by decide) ?_
  refine g_putI X dX2_rejectFor_8 fl_X2_35 rfl (Or.inl rfl) ⟨hk1, hw⟩ (fun hw => ?_)
  refine g_topM (fun M3 hM3 => ?_)
  have hw := hw M3 hM3
  refine g_aload_n X dX2_rejectFor_11 0 rfl ?_
  refine g_iload_n X dX2_rejectFor_12 1 rfl ?_
  refine g_putI X dX2_rejectFor_13 fl_X2_51 rfl (Or.inl rfl) ⟨hk1, hw⟩ (fun hw => ?_)
  refine g_topM (fun M4 hM4 => ?_)
  have hw := hw M4 hM4
  exact g_vret X hr hlk hz1 hz2 (Nat.le_refl _) dX2_rejectFor_16 hw
theorem dX2_copyOf_0 : decode cX2_copyOf 0 = .ok (.aload_n 0, 1) := by decide +kernel
theorem dX2_copyOf_1 : decode cX2_copyOf 1 = .ok (.aload_n 1, 1) := by decide +kernel
theorem dX2_copyOf_2 : decode cX2_copyOf 2 = .ok (.getfield 25, 3) := by decide +kernel
theorem dX2_copyOf_5 : decode cX2_copyOf 5 = .ok (.putfield 25, 3) := by decide +kernel
theorem dX2_copyOf_8 : decode cX2_copyOf 8 = .ok (.aload_n 0, 1) := by decide +kernel
theorem dX2_copyOf_9 : decode cX2_copyOf 9 = .ok (.aload_n 1, 1) := by decide +kernel
theorem dX2_copyOf_10 : decode cX2_copyOf 10 = .ok (.getfield 29, 3) := by decide +kernel
theorem dX2_copyOf_13 : decode cX2_copyOf 13 = .ok (.putfield 29, 3) := by decide +kernel
theorem dX2_copyOf_16 : decode cX2_copyOf 16 = .ok (.aload_n 0, 1) := by decide +kernel
theorem dX2_copyOf_17 : decode cX2_copyOf 17 = .ok (.aload_n 1, 1) := by decide +kernel
theorem dX2_copyOf_18 : decode cX2_copyOf 18 = .ok (.getfield 32, 3) := by decide +kernel
theorem dX2_copyOf_21 : decode cX2_copyOf 21 = .ok (.putfield 32, 3) := by decide +kernel
theorem dX2_copyOf_24 : decode cX2_copyOf 24 = .ok (.aload_n 0, 1) := by decide +kernel
theorem dX2_copyOf_25 : decode cX2_copyOf 25 = .ok (.aload_n 1, 1) := by decide +kernel
theorem dX2_copyOf_26 : decode cX2_copyOf 26 = .ok (.getfield 22, 3) := by decide +kernel
theorem dX2_copyOf_29 : decode cX2_copyOf 29 = .ok (.putfield 22, 3) := by decide +kernel
theorem dX2_copyOf_32 : decode cX2_copyOf 32 = .ok (.aload_n 0, 1) := by decide +kernel
theorem dX2_copyOf_33 : decode cX2_copyOf 33 = .ok (.aload_n 1, 1) := by decide +kernel
theorem dX2_copyOf_34 : decode cX2_copyOf 34 = .ok (.getfield 35, 3) := by decide +kernel
theorem dX2_copyOf_37 : decode cX2_copyOf 37 = .ok (.putfield 35, 3) := by decide +kernel
theorem dX2_copyOf_40 : decode cX2_copyOf 40 = .ok (.aload_n 0, 1) := by decide +kernel
theorem dX2_copyOf_41 : decode cX2_copyOf 41 = .ok (.aload_n 1, 1) := by decide +kernel
theorem dX2_copyOf_42 : decode cX2_copyOf 42 = .ok (.getfield 38, 3) := by decide +kernel
theorem dX2_copyOf_45 : decode cX2_copyOf 45 = .ok (.putfield 38, 3) := by decide +kernel
theorem dX2_copyOf_48 : decode cX2_copyOf 48 = .ok (.aload_n 0, 1) := by decide +kernel
theorem dX2_copyOf_49 : decode cX2_copyOf 49 = .ok (.aload_n 1, 1) := by decide +kernel
theorem dX2_copyOf_50 : decode cX2_copyOf 50 = .ok (.getfield 41, 3) := by decide +kernel
theorem dX2_copyOf_53 : decode cX2_copyOf 53 = .ok (.putfield 41, 3) := by decide +kernel
theorem dX2_copyOf_56 : decode cX2_copyOf 56 = .ok (.aload_n 0, 1) := by decide +kernel
theorem dX2_copyOf_57 : decode cX2_copyOf 57 = .ok (.aload_n 1, 1) := by decide +kernel
theorem dX2_copyOf_58 : decode cX2_copyOf 58 = .ok (.getfield 44, 3) := by decide +kernel
theorem dX2_copyOf_61 : decode cX2_copyOf 61 = .ok (.putfield 44, 3) := by decide +kernel
theorem dX2_copyOf_64 : decode cX2_copyOf 64 = .ok (.aload_n 0, 1) := by decide +kernel
theorem dX2_copyOf_65 : decode cX2_copyOf 65 = .ok (.aload_n 1, 1) := by decide +kernel
theorem dX2_copyOf_66 : decode cX2_copyOf 66 = .ok (.getfield 47, 3) := by decide +kernel
theorem dX2_copyOf_69 : decode cX2_copyOf 69 = .ok (.putfield 47, 3) := by decide +kernel
theorem dX2_copyOf_72 : decode cX2_copyOf 72 = .ok (.aload_n 0, 1) := by decide +kernel
theorem dX2_copyOf_73 : decode cX2_copyOf 73 = .ok (.aload_n 1, 1) := by decide +kernel
theorem dX2_copyOf_74 : decode cX2_copyOf 74 = .ok (.getfield 51, 3) := by decide +kernel
theorem dX2_copyOf_77 : decode cX2_copyOf 77 = .ok (.putfield 51, 3) := by decide +kernel
theorem dX2_copyOf_80 : decode cX2_copyOf 80 = .ok (.return_, 1) := by decide +kernel
def w_X2_copyOf (n : Nat) (M : Mem) (t : Nat) (p1 : Nat) (K : Mem → Prop) : Prop := ((p1 ≤ n ∧ kd p1 = (2, 0)) ∧ ((t ≤ n ∧ kd t = (2, 0)) ∧ (((gI M p1 1) = 0 ∨ (gI M p1 1) = 1) ∧ (∀ M4, M4 = sI M t 1 (gI M p1 1) → (∀ M5, M5 = sI M4 t 2 (gI M4 p1 2) → (∀ M6, M6 = sI M5 t 3 (gI M5 p1 3) → (∀ M7, M7 = sI M6 t 4 (gI M6 p1 4) → (∀ M8, M8 = sI M7 t 5 (gI M7 p1 5) → (∀ M9, M9 = sI M8 t 6 (gI M8 p1 6) → (∀ M10, M10 = sI M9 t 7 (gI M9 p1 7) → (∀ M11, M11 = sI M10 t 8 (gI M10 p1 8) → (∀ M12, M12 = sD M11 t 9 (gD M11 p1 9) → (∀ M13, M13 = sI M12 t 10 (gI M12 p1 10) → K M13)))))))))))))
abbrev rmX2_copyOf : Room := { frames := 0, cells := 0, slots := 0, locals := 0 }
set_option maxHeartbeats 4000000 in
set_option maxRecDepth 20000 in
theorem c_X2_copyOf (l : Launch) (E : Gl) (n : Nat) (M : Mem) (t : Nat) (p1 : Nat) (K : Mem → Prop) (hw : w_X2_copyOf n M t p1 K) : CT E l yX2_copyOf cX2_copyOf 2 none rmX2_copyOf n M [rV t, rV p1] (PV E n K) := by
  refine g_met l (by decide) (Nat.le_of_ble_eq_true rfl) ?_
  intro p e s m args below meth c X hr hlk hnm hz1 hz2
  change CX E p s m c _ _ RX2 at X
  unfold w_X2_copyOf at hw
  refine g_aload_n X dX2_copyOf_0 0 rfl ?_
  refine g_aload_n X dX2_copyOf_1 1 rfl ?_
  obtain ⟨hk1, hw⟩ := hw
  refine g_get X (iV (gI M p1 1)) dX2_copyOf_2 fl_X2_25 (fun _ => rfl) ⟨hk1, hw⟩ (fun hw => ?_)
  obtain ⟨hk2, hw⟩ := hw
  obtain ⟨hq3, hw⟩ := hw
  refine g_putZ X dX2_copyOf_5 fl_X2_25 rfl (Or.inl rfl) ⟨hq3, hk2, hw⟩ (fun hw => ?_)
  refine g_topM (fun M4 hM4 => ?_)
  have hw := hw M4 hM4
  refine g_aload_n X dX2_copyOf_8 0 rfl ?_
  refine g_aload_n X dX2_copyOf_9 1 rfl ?_
  refine g_get X (iV (gI M4 p1 2)) dX2_copyOf_10 fl_X2_29 (fun _ => rfl) ⟨hk1, hw⟩ (fun hw => ?_)
  refine g_putI X dX2_copyOf_13 fl_X2_29 rfl (Or.inl rfl) ⟨hk2, hw⟩ (fun hw => ?_)
  refine g_topM (fun M5 hM5 => ?_)
  have hw := hw M5 hM5
  refine g_aload_n X dX2_copyOf_16 0 rfl ?_
  refine g_aload_n X dX2_copyOf_17 1 rfl ?_
  refine g_get X (iV (gI M5 p1 3)) dX2_copyOf_18 fl_X2_32 (fun _ => rfl) ⟨hk1, hw⟩ (fun hw => ?_)
  refine g_putI X dX2_copyOf_21 fl_X2_32 rfl (Or.inl rfl) ⟨hk2, hw⟩ (fun hw => ?_)
  refine g_topM (fun M6 hM6 => ?_)
  have hw := hw M6 hM6
  refine g_aload_n X dX2_copyOf_24 0 rfl ?_
  refine g_aload_n X dX2_copyOf_25 1 rfl ?_
  refine g_get X (iV (gI M6 p1 4)) dX2_copyOf_26 fl_X2_22 (fun _ => rfl) ⟨hk1, hw⟩ (fun hw => ?_)
  refine g_putI X dX2_copyOf_29 fl_X2_22 rfl (Or.inl rfl) ⟨hk2, hw⟩ (fun hw => ?_)
  refine g_topM (fun M7 hM7 => ?_)
  have hw := hw M7 hM7
  refine g_aload_n X dX2_copyOf_32 0 rfl ?_
  refine g_aload_n X dX2_copyOf_33 1 rfl ?_
  refine g_get X (iV (gI M7 p1 5)) dX2_copyOf_34 fl_X2_35 (fun _ => rfl) ⟨hk1, hw⟩ (fun hw => ?_)
  refine g_putI X dX2_copyOf_37 fl_X2_35 rfl (Or.inl rfl) ⟨hk2, hw⟩ (fun hw => ?_)
  refine g_topM (fun M8 hM8 => ?_)
  have hw := hw M8 hM8
  refine g_aload_n X dX2_copyOf_40 0 rfl ?_
  refine g_aload_n X dX2_copyOf_41 1 rfl ?_
  refine g_get X (iV (gI M8 p1 6)) dX2_copyOf_42 fl_X2_38 (fun _ => rfl) ⟨hk1, hw⟩ (fun hw => ?_)
  refine g_putI X dX2_copyOf_45 fl_X2_38 rfl (Or.inl rfl) ⟨hk2, hw⟩ (fun hw => ?_)
  refine g_topM (fun M9 hM9 => ?_)
  have hw := hw M9 hM9
  refine g_aload_n X dX2_copyOf_48 0 rfl ?_
  refine g_aload_n X dX2_copyOf_49 1 rfl ?_
  refine g_get X (iV (gI M9 p1 7)) dX2_copyOf_50 fl_X2_41 (fun _ => rfl) ⟨hk1, hw⟩ (fun hw => ?_)
  refine g_putI X dX2_copyOf_53 fl_X2_41 rfl (Or.inl rfl) ⟨hk2, hw⟩ (fun hw => ?_)
  refine g_topM (fun M10 hM10 => ?_)
  have hw := hw M10 hM10
  refine g_aload_n X dX2_copyOf_56 0 rfl ?_
  refine g_aload_n X dX2_copyOf_57 1 rfl ?_
  refine g_get X (iV (gI M10 p1 8)) dX2_copyOf_58 fl_X2_44 (fun _ => rfl) ⟨hk1, hw⟩ (fun hw => ?_)
  refine g_putI X dX2_copyOf_61 fl_X2_44 rfl (Or.inl rfl) ⟨hk2, hw⟩ (fun hw => ?_)
  refine g_topM (fun M11 hM11 => ?_)
  have hw := hw M11 hM11
  refine g_aload_n X dX2_copyOf_64 0 rfl ?_
  refine g_aload_n X dX2_copyOf_65 1 rfl ?_
  refine g_get X (dV (gD M11 p1 9)) dX2_copyOf_66 fl_X2_47 (fun _ => rfl) ⟨hk1, hw⟩ (fun hw => ?_)
  refine g_putD X dX2_copyOf_69 fl_X2_47 rfl (Or.inl rfl) ⟨hk2, hw⟩ (fun hw => ?_)
  refine g_topM (fun M12 hM12 => ?_)
  have hw := hw M12 hM12
  refine g_aload_n X dX2_copyOf_72 0 rfl ?_
  refine g_aload_n X dX2_copyOf_73 1 rfl ?_
  refine g_get X (iV (gI M12 p1 10)) dX2_copyOf_74 fl_X2_51 (fun _ => rfl) ⟨hk1, hw⟩ (fun hw => ?_)
  refine g_putI X dX2_copyOf_77 fl_X2_51 rfl (Or.inl rfl) ⟨hk2, hw⟩ (fun hw => ?_)
  refine g_topM (fun M13 hM13 => ?_)
  have hw := hw M13 hM13
  exact g_vret X hr hlk hz1 hz2 (Nat.le_refl _) dX2_copyOf_80 hw
theorem dX0_headAt_0 : decode cX0_headAt 0 = .ok (.iload_n 1, 1) := by decide +kernel
theorem dX0_headAt_1 : decode cX0_headAt 1 = .ok (.ifCond .lt 24, 3) := by decide +kernel
theorem dX0_headAt_4 : decode cX0_headAt 4 = .ok (.iload_n 1, 1) := by decide +kernel
theorem dX0_headAt_5 : decode cX0_headAt 5 = .ok (.aload_n 0, 1) := by decide +kernel
theorem dX0_headAt_6 : decode cX0_headAt 6 = .ok (.getfield 58, 3) := by decide +kernel
theorem dX0_headAt_9 : decode cX0_headAt 9 = .ok (.if_icmp .ge 16, 3) := by decide +kernel
theorem dX0_headAt_12 : decode cX0_headAt 12 = .ok (.iload_n 1, 1) := by decide +kernel
theorem dX0_headAt_13 : decode cX0_headAt 13 = .ok (.aload_n 0, 1) := by decide +kernel
theorem dX0_headAt_14 : decode cX0_headAt 14 = .ok (.getfield 44, 3) := by decide +kernel
theorem dX0_headAt_17 : decode cX0_headAt 17 = .ok (.arraylength, 1) := by decide +kernel
theorem dX0_headAt_18 : decode cX0_headAt 18 = .ok (.if_icmp .ge 7, 3) := by decide +kernel
theorem dX0_headAt_21 : decode cX0_headAt 21 = .ok (.iconst 1, 1) := by decide +kernel
theorem dX0_headAt_22 : decode cX0_headAt 22 = .ok (.goto 4, 3) := by decide +kernel
theorem dX0_headAt_25 : decode cX0_headAt 25 = .ok (.iconst 0, 1) := by decide +kernel
theorem dX0_headAt_26 : decode cX0_headAt 26 = .ok (.istore_n 2, 1) := by decide +kernel
theorem dX0_headAt_27 : decode cX0_headAt 27 = .ok (.iload_n 2, 1) := by decide +kernel
theorem dX0_headAt_28 : decode cX0_headAt 28 = .ok (.ifCond .eq 12, 3) := by decide +kernel
theorem dX0_headAt_31 : decode cX0_headAt 31 = .ok (.aload_n 0, 1) := by decide +kernel
theorem dX0_headAt_32 : decode cX0_headAt 32 = .ok (.getfield 44, 3) := by decide +kernel
theorem dX0_headAt_35 : decode cX0_headAt 35 = .ok (.iload_n 1, 1) := by decide +kernel
theorem dX0_headAt_36 : decode cX0_headAt 36 = .ok (.aaload, 1) := by decide +kernel
theorem dX0_headAt_37 : decode cX0_headAt 37 = .ok (.goto 4, 3) := by decide +kernel
theorem dX0_headAt_40 : decode cX0_headAt 40 = .ok (.aconst_null, 1) := by decide +kernel
theorem dX0_headAt_41 : decode cX0_headAt 41 = .ok (.areturn, 1) := by decide +kernel
def w_X0_headAt (n : Nat) (M : Mem) (t : Nat) (p1 : Int32) (K : Nat → Mem → Prop) : Prop := ((p1 < 0 → K 0 M) ∧ (¬ p1 < 0 → ((t ≤ n ∧ kd t = (0, 0)) ∧ (((gI M t 6) ≤ p1 → K 0 M) ∧ (¬ (gI M t 6) ≤ p1 → (∀ r2, r2 = gR M t 3 → ((r2 ≤ n ∧ 7 ≤ (kd r2).1 ∧ (kd r2).1 < 13) ∧ (((nI (kd r2).2) ≤ p1 → K 0 M) ∧ (¬ (nI (kd r2).2) ≤ p1 → (∀ r3, r3 = gR M t 3 → ((r3 ≤ n ∧ (10 ≤ (kd r3).1 ∧ (kd r3).1 < 13) ∧ vp_in p1 (kd r3).2) ∧ (∀ r4, r4 = gR M r3 (Int32.toNatClampNeg p1) → K r4 M))))))))))))
abbrev rmX0_headAt : Room := { frames := 0, cells := 0, slots := 0, locals := 0 }
set_option maxHeartbeats 4000000 in
set_option maxRecDepth 20000 in
theorem c_X0_headAt (l : Launch) (E : Gl) (n : Nat) (M : Mem) (t : Nat) (p1 : Int32) (K : Nat → Mem → Prop) (hw : w_X0_headAt n M t p1 K) : CT E l yX0_headAt cX0_headAt 3 (some (.object "LeakCarousel$Head")) rmX0_headAt n M [rV t, iV p1] (PR E n K) := by
  refine g_met l (by decide) (Nat.le_of_ble_eq_true rfl) ?_
  intro p e s m args below meth c X hr hlk hnm hz1 hz2
  change CX E p s m c _ _ RX0 at X
  unfold w_X0_headAt at hw
  refine g_iload_n X dX0_headAt_0 1 rfl ?_
  refine g_if_lt X 25 dX0_headAt_1 (by decide) hw (fun hw => ?_) (fun hw => ?_)
  · refine g_iconst X (0 : Int32) dX0_headAt_25 (by decide) ?_
    refine g_istore_n (lv' := [(2, iV (0 : Int32)), (0, rV t), (1, iV p1)]) X dX0_headAt_26 (by decide) rfl ?_
    refine g_iload_n X dX0_headAt_27 0 rfl ?_
    refine g_if_eq (B := False) X 40 dX0_headAt_28 (by decide) ⟨fun _ => hw, fun h => absurd h (by decide)⟩ (fun hw => ?_) (fun h => h.elim)
    refine g_null X dX0_headAt_40 ?_
    exact g_aret X hr (Or.inl ⟨_, rfl⟩) hlk hz1 hz2 (Nat.le_refl _) dX0_headAt_41 hw
  · refine g_iload_n X dX0_headAt_4 1 rfl ?_
    refine g_aload_n X dX0_headAt_5 0 rfl ?_
    obtain ⟨hk1, hw⟩ := hw
    refine g_get X (iV (gI M t 6)) dX0_headAt_6 fl_X0_58 (fun _ => rfl) ⟨hk1, hw⟩ (fun hw => ?_)
    refine g_icmp_ge X 25 dX0_headAt_9 (by decide) hw (fun hw => ?_) (fun hw => ?_)
    · refine g_iconst X (0 : Int32) dX0_headAt_25 (by decide) ?_
      refine g_istore_n (lv' := [(2, iV (0 : Int32)), (0, rV t), (1, iV p1)]) X dX0_headAt_26 (by decide) rfl ?_
      refine g_iload_n X dX0_headAt_27 0 rfl ?_
      refine g_if_eq (B := False) X 40 dX0_headAt_28 (by decide) ⟨fun _ => hw, fun h => absurd h (by decide)⟩ (fun hw => ?_) (fun h => h.elim)
      refine g_null X dX0_headAt_40 ?_
      exact g_aret X hr (Or.inl ⟨_, rfl⟩) hlk hz1 hz2 (Nat.le_refl _) dX0_headAt_41 hw
    · refine g_iload_n X dX0_headAt_12 1 rfl ?_
      refine g_aload_n X dX0_headAt_13 0 rfl ?_
      refine g_get X (rV (gR M t 3)) dX0_headAt_14 fl_X0_44 (fun _ => rfl) ⟨hk1, hw⟩ (fun hw => ?_)
      refine g_topR (fun r2 hr2 => ?_)
      have hw := hw r2 hr2
      refine g_alen X dX0_headAt_17 hw (fun hw => ?_)
      refine g_icmp_ge X 25 dX0_headAt_18 (by decide) hw (fun hw => ?_) (fun hw => ?_)
      · refine g_iconst X (0 : Int32) dX0_headAt_25 (by decide) ?_
        refine g_istore_n (lv' := [(2, iV (0 : Int32)), (0, rV t), (1, iV p1)]) X dX0_headAt_26 (by decide) rfl ?_
        refine g_iload_n X dX0_headAt_27 0 rfl ?_
        refine g_if_eq (B := False) X 40 dX0_headAt_28 (by decide) ⟨fun _ => hw, fun h => absurd h (by decide)⟩ (fun hw => ?_) (fun h => h.elim)
        refine g_null X dX0_headAt_40 ?_
        exact g_aret X hr (Or.inl ⟨_, rfl⟩) hlk hz1 hz2 (Nat.le_refl _) dX0_headAt_41 hw
      · refine g_iconst X (1 : Int32) dX0_headAt_21 (by decide) ?_
        refine g_goto X 26 dX0_headAt_22 (by decide) ?_
        refine g_istore_n (lv' := [(2, iV (1 : Int32)), (0, rV t), (1, iV p1)]) X dX0_headAt_26 (by decide) rfl ?_
        refine g_iload_n X dX0_headAt_27 0 rfl ?_
        refine g_if_eq (A := False) X 40 dX0_headAt_28 (by decide) ⟨fun h => absurd h (by decide), fun _ => hw⟩ (fun h => h.elim) (fun hw => ?_)
        refine g_aload_n X dX0_headAt_31 1 rfl ?_
        refine g_get X (rV (gR M t 3)) dX0_headAt_32 fl_X0_44 (fun _ => rfl) ⟨hk1, hw⟩ (fun hw => ?_)
        refine g_topR (fun r3 hr3 => ?_)
        have hw := hw r3 hr3
        refine g_iload_n X dX0_headAt_35 2 rfl ?_
        refine g_aald X dX0_headAt_36 hw (fun hw => ?_)
        refine g_topR (fun r4 hr4 => ?_)
        have hw := hw r4 hr4
        refine g_goto X 41 dX0_headAt_37 (by decide) ?_
        exact g_aret X hr (Or.inl ⟨_, rfl⟩) hlk hz1 hz2 (Nat.le_refl _) dX0_headAt_41 hw
theorem dX0_partAt_0 : decode cX0_partAt 0 = .ok (.iload_n 1, 1) := by decide +kernel
theorem dX0_partAt_1 : decode cX0_partAt 1 = .ok (.ifCond .lt 24, 3) := by decide +kernel
theorem dX0_partAt_4 : decode cX0_partAt 4 = .ok (.iload_n 1, 1) := by decide +kernel
theorem dX0_partAt_5 : decode cX0_partAt 5 = .ok (.aload_n 0, 1) := by decide +kernel
theorem dX0_partAt_6 : decode cX0_partAt 6 = .ok (.getfield 61, 3) := by decide +kernel
theorem dX0_partAt_9 : decode cX0_partAt 9 = .ok (.if_icmp .ge 16, 3) := by decide +kernel
theorem dX0_partAt_12 : decode cX0_partAt 12 = .ok (.iload_n 1, 1) := by decide +kernel
theorem dX0_partAt_13 : decode cX0_partAt 13 = .ok (.aload_n 0, 1) := by decide +kernel
theorem dX0_partAt_14 : decode cX0_partAt 14 = .ok (.getfield 53, 3) := by decide +kernel
theorem dX0_partAt_17 : decode cX0_partAt 17 = .ok (.arraylength, 1) := by decide +kernel
theorem dX0_partAt_18 : decode cX0_partAt 18 = .ok (.if_icmp .ge 7, 3) := by decide +kernel
theorem dX0_partAt_21 : decode cX0_partAt 21 = .ok (.iconst 1, 1) := by decide +kernel
theorem dX0_partAt_22 : decode cX0_partAt 22 = .ok (.goto 4, 3) := by decide +kernel
theorem dX0_partAt_25 : decode cX0_partAt 25 = .ok (.iconst 0, 1) := by decide +kernel
theorem dX0_partAt_26 : decode cX0_partAt 26 = .ok (.istore_n 2, 1) := by decide +kernel
theorem dX0_partAt_27 : decode cX0_partAt 27 = .ok (.iload_n 2, 1) := by decide +kernel
theorem dX0_partAt_28 : decode cX0_partAt 28 = .ok (.ifCond .eq 12, 3) := by decide +kernel
theorem dX0_partAt_31 : decode cX0_partAt 31 = .ok (.aload_n 0, 1) := by decide +kernel
theorem dX0_partAt_32 : decode cX0_partAt 32 = .ok (.getfield 53, 3) := by decide +kernel
theorem dX0_partAt_35 : decode cX0_partAt 35 = .ok (.iload_n 1, 1) := by decide +kernel
theorem dX0_partAt_36 : decode cX0_partAt 36 = .ok (.aaload, 1) := by decide +kernel
theorem dX0_partAt_37 : decode cX0_partAt 37 = .ok (.goto 4, 3) := by decide +kernel
theorem dX0_partAt_40 : decode cX0_partAt 40 = .ok (.aconst_null, 1) := by decide +kernel
theorem dX0_partAt_41 : decode cX0_partAt 41 = .ok (.areturn, 1) := by decide +kernel
def w_X0_partAt (n : Nat) (M : Mem) (t : Nat) (p1 : Int32) (K : Nat → Mem → Prop) : Prop := ((p1 < 0 → K 0 M) ∧ (¬ p1 < 0 → ((t ≤ n ∧ kd t = (0, 0)) ∧ (((gI M t 7) ≤ p1 → K 0 M) ∧ (¬ (gI M t 7) ≤ p1 → (∀ r2, r2 = gR M t 4 → ((r2 ≤ n ∧ 7 ≤ (kd r2).1 ∧ (kd r2).1 < 13) ∧ (((nI (kd r2).2) ≤ p1 → K 0 M) ∧ (¬ (nI (kd r2).2) ≤ p1 → (∀ r3, r3 = gR M t 4 → ((r3 ≤ n ∧ (10 ≤ (kd r3).1 ∧ (kd r3).1 < 13) ∧ vp_in p1 (kd r3).2) ∧ (∀ r4, r4 = gR M r3 (Int32.toNatClampNeg p1) → K r4 M))))))))))))
abbrev rmX0_partAt : Room := { frames := 0, cells := 0, slots := 0, locals := 0 }
set_option maxHeartbeats 4000000 in
set_option maxRecDepth 20000 in
theorem c_X0_partAt (l : Launch) (E : Gl) (n : Nat) (M : Mem) (t : Nat) (p1 : Int32) (K : Nat → Mem → Prop) (hw : w_X0_partAt n M t p1 K) : CT E l yX0_partAt cX0_partAt 3 (some (.object "LeakCarousel$Part")) rmX0_partAt n M [rV t, iV p1] (PR E n K) := by
  refine g_met l (by decide) (Nat.le_of_ble_eq_true rfl) ?_
  intro p e s m args below meth c X hr hlk hnm hz1 hz2
  change CX E p s m c _ _ RX0 at X
  unfold w_X0_partAt at hw
  refine g_iload_n X dX0_partAt_0 1 rfl ?_
  refine g_if_lt X 25 dX0_partAt_1 (by decide) hw (fun hw => ?_) (fun hw => ?_)
  · refine g_iconst X (0 : Int32) dX0_partAt_25 (by decide) ?_
    refine g_istore_n (lv' := [(2, iV (0 : Int32)), (0, rV t), (1, iV p1)]) X dX0_partAt_26 (by decide) rfl ?_
    refine g_iload_n X dX0_partAt_27 0 rfl ?_
    refine g_if_eq (B := False) X 40 dX0_partAt_28 (by decide) ⟨fun _ => hw, fun h => absurd h (by decide)⟩ (fun hw => ?_) (fun h => h.elim)
    refine g_null X dX0_partAt_40 ?_
    exact g_aret X hr (Or.inl ⟨_, rfl⟩) hlk hz1 hz2 (Nat.le_refl _) dX0_partAt_41 hw
  · refine g_iload_n X dX0_partAt_4 1 rfl ?_
    refine g_aload_n X dX0_partAt_5 0 rfl ?_
    obtain ⟨hk1, hw⟩ := hw
    refine g_get X (iV (gI M t 7)) dX0_partAt_6 fl_X0_61 (fun _ => rfl) ⟨hk1, hw⟩ (fun hw => ?_)
    refine g_icmp_ge X 25 dX0_partAt_9 (by decide) hw (fun hw => ?_) (fun hw => ?_)
    · refine g_iconst X (0 : Int32) dX0_partAt_25 (by decide) ?_
      refine g_istore_n (lv' := [(2, iV (0 : Int32)), (0, rV t), (1, iV p1)]) X dX0_partAt_26 (by decide) rfl ?_
      refine g_iload_n X dX0_partAt_27 0 rfl ?_
      refine g_if_eq (B := False) X 40 dX0_partAt_28 (by decide) ⟨fun _ => hw, fun h => absurd h (by decide)⟩ (fun hw => ?_) (fun h => h.elim)
      refine g_null X dX0_partAt_40 ?_
      exact g_aret X hr (Or.inl ⟨_, rfl⟩) hlk hz1 hz2 (Nat.le_refl _) dX0_partAt_41 hw
    · refine g_iload_n X dX0_partAt_12 1 rfl ?_
      refine g_aload_n X dX0_partAt_13 0 rfl ?_
      refine g_get X (rV (gR M t 4)) dX0_partAt_14 fl_X0_53 (fun _ => rfl) ⟨hk1, hw⟩ (fun hw => ?_)
      refine g_topR (fun r2 hr2 => ?_)
      have hw := hw r2 hr2
      refine g_alen X dX0_partAt_17 hw (fun hw => ?_)
      refine g_icmp_ge X 25 dX0_partAt_18 (by decide) hw (fun hw => ?_) (fun hw => ?_)
      · refine g_iconst X (0 : Int32) dX0_partAt_25 (by decide) ?_
        refine g_istore_n (lv' := [(2, iV (0 : Int32)), (0, rV t), (1, iV p1)]) X dX0_partAt_26 (by decide) rfl ?_
        refine g_iload_n X dX0_partAt_27 0 rfl ?_
        refine g_if_eq (B := False) X 40 dX0_partAt_28 (by decide) ⟨fun _ => hw, fun h => absurd h (by decide)⟩ (fun hw => ?_) (fun h => h.elim)
        refine g_null X dX0_partAt_40 ?_
        exact g_aret X hr (Or.inl ⟨_, rfl⟩) hlk hz1 hz2 (Nat.le_refl _) dX0_partAt_41 hw
      · refine g_iconst X (1 : Int32) dX0_partAt_21 (by decide) ?_
        refine g_goto X 26 dX0_partAt_22 (by decide) ?_
        refine g_istore_n (lv' := [(2, iV (1 : Int32)), (0, rV t), (1, iV p1)]) X dX0_partAt_26 (by decide) rfl ?_
        refine g_iload_n X dX0_partAt_27 0 rfl ?_
        refine g_if_eq (A := False) X 40 dX0_partAt_28 (by decide) ⟨fun h => absurd h (by decide), fun _ => hw⟩ (fun h => h.elim) (fun hw => ?_)
        refine g_aload_n X dX0_partAt_31 1 rfl ?_
        refine g_get X (rV (gR M t 4)) dX0_partAt_32 fl_X0_53 (fun _ => rfl) ⟨hk1, hw⟩ (fun hw => ?_)
        refine g_topR (fun r3 hr3 => ?_)
        have hw := hw r3 hr3
        refine g_iload_n X dX0_partAt_35 2 rfl ?_
        refine g_aald X dX0_partAt_36 hw (fun hw => ?_)
        refine g_topR (fun r4 hr4 => ?_)
        have hw := hw r4 hr4
        refine g_goto X 41 dX0_partAt_37 (by decide) ?_
        exact g_aret X hr (Or.inl ⟨_, rfl⟩) hlk hz1 hz2 (Nat.le_refl _) dX0_partAt_41 hw
theorem dX0_partsIn_0 : decode cX0_partsIn 0 = .ok (.iconst 0, 1) := by decide +kernel
theorem dX0_partsIn_1 : decode cX0_partsIn 1 = .ok (.istore_n 2, 1) := by decide +kernel
theorem dX0_partsIn_2 : decode cX0_partsIn 2 = .ok (.aload_n 0, 1) := by decide +kernel
theorem dX0_partsIn_3 : decode cX0_partsIn 3 = .ok (.getfield 53, 3) := by decide +kernel
theorem dX0_partsIn_6 : decode cX0_partsIn 6 = .ok (.astore_n 3, 1) := by decide +kernel
theorem dX0_partsIn_7 : decode cX0_partsIn 7 = .ok (.aload_n 3, 1) := by decide +kernel
theorem dX0_partsIn_8 : decode cX0_partsIn 8 = .ok (.arraylength, 1) := by decide +kernel
theorem dX0_partsIn_9 : decode cX0_partsIn 9 = .ok (.istore 4, 2) := by decide +kernel
theorem dX0_partsIn_11 : decode cX0_partsIn 11 = .ok (.iconst 0, 1) := by decide +kernel
theorem dX0_partsIn_12 : decode cX0_partsIn 12 = .ok (.istore 5, 2) := by decide +kernel
theorem dX0_partsIn_14 : decode cX0_partsIn 14 = .ok (.iload 5, 2) := by decide +kernel
theorem dX0_partsIn_16 : decode cX0_partsIn 16 = .ok (.iload 4, 2) := by decide +kernel
theorem dX0_partsIn_18 : decode cX0_partsIn 18 = .ok (.if_icmp .ge 27, 3) := by decide +kernel
theorem dX0_partsIn_21 : decode cX0_partsIn 21 = .ok (.aload_n 3, 1) := by decide +kernel
theorem dX0_partsIn_22 : decode cX0_partsIn 22 = .ok (.iload 5, 2) := by decide +kernel
theorem dX0_partsIn_24 : decode cX0_partsIn 24 = .ok (.aaload, 1) := by decide +kernel
theorem dX0_partsIn_25 : decode cX0_partsIn 25 = .ok (.astore 6, 2) := by decide +kernel
theorem dX0_partsIn_27 : decode cX0_partsIn 27 = .ok (.aload 6, 2) := by decide +kernel
theorem dX0_partsIn_29 : decode cX0_partsIn 29 = .ok (.getfield 93, 3) := by decide +kernel
theorem dX0_partsIn_32 : decode cX0_partsIn 32 = .ok (.iload_n 1, 1) := by decide +kernel
theorem dX0_partsIn_33 : decode cX0_partsIn 33 = .ok (.if_icmp .ne 6, 3) := by decide +kernel
theorem dX0_partsIn_36 : decode cX0_partsIn 36 = .ok (.iinc 2 1, 3) := by decide +kernel
theorem dX0_partsIn_39 : decode cX0_partsIn 39 = .ok (.iinc 5 1, 3) := by decide +kernel
theorem dX0_partsIn_42 : decode cX0_partsIn 42 = .ok (.goto (-28), 3) := by decide +kernel
theorem dX0_partsIn_45 : decode cX0_partsIn 45 = .ok (.iload_n 2, 1) := by decide +kernel
theorem dX0_partsIn_46 : decode cX0_partsIn 46 = .ok (.ireturn, 1) := by decide +kernel
def w_X0_partsIn_L14 (n : Nat) (K : Int32 → Mem → Prop) : Nat → Mem → Int32 → Int32 → Nat → Int32 → Int32 → Prop
  | 0, _, _, _, _, _, _ => False
  | fuel + 1, M, a1, a2, o3, a4, a5 => ((a4 ≤ a5 → K a2 M) ∧ (¬ a4 ≤ a5 → ((o3 ≤ n ∧ (10 ≤ (kd o3).1 ∧ (kd o3).1 < 13) ∧ vp_in a5 (kd o3).2) ∧ (∀ r4, r4 = gR M o3 (Int32.toNatClampNeg a5) → ((r4 ≤ n ∧ kd r4 = (2, 0)) ∧ ((¬ (gI M r4 4) = a1 → (∀ x6, x6 = a5 + (1 : Int32) → w_X0_partsIn_L14 n K fuel M a1 a2 o3 a4 x6)) ∧ ((gI M r4 4) = a1 → (∀ x7, x7 = a2 + (1 : Int32) → (∀ x8, x8 = a5 + (1 : Int32) → w_X0_partsIn_L14 n K fuel M a1 x7 o3 a4 x8)))))))))
def w_X0_partsIn (n : Nat) (M : Mem) (t : Nat) (p1 : Int32) (K : Int32 → Mem → Prop) : Prop := ((t ≤ n ∧ kd t = (0, 0)) ∧ (∀ r2, r2 = gR M t 4 → ((r2 ≤ n ∧ 7 ≤ (kd r2).1 ∧ (kd r2).1 < 13) ∧ (∀ x3, x3 = nI (kd r2).2 → w_X0_partsIn_L14 n K 4000 M p1 (0 : Int32) r2 x3 (0 : Int32)))))
abbrev rmX0_partsIn : Room := { frames := 0, cells := 0, slots := 0, locals := 0 }
set_option maxHeartbeats 4000000 in
set_option maxRecDepth 20000 in
theorem c_X0_partsIn (l : Launch) (E : Gl) (n : Nat) (M : Mem) (t : Nat) (p1 : Int32) (K : Int32 → Mem → Prop) (hw : w_X0_partsIn n M t p1 K) : CT E l yX0_partsIn cX0_partsIn 7 (some .int) rmX0_partsIn n M [rV t, iV p1] (PI E n K) := by
  refine g_met l (by decide) (Nat.le_of_ble_eq_true rfl) ?_
  intro p e s m args below meth c X hr hlk hnm hz1 hz2
  change CX E p s m c _ _ RX0 at X
  have L14 : ∀ (fuel : Nat) (M : Mem) (a1 : Int32) (a2 : Int32) (o3 : Nat) (a4 : Int32) (a5 : Int32), w_X0_partsIn_L14 n K fuel M a1 a2 o3 a4 a5 → G E p l e rmX0_partsIn s m args below meth c 7 n M 0 0 (MQD lw_cs below (PI E n K) args s rmX0_partsIn.cells rmX0_partsIn.slots (Ab E)) 14 [(1, iV a1), (2, iV a2), (3, rV o3), (4, iV a4), (5, iV a5)] [] := by
    intro fuel
    induction fuel with
    | zero => intro M a1 a2 o3 a4 a5 hw; exact False.elim hw
    | succ fuel ih =>
      intro M a1 a2 o3 a4 a5 hw
      unfold w_X0_partsIn_L14 at hw
      refine g_iload X dX0_partsIn_14 4 rfl ?_
      refine g_iload X dX0_partsIn_16 3 rfl ?_
      refine g_icmp_ge X 45 dX0_partsIn_18 (by decide) hw (fun hw => ?_) (fun hw => ?_)
      · refine g_iload_n X dX0_partsIn_45 1 rfl ?_
        exact g_iret X hr hlk hz1 hz2 (Nat.le_refl _) dX0_partsIn_46 hw
      · refine g_aload_n X dX0_partsIn_21 2 rfl ?_
        refine g_iload X dX0_partsIn_22 4 rfl ?_
        refine g_aald X dX0_partsIn_24 hw (fun hw => ?_)
        refine g_topR (fun r4 hr4 => ?_)
        have hw := hw r4 hr4
        refine g_astore (lv' := [(6, rV r4), (1, iV a1), (2, iV a2), (3, rV o3), (4, iV a4), (5, iV a5)]) X dX0_partsIn_25 (by decide) rfl ?_
        refine g_aload X dX0_partsIn_27 0 rfl ?_
        obtain ⟨hk5, hw⟩ := hw
        refine g_get X (iV (gI M r4 4)) dX0_partsIn_29 fl_X0_93 (fun _ => rfl) ⟨hk5, hw⟩ (fun hw => ?_)
        refine g_iload_n X dX0_partsIn_32 1 rfl ?_
        refine g_icmp_ne X 39 dX0_partsIn_33 (by decide) hw (fun hw => ?_) (fun hw => ?_)
        · obtain ⟨x6, hx6⟩ : ∃ y : Int32, y = a5 + (1 : Int32) := ⟨_, rfl⟩
          have hw := hw x6 hx6
          refine g_iinc (lv' := [(5, iV x6), (6, rV r4), (1, iV a1), (2, iV a2), (3, rV o3), (4, iV a4)]) X x6 dX0_partsIn_39 5 rfl (by rw [hx6]; rfl) (by decide) rfl ?_
          refine g_goto X 14 dX0_partsIn_42 (by decide) ?_
          refine g_lvsub (lv' := [(1, iV a1), (2, iV a2), (3, rV o3), (4, iV a4), (5, iV x6)]) [2, 3, 4, 5, 0] rfl ?_
          exact ih _ _ _ _ _ _ hw
        · obtain ⟨x7, hx7⟩ : ∃ y : Int32, y = a2 + (1 : Int32) := ⟨_, rfl⟩
          have hw := hw x7 hx7
          refine g_iinc (lv' := [(2, iV x7), (6, rV r4), (1, iV a1), (3, rV o3), (4, iV a4), (5, iV a5)]) X x7 dX0_partsIn_36 2 rfl (by rw [hx7]; rfl) (by decide) rfl ?_
          obtain ⟨x8, hx8⟩ : ∃ y : Int32, y = a5 + (1 : Int32) := ⟨_, rfl⟩
          have hw := hw x8 hx8
          refine g_iinc (lv' := [(5, iV x8), (2, iV x7), (6, rV r4), (1, iV a1), (3, rV o3), (4, iV a4)]) X x8 dX0_partsIn_39 5 rfl (by rw [hx8]; rfl) (by decide) rfl ?_
          refine g_goto X 14 dX0_partsIn_42 (by decide) ?_
          refine g_lvsub (lv' := [(1, iV a1), (2, iV x7), (3, rV o3), (4, iV a4), (5, iV x8)]) [3, 1, 4, 5, 0] rfl ?_
          exact ih _ _ _ _ _ _ hw
  unfold w_X0_partsIn at hw
  refine g_iconst X (0 : Int32) dX0_partsIn_0 (by decide) ?_
  refine g_istore_n (lv' := [(2, iV (0 : Int32)), (0, rV t), (1, iV p1)]) X dX0_partsIn_1 (by decide) rfl ?_
  refine g_aload_n X dX0_partsIn_2 1 rfl ?_
  obtain ⟨hk1, hw⟩ := hw
  refine g_get X (rV (gR M t 4)) dX0_partsIn_3 fl_X0_53 (fun _ => rfl) ⟨hk1, hw⟩ (fun hw => ?_)
  refine g_topR (fun r2 hr2 => ?_)
  have hw := hw r2 hr2
  refine g_astore_n (lv' := [(3, rV r2), (2, iV (0 : Int32)), (0, rV t), (1, iV p1)]) X dX0_partsIn_6 (by decide) rfl ?_
  refine g_aload_n X dX0_partsIn_7 0 rfl ?_
  refine g_alen X dX0_partsIn_8 hw (fun hw => ?_)
  refine g_topI (fun x3 hx3 => ?_)
  have hw := hw x3 hx3
  refine g_istore (lv' := [(4, iV x3), (3, rV r2), (2, iV (0 : Int32)), (0, rV t), (1, iV p1)]) X dX0_partsIn_9 (by decide) rfl ?_
  refine g_iconst X (0 : Int32) dX0_partsIn_11 (by decide) ?_
  refine g_istore (lv' := [(5, iV (0 : Int32)), (4, iV x3), (3, rV r2), (2, iV (0 : Int32)), (0, rV t), (1, iV p1)]) X dX0_partsIn_12 (by decide) rfl ?_
  refine g_lvsub (lv' := [(1, iV p1), (2, iV (0 : Int32)), (3, rV r2), (4, iV x3), (5, iV (0 : Int32))]) [5, 3, 2, 1, 0] rfl ?_
  exact L14 _ _ _ _ _ _ _ hw
theorem dX0_partsRejectedFor_0 : decode cX0_partsRejectedFor 0 = .ok (.iconst 0, 1) := by decide +kernel
theorem dX0_partsRejectedFor_1 : decode cX0_partsRejectedFor 1 = .ok (.istore_n 2, 1) := by decide +kernel
theorem dX0_partsRejectedFor_2 : decode cX0_partsRejectedFor 2 = .ok (.aload_n 0, 1) := by decide +kernel
theorem dX0_partsRejectedFor_3 : decode cX0_partsRejectedFor 3 = .ok (.getfield 53, 3) := by decide +kernel
theorem dX0_partsRejectedFor_6 : decode cX0_partsRejectedFor 6 = .ok (.astore_n 3, 1) := by decide +kernel
theorem dX0_partsRejectedFor_7 : decode cX0_partsRejectedFor 7 = .ok (.aload_n 3, 1) := by decide +kernel
theorem dX0_partsRejectedFor_8 : decode cX0_partsRejectedFor 8 = .ok (.arraylength, 1) := by decide +kernel
theorem dX0_partsRejectedFor_9 : decode cX0_partsRejectedFor 9 = .ok (.istore 4, 2) := by decide +kernel
theorem dX0_partsRejectedFor_11 : decode cX0_partsRejectedFor 11 = .ok (.iconst 0, 1) := by decide +kernel
theorem dX0_partsRejectedFor_12 : decode cX0_partsRejectedFor 12 = .ok (.istore 5, 2) := by decide +kernel
theorem dX0_partsRejectedFor_14 : decode cX0_partsRejectedFor 14 = .ok (.iload 5, 2) := by decide +kernel
theorem dX0_partsRejectedFor_16 : decode cX0_partsRejectedFor 16 = .ok (.iload 4, 2) := by decide +kernel
theorem dX0_partsRejectedFor_18 : decode cX0_partsRejectedFor 18 = .ok (.if_icmp .ge 27, 3) := by decide +kernel
theorem dX0_partsRejectedFor_21 : decode cX0_partsRejectedFor 21 = .ok (.aload_n 3, 1) := by decide +kernel
theorem dX0_partsRejectedFor_22 : decode cX0_partsRejectedFor 22 = .ok (.iload 5, 2) := by decide +kernel
theorem dX0_partsRejectedFor_24 : decode cX0_partsRejectedFor 24 = .ok (.aaload, 1) := by decide +kernel
theorem dX0_partsRejectedFor_25 : decode cX0_partsRejectedFor 25 = .ok (.astore 6, 2) := by decide +kernel
theorem dX0_partsRejectedFor_27 : decode cX0_partsRejectedFor 27 = .ok (.aload 6, 2) := by decide +kernel
theorem dX0_partsRejectedFor_29 : decode cX0_partsRejectedFor 29 = .ok (.getfield 214, 3) := by decide +kernel
theorem dX0_partsRejectedFor_32 : decode cX0_partsRejectedFor 32 = .ok (.iload_n 1, 1) := by decide +kernel
theorem dX0_partsRejectedFor_33 : decode cX0_partsRejectedFor 33 = .ok (.if_icmp .ne 6, 3) := by decide +kernel
theorem dX0_partsRejectedFor_36 : decode cX0_partsRejectedFor 36 = .ok (.iinc 2 1, 3) := by decide +kernel
theorem dX0_partsRejectedFor_39 : decode cX0_partsRejectedFor 39 = .ok (.iinc 5 1, 3) := by decide +kernel
theorem dX0_partsRejectedFor_42 : decode cX0_partsRejectedFor 42 = .ok (.goto (-28), 3) := by decide +kernel
theorem dX0_partsRejectedFor_45 : decode cX0_partsRejectedFor 45 = .ok (.iload_n 2, 1) := by decide +kernel
theorem dX0_partsRejectedFor_46 : decode cX0_partsRejectedFor 46 = .ok (.ireturn, 1) := by decide +kernel
def w_X0_partsRejectedFor_L14 (n : Nat) (K : Int32 → Mem → Prop) : Nat → Mem → Int32 → Int32 → Nat → Int32 → Int32 → Prop
  | 0, _, _, _, _, _, _ => False
  | fuel + 1, M, a1, a2, o3, a4, a5 => ((a4 ≤ a5 → K a2 M) ∧ (¬ a4 ≤ a5 → ((o3 ≤ n ∧ (10 ≤ (kd o3).1 ∧ (kd o3).1 < 13) ∧ vp_in a5 (kd o3).2) ∧ (∀ r4, r4 = gR M o3 (Int32.toNatClampNeg a5) → ((r4 ≤ n ∧ kd r4 = (2, 0)) ∧ ((¬ (gI M r4 10) = a1 → (∀ x6, x6 = a5 + (1 : Int32) → w_X0_partsRejectedFor_L14 n K fuel M a1 a2 o3 a4 x6)) ∧ ((gI M r4 10) = a1 → (∀ x7, x7 = a2 + (1 : Int32) → (∀ x8, x8 = a5 + (1 : Int32) → w_X0_partsRejectedFor_L14 n K fuel M a1 x7 o3 a4 x8)))))))))
def w_X0_partsRejectedFor (n : Nat) (M : Mem) (t : Nat) (p1 : Int32) (K : Int32 → Mem → Prop) : Prop := ((t ≤ n ∧ kd t = (0, 0)) ∧ (∀ r2, r2 = gR M t 4 → ((r2 ≤ n ∧ 7 ≤ (kd r2).1 ∧ (kd r2).1 < 13) ∧ (∀ x3, x3 = nI (kd r2).2 → w_X0_partsRejectedFor_L14 n K 4000 M p1 (0 : Int32) r2 x3 (0 : Int32)))))
abbrev rmX0_partsRejectedFor : Room := { frames := 0, cells := 0, slots := 0, locals := 0 }
set_option maxHeartbeats 4000000 in
set_option maxRecDepth 20000 in
theorem c_X0_partsRejectedFor (l : Launch) (E : Gl) (n : Nat) (M : Mem) (t : Nat) (p1 : Int32) (K : Int32 → Mem → Prop) (hw : w_X0_partsRejectedFor n M t p1 K) : CT E l yX0_partsRejectedFor cX0_partsRejectedFor 7 (some .int) rmX0_partsRejectedFor n M [rV t, iV p1] (PI E n K) := by
  refine g_met l (by decide) (Nat.le_of_ble_eq_true rfl) ?_
  intro p e s m args below meth c X hr hlk hnm hz1 hz2
  change CX E p s m c _ _ RX0 at X
  have L14 : ∀ (fuel : Nat) (M : Mem) (a1 : Int32) (a2 : Int32) (o3 : Nat) (a4 : Int32) (a5 : Int32), w_X0_partsRejectedFor_L14 n K fuel M a1 a2 o3 a4 a5 → G E p l e rmX0_partsRejectedFor s m args below meth c 7 n M 0 0 (MQD lw_cs below (PI E n K) args s rmX0_partsRejectedFor.cells rmX0_partsRejectedFor.slots (Ab E)) 14 [(1, iV a1), (2, iV a2), (3, rV o3), (4, iV a4), (5, iV a5)] [] := by
    intro fuel
    induction fuel with
    | zero => intro M a1 a2 o3 a4 a5 hw; exact False.elim hw
    | succ fuel ih =>
      intro M a1 a2 o3 a4 a5 hw
      unfold w_X0_partsRejectedFor_L14 at hw
      refine g_iload X dX0_partsRejectedFor_14 4 rfl ?_
      refine g_iload X dX0_partsRejectedFor_16 3 rfl ?_
      refine g_icmp_ge X 45 dX0_partsRejectedFor_18 (by decide) hw (fun hw => ?_) (fun hw => ?_)
      · refine g_iload_n X dX0_partsRejectedFor_45 1 rfl ?_
        exact g_iret X hr hlk hz1 hz2 (Nat.le_refl _) dX0_partsRejectedFor_46 hw
      · refine g_aload_n X dX0_partsRejectedFor_21 2 rfl ?_
        refine g_iload X dX0_partsRejectedFor_22 4 rfl ?_
        refine g_aald X dX0_partsRejectedFor_24 hw (fun hw => ?_)
        refine g_topR (fun r4 hr4 => ?_)
        have hw := hw r4 hr4
        refine g_astore (lv' := [(6, rV r4), (1, iV a1), (2, iV a2), (3, rV o3), (4, iV a4), (5, iV a5)]) X dX0_partsRejectedFor_25 (by decide) rfl ?_
        refine g_aload X dX0_partsRejectedFor_27 0 rfl ?_
        obtain ⟨hk5, hw⟩ := hw
        refine g_get X (iV (gI M r4 10)) dX0_partsRejectedFor_29 fl_X0_214 (fun _ => rfl) ⟨hk5, hw⟩ (fun hw => ?_)
        refine g_iload_n X dX0_partsRejectedFor_32 1 rfl ?_
        refine g_icmp_ne X 39 dX0_partsRejectedFor_33 (by decide) hw (fun hw => ?_) (fun hw => ?_)
        · obtain ⟨x6, hx6⟩ : ∃ y : Int32, y = a5 + (1 : Int32) := ⟨_, rfl⟩
          have hw := hw x6 hx6
          refine g_iinc (lv' := [(5, iV x6), (6, rV r4), (1, iV a1), (2, iV a2), (3, rV o3), (4, iV a4)]) X x6 dX0_partsRejectedFor_39 5 rfl (by rw [hx6]; rfl) (by decide) rfl ?_
          refine g_goto X 14 dX0_partsRejectedFor_42 (by decide) ?_
          refine g_lvsub (lv' := [(1, iV a1), (2, iV a2), (3, rV o3), (4, iV a4), (5, iV x6)]) [2, 3, 4, 5, 0] rfl ?_
          exact ih _ _ _ _ _ _ hw
        · obtain ⟨x7, hx7⟩ : ∃ y : Int32, y = a2 + (1 : Int32) := ⟨_, rfl⟩
          have hw := hw x7 hx7
          refine g_iinc (lv' := [(2, iV x7), (6, rV r4), (1, iV a1), (3, rV o3), (4, iV a4), (5, iV a5)]) X x7 dX0_partsRejectedFor_36 2 rfl (by rw [hx7]; rfl) (by decide) rfl ?_
          obtain ⟨x8, hx8⟩ : ∃ y : Int32, y = a5 + (1 : Int32) := ⟨_, rfl⟩
          have hw := hw x8 hx8
          refine g_iinc (lv' := [(5, iV x8), (2, iV x7), (6, rV r4), (1, iV a1), (3, rV o3), (4, iV a4)]) X x8 dX0_partsRejectedFor_39 5 rfl (by rw [hx8]; rfl) (by decide) rfl ?_
          refine g_goto X 14 dX0_partsRejectedFor_42 (by decide) ?_
          refine g_lvsub (lv' := [(1, iV a1), (2, iV x7), (3, rV o3), (4, iV a4), (5, iV x8)]) [3, 1, 4, 5, 0] rfl ?_
          exact ih _ _ _ _ _ _ hw
  unfold w_X0_partsRejectedFor at hw
  refine g_iconst X (0 : Int32) dX0_partsRejectedFor_0 (by decide) ?_
  refine g_istore_n (lv' := [(2, iV (0 : Int32)), (0, rV t), (1, iV p1)]) X dX0_partsRejectedFor_1 (by decide) rfl ?_
  refine g_aload_n X dX0_partsRejectedFor_2 1 rfl ?_
  obtain ⟨hk1, hw⟩ := hw
  refine g_get X (rV (gR M t 4)) dX0_partsRejectedFor_3 fl_X0_53 (fun _ => rfl) ⟨hk1, hw⟩ (fun hw => ?_)
  refine g_topR (fun r2 hr2 => ?_)
  have hw := hw r2 hr2
  refine g_astore_n (lv' := [(3, rV r2), (2, iV (0 : Int32)), (0, rV t), (1, iV p1)]) X dX0_partsRejectedFor_6 (by decide) rfl ?_
  refine g_aload_n X dX0_partsRejectedFor_7 0 rfl ?_
  refine g_alen X dX0_partsRejectedFor_8 hw (fun hw => ?_)
  refine g_topI (fun x3 hx3 => ?_)
  have hw := hw x3 hx3
  refine g_istore (lv' := [(4, iV x3), (3, rV r2), (2, iV (0 : Int32)), (0, rV t), (1, iV p1)]) X dX0_partsRejectedFor_9 (by decide) rfl ?_
  refine g_iconst X (0 : Int32) dX0_partsRejectedFor_11 (by decide) ?_
  refine g_istore (lv' := [(5, iV (0 : Int32)), (4, iV x3), (3, rV r2), (2, iV (0 : Int32)), (0, rV t), (1, iV p1)]) X dX0_partsRejectedFor_12 (by decide) rfl ?_
  refine g_lvsub (lv' := [(1, iV p1), (2, iV (0 : Int32)), (3, rV r2), (4, iV x3), (5, iV (0 : Int32))]) [5, 3, 2, 1, 0] rfl ?_
  exact L14 _ _ _ _ _ _ _ hw
theorem dX0_testsEnded_0 : decode cX0_testsEnded 0 = .ok (.iconst 0, 1) := by decide +kernel
theorem dX0_testsEnded_1 : decode cX0_testsEnded 1 = .ok (.istore_n 1, 1) := by decide +kernel
theorem dX0_testsEnded_2 : decode cX0_testsEnded 2 = .ok (.aload_n 0, 1) := by decide +kernel
theorem dX0_testsEnded_3 : decode cX0_testsEnded 3 = .ok (.getfield 44, 3) := by decide +kernel
theorem dX0_testsEnded_6 : decode cX0_testsEnded 6 = .ok (.astore_n 2, 1) := by decide +kernel
theorem dX0_testsEnded_7 : decode cX0_testsEnded 7 = .ok (.aload_n 2, 1) := by decide +kernel
theorem dX0_testsEnded_8 : decode cX0_testsEnded 8 = .ok (.arraylength, 1) := by decide +kernel
theorem dX0_testsEnded_9 : decode cX0_testsEnded 9 = .ok (.istore_n 3, 1) := by decide +kernel
theorem dX0_testsEnded_10 : decode cX0_testsEnded 10 = .ok (.iconst 0, 1) := by decide +kernel
theorem dX0_testsEnded_11 : decode cX0_testsEnded 11 = .ok (.istore 4, 2) := by decide +kernel
theorem dX0_testsEnded_13 : decode cX0_testsEnded 13 = .ok (.iload 4, 2) := by decide +kernel
theorem dX0_testsEnded_15 : decode cX0_testsEnded 15 = .ok (.iload_n 3, 1) := by decide +kernel
theorem dX0_testsEnded_16 : decode cX0_testsEnded 16 = .ok (.if_icmp .ge 23, 3) := by decide +kernel
theorem dX0_testsEnded_19 : decode cX0_testsEnded 19 = .ok (.aload_n 2, 1) := by decide +kernel
theorem dX0_testsEnded_20 : decode cX0_testsEnded 20 = .ok (.iload 4, 2) := by decide +kernel
theorem dX0_testsEnded_22 : decode cX0_testsEnded 22 = .ok (.aaload, 1) := by decide +kernel
theorem dX0_testsEnded_23 : decode cX0_testsEnded 23 = .ok (.astore 5, 2) := by decide +kernel
theorem dX0_testsEnded_25 : decode cX0_testsEnded 25 = .ok (.iload_n 1, 1) := by decide +kernel
theorem dX0_testsEnded_26 : decode cX0_testsEnded 26 = .ok (.aload 5, 2) := by decide +kernel
theorem dX0_testsEnded_28 : decode cX0_testsEnded 28 = .ok (.getfield 149, 3) := by decide +kernel
theorem dX0_testsEnded_31 : decode cX0_testsEnded 31 = .ok (.iadd, 1) := by decide +kernel
theorem dX0_testsEnded_32 : decode cX0_testsEnded 32 = .ok (.istore_n 1, 1) := by decide +kernel
theorem dX0_testsEnded_33 : decode cX0_testsEnded 33 = .ok (.iinc 4 1, 3) := by decide +kernel
theorem dX0_testsEnded_36 : decode cX0_testsEnded 36 = .ok (.goto (-23), 3) := by decide +kernel
theorem dX0_testsEnded_39 : decode cX0_testsEnded 39 = .ok (.iload_n 1, 1) := by decide +kernel
theorem dX0_testsEnded_40 : decode cX0_testsEnded 40 = .ok (.ireturn, 1) := by decide +kernel
def w_X0_testsEnded_L13 (n : Nat) (K : Int32 → Mem → Prop) : Nat → Mem → Int32 → Nat → Int32 → Int32 → Prop
  | 0, _, _, _, _, _ => False
  | fuel + 1, M, a1, o2, a3, a4 => ((a3 ≤ a4 → K a1 M) ∧ (¬ a3 ≤ a4 → ((o2 ≤ n ∧ (10 ≤ (kd o2).1 ∧ (kd o2).1 < 13) ∧ vp_in a4 (kd o2).2) ∧ (∀ r4, r4 = gR M o2 (Int32.toNatClampNeg a4) → ((r4 ≤ n ∧ kd r4 = (1, 0)) ∧ (∀ x6, x6 = a1 + (gI M r4 10) → (∀ x7, x7 = a4 + (1 : Int32) → w_X0_testsEnded_L13 n K fuel M x6 o2 a3 x7)))))))
def w_X0_testsEnded (n : Nat) (M : Mem) (t : Nat) (K : Int32 → Mem → Prop) : Prop := ((t ≤ n ∧ kd t = (0, 0)) ∧ (∀ r2, r2 = gR M t 3 → ((r2 ≤ n ∧ 7 ≤ (kd r2).1 ∧ (kd r2).1 < 13) ∧ (∀ x3, x3 = nI (kd r2).2 → w_X0_testsEnded_L13 n K 4000 M (0 : Int32) r2 x3 (0 : Int32)))))
abbrev rmX0_testsEnded : Room := { frames := 0, cells := 0, slots := 0, locals := 0 }
set_option maxHeartbeats 4000000 in
set_option maxRecDepth 20000 in
theorem c_X0_testsEnded (l : Launch) (E : Gl) (n : Nat) (M : Mem) (t : Nat) (K : Int32 → Mem → Prop) (hw : w_X0_testsEnded n M t K) : CT E l yX0_testsEnded cX0_testsEnded 6 (some .int) rmX0_testsEnded n M [rV t] (PI E n K) := by
  refine g_met l (by decide) (Nat.le_of_ble_eq_true rfl) ?_
  intro p e s m args below meth c X hr hlk hnm hz1 hz2
  change CX E p s m c _ _ RX0 at X
  have L13 : ∀ (fuel : Nat) (M : Mem) (a1 : Int32) (o2 : Nat) (a3 : Int32) (a4 : Int32), w_X0_testsEnded_L13 n K fuel M a1 o2 a3 a4 → G E p l e rmX0_testsEnded s m args below meth c 6 n M 0 0 (MQD lw_cs below (PI E n K) args s rmX0_testsEnded.cells rmX0_testsEnded.slots (Ab E)) 13 [(1, iV a1), (2, rV o2), (3, iV a3), (4, iV a4)] [] := by
    intro fuel
    induction fuel with
    | zero => intro M a1 o2 a3 a4 hw; exact False.elim hw
    | succ fuel ih =>
      intro M a1 o2 a3 a4 hw
      unfold w_X0_testsEnded_L13 at hw
      refine g_iload X dX0_testsEnded_13 3 rfl ?_
      refine g_iload_n X dX0_testsEnded_15 2 rfl ?_
      refine g_icmp_ge X 39 dX0_testsEnded_16 (by decide) hw (fun hw => ?_) (fun hw => ?_)
      · refine g_iload_n X dX0_testsEnded_39 0 rfl ?_
        exact g_iret X hr hlk hz1 hz2 (Nat.le_refl _) dX0_testsEnded_40 hw
      · refine g_aload_n X dX0_testsEnded_19 1 rfl ?_
        refine g_iload X dX0_testsEnded_20 3 rfl ?_
        refine g_aald X dX0_testsEnded_22 hw (fun hw => ?_)
        refine g_topR (fun r4 hr4 => ?_)
        have hw := hw r4 hr4
        refine g_astore (lv' := [(5, rV r4), (1, iV a1), (2, rV o2), (3, iV a3), (4, iV a4)]) X dX0_testsEnded_23 (by decide) rfl ?_
        refine g_iload_n X dX0_testsEnded_25 1 rfl ?_
        refine g_aload X dX0_testsEnded_26 0 rfl ?_
        obtain ⟨hk5, hw⟩ := hw
        refine g_get X (iV (gI M r4 10)) dX0_testsEnded_28 fl_X0_149 (fun _ => rfl) ⟨hk5, hw⟩ (fun hw => ?_)
        refine g_iadd X dX0_testsEnded_31 ?_
        refine g_topI (fun x6 hx6 => ?_)
        have hw := hw x6 hx6
        refine g_istore_n (lv' := [(1, iV x6), (5, rV r4), (2, rV o2), (3, iV a3), (4, iV a4)]) X dX0_testsEnded_32 (by decide) rfl ?_
        obtain ⟨x7, hx7⟩ : ∃ y : Int32, y = a4 + (1 : Int32) := ⟨_, rfl⟩
        have hw := hw x7 hx7
        refine g_iinc (lv' := [(4, iV x7), (1, iV x6), (5, rV r4), (2, rV o2), (3, iV a3)]) X x7 dX0_testsEnded_33 4 rfl (by rw [hx7]; rfl) (by decide) rfl ?_
        refine g_goto X 13 dX0_testsEnded_36 (by decide) ?_
        refine g_lvsub (lv' := [(1, iV x6), (2, rV o2), (3, iV a3), (4, iV x7)]) [1, 3, 4, 0] rfl ?_
        exact ih _ _ _ _ _ hw
  unfold w_X0_testsEnded at hw
  refine g_iconst X (0 : Int32) dX0_testsEnded_0 (by decide) ?_
  refine g_istore_n (lv' := [(1, iV (0 : Int32)), (0, rV t)]) X dX0_testsEnded_1 (by decide) rfl ?_
  refine g_aload_n X dX0_testsEnded_2 1 rfl ?_
  obtain ⟨hk1, hw⟩ := hw
  refine g_get X (rV (gR M t 3)) dX0_testsEnded_3 fl_X0_44 (fun _ => rfl) ⟨hk1, hw⟩ (fun hw => ?_)
  refine g_topR (fun r2 hr2 => ?_)
  have hw := hw r2 hr2
  refine g_astore_n (lv' := [(2, rV r2), (1, iV (0 : Int32)), (0, rV t)]) X dX0_testsEnded_6 (by decide) rfl ?_
  refine g_aload_n X dX0_testsEnded_7 0 rfl ?_
  refine g_alen X dX0_testsEnded_8 hw (fun hw => ?_)
  refine g_topI (fun x3 hx3 => ?_)
  have hw := hw x3 hx3
  refine g_istore_n (lv' := [(3, iV x3), (2, rV r2), (1, iV (0 : Int32)), (0, rV t)]) X dX0_testsEnded_9 (by decide) rfl ?_
  refine g_iconst X (0 : Int32) dX0_testsEnded_10 (by decide) ?_
  refine g_istore (lv' := [(4, iV (0 : Int32)), (3, iV x3), (2, rV r2), (1, iV (0 : Int32)), (0, rV t)]) X dX0_testsEnded_11 (by decide) rfl ?_
  refine g_lvsub (lv' := [(1, iV (0 : Int32)), (2, rV r2), (3, iV x3), (4, iV (0 : Int32))]) [3, 2, 1, 0] rfl ?_
  exact L13 _ _ _ _ _ _ hw
theorem dX0_testsRepeated_0 : decode cX0_testsRepeated 0 = .ok (.iconst 0, 1) := by decide +kernel
theorem dX0_testsRepeated_1 : decode cX0_testsRepeated 1 = .ok (.istore_n 1, 1) := by decide +kernel
theorem dX0_testsRepeated_2 : decode cX0_testsRepeated 2 = .ok (.aload_n 0, 1) := by decide +kernel
theorem dX0_testsRepeated_3 : decode cX0_testsRepeated 3 = .ok (.getfield 44, 3) := by decide +kernel
theorem dX0_testsRepeated_6 : decode cX0_testsRepeated 6 = .ok (.astore_n 2, 1) := by decide +kernel
theorem dX0_testsRepeated_7 : decode cX0_testsRepeated 7 = .ok (.aload_n 2, 1) := by decide +kernel
theorem dX0_testsRepeated_8 : decode cX0_testsRepeated 8 = .ok (.arraylength, 1) := by decide +kernel
theorem dX0_testsRepeated_9 : decode cX0_testsRepeated 9 = .ok (.istore_n 3, 1) := by decide +kernel
theorem dX0_testsRepeated_10 : decode cX0_testsRepeated 10 = .ok (.iconst 0, 1) := by decide +kernel
theorem dX0_testsRepeated_11 : decode cX0_testsRepeated 11 = .ok (.istore 4, 2) := by decide +kernel
theorem dX0_testsRepeated_13 : decode cX0_testsRepeated 13 = .ok (.iload 4, 2) := by decide +kernel
theorem dX0_testsRepeated_15 : decode cX0_testsRepeated 15 = .ok (.iload_n 3, 1) := by decide +kernel
theorem dX0_testsRepeated_16 : decode cX0_testsRepeated 16 = .ok (.if_icmp .ge 23, 3) := by decide +kernel
theorem dX0_testsRepeated_19 : decode cX0_testsRepeated 19 = .ok (.aload_n 2, 1) := by decide +kernel
theorem dX0_testsRepeated_20 : decode cX0_testsRepeated 20 = .ok (.iload 4, 2) := by decide +kernel
theorem dX0_testsRepeated_22 : decode cX0_testsRepeated 22 = .ok (.aaload, 1) := by decide +kernel
theorem dX0_testsRepeated_23 : decode cX0_testsRepeated 23 = .ok (.astore 5, 2) := by decide +kernel
theorem dX0_testsRepeated_25 : decode cX0_testsRepeated 25 = .ok (.iload_n 1, 1) := by decide +kernel
theorem dX0_testsRepeated_26 : decode cX0_testsRepeated 26 = .ok (.aload 5, 2) := by decide +kernel
theorem dX0_testsRepeated_28 : decode cX0_testsRepeated 28 = .ok (.getfield 175, 3) := by decide +kernel
theorem dX0_testsRepeated_31 : decode cX0_testsRepeated 31 = .ok (.iadd, 1) := by decide +kernel
theorem dX0_testsRepeated_32 : decode cX0_testsRepeated 32 = .ok (.istore_n 1, 1) := by decide +kernel
theorem dX0_testsRepeated_33 : decode cX0_testsRepeated 33 = .ok (.iinc 4 1, 3) := by decide +kernel
theorem dX0_testsRepeated_36 : decode cX0_testsRepeated 36 = .ok (.goto (-23), 3) := by decide +kernel
theorem dX0_testsRepeated_39 : decode cX0_testsRepeated 39 = .ok (.iload_n 1, 1) := by decide +kernel
theorem dX0_testsRepeated_40 : decode cX0_testsRepeated 40 = .ok (.ireturn, 1) := by decide +kernel
def w_X0_testsRepeated_L13 (n : Nat) (K : Int32 → Mem → Prop) : Nat → Mem → Int32 → Nat → Int32 → Int32 → Prop
  | 0, _, _, _, _, _ => False
  | fuel + 1, M, a1, o2, a3, a4 => ((a3 ≤ a4 → K a1 M) ∧ (¬ a3 ≤ a4 → ((o2 ≤ n ∧ (10 ≤ (kd o2).1 ∧ (kd o2).1 < 13) ∧ vp_in a4 (kd o2).2) ∧ (∀ r4, r4 = gR M o2 (Int32.toNatClampNeg a4) → ((r4 ≤ n ∧ kd r4 = (1, 0)) ∧ (∀ x6, x6 = a1 + (gI M r4 13) → (∀ x7, x7 = a4 + (1 : Int32) → w_X0_testsRepeated_L13 n K fuel M x6 o2 a3 x7)))))))
def w_X0_testsRepeated (n : Nat) (M : Mem) (t : Nat) (K : Int32 → Mem → Prop) : Prop := ((t ≤ n ∧ kd t = (0, 0)) ∧ (∀ r2, r2 = gR M t 3 → ((r2 ≤ n ∧ 7 ≤ (kd r2).1 ∧ (kd r2).1 < 13) ∧ (∀ x3, x3 = nI (kd r2).2 → w_X0_testsRepeated_L13 n K 4000 M (0 : Int32) r2 x3 (0 : Int32)))))
abbrev rmX0_testsRepeated : Room := { frames := 0, cells := 0, slots := 0, locals := 0 }
set_option maxHeartbeats 4000000 in
set_option maxRecDepth 20000 in
theorem c_X0_testsRepeated (l : Launch) (E : Gl) (n : Nat) (M : Mem) (t : Nat) (K : Int32 → Mem → Prop) (hw : w_X0_testsRepeated n M t K) : CT E l yX0_testsRepeated cX0_testsRepeated 6 (some .int) rmX0_testsRepeated n M [rV t] (PI E n K) := by
  refine g_met l (by decide) (Nat.le_of_ble_eq_true rfl) ?_
  intro p e s m args below meth c X hr hlk hnm hz1 hz2
  change CX E p s m c _ _ RX0 at X
  have L13 : ∀ (fuel : Nat) (M : Mem) (a1 : Int32) (o2 : Nat) (a3 : Int32) (a4 : Int32), w_X0_testsRepeated_L13 n K fuel M a1 o2 a3 a4 → G E p l e rmX0_testsRepeated s m args below meth c 6 n M 0 0 (MQD lw_cs below (PI E n K) args s rmX0_testsRepeated.cells rmX0_testsRepeated.slots (Ab E)) 13 [(1, iV a1), (2, rV o2), (3, iV a3), (4, iV a4)] [] := by
    intro fuel
    induction fuel with
    | zero => intro M a1 o2 a3 a4 hw; exact False.elim hw
    | succ fuel ih =>
      intro M a1 o2 a3 a4 hw
      unfold w_X0_testsRepeated_L13 at hw
      refine g_iload X dX0_testsRepeated_13 3 rfl ?_
      refine g_iload_n X dX0_testsRepeated_15 2 rfl ?_
      refine g_icmp_ge X 39 dX0_testsRepeated_16 (by decide) hw (fun hw => ?_) (fun hw => ?_)
      · refine g_iload_n X dX0_testsRepeated_39 0 rfl ?_
        exact g_iret X hr hlk hz1 hz2 (Nat.le_refl _) dX0_testsRepeated_40 hw
      · refine g_aload_n X dX0_testsRepeated_19 1 rfl ?_
        refine g_iload X dX0_testsRepeated_20 3 rfl ?_
        refine g_aald X dX0_testsRepeated_22 hw (fun hw => ?_)
        refine g_topR (fun r4 hr4 => ?_)
        have hw := hw r4 hr4
        refine g_astore (lv' := [(5, rV r4), (1, iV a1), (2, rV o2), (3, iV a3), (4, iV a4)]) X dX0_testsRepeated_23 (by decide) rfl ?_
        refine g_iload_n X dX0_testsRepeated_25 1 rfl ?_
        refine g_aload X dX0_testsRepeated_26 0 rfl ?_
        obtain ⟨hk5, hw⟩ := hw
        refine g_get X (iV (gI M r4 13)) dX0_testsRepeated_28 fl_X0_175 (fun _ => rfl) ⟨hk5, hw⟩ (fun hw => ?_)
        refine g_iadd X dX0_testsRepeated_31 ?_
        refine g_topI (fun x6 hx6 => ?_)
        have hw := hw x6 hx6
        refine g_istore_n (lv' := [(1, iV x6), (5, rV r4), (2, rV o2), (3, iV a3), (4, iV a4)]) X dX0_testsRepeated_32 (by decide) rfl ?_
        obtain ⟨x7, hx7⟩ : ∃ y : Int32, y = a4 + (1 : Int32) := ⟨_, rfl⟩
        have hw := hw x7 hx7
        refine g_iinc (lv' := [(4, iV x7), (1, iV x6), (5, rV r4), (2, rV o2), (3, iV a3)]) X x7 dX0_testsRepeated_33 4 rfl (by rw [hx7]; rfl) (by decide) rfl ?_
        refine g_goto X 13 dX0_testsRepeated_36 (by decide) ?_
        refine g_lvsub (lv' := [(1, iV x6), (2, rV o2), (3, iV a3), (4, iV x7)]) [1, 3, 4, 0] rfl ?_
        exact ih _ _ _ _ _ hw
  unfold w_X0_testsRepeated at hw
  refine g_iconst X (0 : Int32) dX0_testsRepeated_0 (by decide) ?_
  refine g_istore_n (lv' := [(1, iV (0 : Int32)), (0, rV t)]) X dX0_testsRepeated_1 (by decide) rfl ?_
  refine g_aload_n X dX0_testsRepeated_2 1 rfl ?_
  obtain ⟨hk1, hw⟩ := hw
  refine g_get X (rV (gR M t 3)) dX0_testsRepeated_3 fl_X0_44 (fun _ => rfl) ⟨hk1, hw⟩ (fun hw => ?_)
  refine g_topR (fun r2 hr2 => ?_)
  have hw := hw r2 hr2
  refine g_astore_n (lv' := [(2, rV r2), (1, iV (0 : Int32)), (0, rV t)]) X dX0_testsRepeated_6 (by decide) rfl ?_
  refine g_aload_n X dX0_testsRepeated_7 0 rfl ?_
  refine g_alen X dX0_testsRepeated_8 hw (fun hw => ?_)
  refine g_topI (fun x3 hx3 => ?_)
  have hw := hw x3 hx3
  refine g_istore_n (lv' := [(3, iV x3), (2, rV r2), (1, iV (0 : Int32)), (0, rV t)]) X dX0_testsRepeated_9 (by decide) rfl ?_
  refine g_iconst X (0 : Int32) dX0_testsRepeated_10 (by decide) ?_
  refine g_istore (lv' := [(4, iV (0 : Int32)), (3, iV x3), (2, rV r2), (1, iV (0 : Int32)), (0, rV t)]) X dX0_testsRepeated_11 (by decide) rfl ?_
  refine g_lvsub (lv' := [(1, iV (0 : Int32)), (2, rV r2), (3, iV x3), (4, iV (0 : Int32))]) [3, 2, 1, 0] rfl ?_
  exact L13 _ _ _ _ _ _ hw
theorem dX0_putInFront_0 : decode cX0_putInFront 0 = .ok (.aload_n 0, 1) := by decide +kernel
theorem dX0_putInFront_1 : decode cX0_putInFront 1 = .ok (.getfield 53, 3) := by decide +kernel
theorem dX0_putInFront_4 : decode cX0_putInFront 4 = .ok (.astore_n 2, 1) := by decide +kernel
theorem dX0_putInFront_5 : decode cX0_putInFront 5 = .ok (.aload_n 2, 1) := by decide +kernel
theorem dX0_putInFront_6 : decode cX0_putInFront 6 = .ok (.arraylength, 1) := by decide +kernel
theorem dX0_putInFront_7 : decode cX0_putInFront 7 = .ok (.istore_n 3, 1) := by decide +kernel
theorem dX0_putInFront_8 : decode cX0_putInFront 8 = .ok (.iconst 0, 1) := by decide +kernel
theorem dX0_putInFront_9 : decode cX0_putInFront 9 = .ok (.istore 4, 2) := by decide +kernel
theorem dX0_putInFront_11 : decode cX0_putInFront 11 = .ok (.iload 4, 2) := by decide +kernel
theorem dX0_putInFront_13 : decode cX0_putInFront 13 = .ok (.iload_n 3, 1) := by decide +kernel
theorem dX0_putInFront_14 : decode cX0_putInFront 14 = .ok (.if_icmp .ge 34, 3) := by decide +kernel
theorem dX0_putInFront_17 : decode cX0_putInFront 17 = .ok (.aload_n 2, 1) := by decide +kernel
theorem dX0_putInFront_18 : decode cX0_putInFront 18 = .ok (.iload 4, 2) := by decide +kernel
theorem dX0_putInFront_20 : decode cX0_putInFront 20 = .ok (.aaload, 1) := by decide +kernel
theorem dX0_putInFront_21 : decode cX0_putInFront 21 = .ok (.astore 5, 2) := by decide +kernel
theorem dX0_putInFront_23 : decode cX0_putInFront 23 = .ok (.aload 5, 2) := by decide +kernel
theorem dX0_putInFront_25 : decode cX0_putInFront 25 = .ok (.getfield 93, 3) := by decide +kernel
theorem dX0_putInFront_28 : decode cX0_putInFront 28 = .ok (.ifCond .ne 14, 3) := by decide +kernel
theorem dX0_putInFront_31 : decode cX0_putInFront 31 = .ok (.aload 5, 2) := by decide +kernel
theorem dX0_putInFront_33 : decode cX0_putInFront 33 = .ok (.dup, 1) := by decide +kernel
theorem dX0_putInFront_34 : decode cX0_putInFront 34 = .ok (.getfield 96, 3) := by decide +kernel
theorem dX0_putInFront_37 : decode cX0_putInFront 37 = .ok (.iconst 1, 1) := by decide +kernel
theorem dX0_putInFront_38 : decode cX0_putInFront 38 = .ok (.iadd, 1) := by decide +kernel
theorem dX0_putInFront_39 : decode cX0_putInFront 39 = .ok (.putfield 96, 3) := by decide +kernel
theorem dX0_putInFront_42 : decode cX0_putInFront 42 = .ok (.iinc 4 1, 3) := by decide +kernel
theorem dX0_putInFront_45 : decode cX0_putInFront 45 = .ok (.goto (-34), 3) := by decide +kernel
theorem dX0_putInFront_48 : decode cX0_putInFront 48 = .ok (.aload_n 1, 1) := by decide +kernel
theorem dX0_putInFront_49 : decode cX0_putInFront 49 = .ok (.iconst 0, 1) := by decide +kernel
theorem dX0_putInFront_50 : decode cX0_putInFront 50 = .ok (.putfield 93, 3) := by decide +kernel
theorem dX0_putInFront_53 : decode cX0_putInFront 53 = .ok (.aload_n 1, 1) := by decide +kernel
theorem dX0_putInFront_54 : decode cX0_putInFront 54 = .ok (.iconst 0, 1) := by decide +kernel
theorem dX0_putInFront_55 : decode cX0_putInFront 55 = .ok (.putfield 96, 3) := by decide +kernel
theorem dX0_putInFront_58 : decode cX0_putInFront 58 = .ok (.return_, 1) := by decide +kernel
def w_X0_putInFront_L11 (n : Nat) (K : Mem → Prop) : Nat → Mem → Nat → Nat → Int32 → Int32 → Prop
  | 0, _, _, _, _, _ => False
  | fuel + 1, M, o1, o2, a3, a4 => ((a3 ≤ a4 → ((o1 ≤ n ∧ kd o1 = (2, 0)) ∧ (∀ M5, M5 = sI M o1 4 (0 : Int32) → (∀ M6, M6 = sI M5 o1 5 (0 : Int32) → K M6)))) ∧ (¬ a3 ≤ a4 → ((o2 ≤ n ∧ (10 ≤ (kd o2).1 ∧ (kd o2).1 < 13) ∧ vp_in a4 (kd o2).2) ∧ (∀ r7, r7 = gR M o2 (Int32.toNatClampNeg a4) → ((r7 ≤ n ∧ kd r7 = (2, 0)) ∧ ((¬ (gI M r7 4) = 0 → (∀ x9, x9 = a4 + (1 : Int32) → w_X0_putInFront_L11 n K fuel M o1 o2 a3 x9)) ∧ ((gI M r7 4) = 0 → (∀ M10, M10 = sI M r7 5 ((gI M r7 5) + (1 : Int32)) → (∀ x11, x11 = a4 + (1 : Int32) → w_X0_putInFront_L11 n K fuel M10 o1 o2 a3 x11)))))))))
def w_X0_putInFront (n : Nat) (M : Mem) (t : Nat) (p1 : Nat) (K : Mem → Prop) : Prop := ((t ≤ n ∧ kd t = (0, 0)) ∧ (∀ r2, r2 = gR M t 4 → ((r2 ≤ n ∧ 7 ≤ (kd r2).1 ∧ (kd r2).1 < 13) ∧ (∀ x3, x3 = nI (kd r2).2 → w_X0_putInFront_L11 n K 4000 M p1 r2 x3 (0 : Int32)))))
abbrev rmX0_putInFront : Room := { frames := 0, cells := 0, slots := 0, locals := 0 }
set_option maxHeartbeats 4000000 in
set_option maxRecDepth 20000 in
theorem c_X0_putInFront (l : Launch) (E : Gl) (n : Nat) (M : Mem) (t : Nat) (p1 : Nat) (K : Mem → Prop) (hw : w_X0_putInFront n M t p1 K) : CT E l yX0_putInFront cX0_putInFront 6 none rmX0_putInFront n M [rV t, rV p1] (PV E n K) := by
  refine g_met l (by decide) (Nat.le_of_ble_eq_true rfl) ?_
  intro p e s m args below meth c X hr hlk hnm hz1 hz2
  change CX E p s m c _ _ RX0 at X
  have L11 : ∀ (fuel : Nat) (M : Mem) (o1 : Nat) (o2 : Nat) (a3 : Int32) (a4 : Int32), w_X0_putInFront_L11 n K fuel M o1 o2 a3 a4 → G E p l e rmX0_putInFront s m args below meth c 6 n M 0 0 (MQD lw_cs below (PV E n K) args s rmX0_putInFront.cells rmX0_putInFront.slots (Ab E)) 11 [(1, rV o1), (2, rV o2), (3, iV a3), (4, iV a4)] [] := by
    intro fuel
    induction fuel with
    | zero => intro M o1 o2 a3 a4 hw; exact False.elim hw
    | succ fuel ih =>
      intro M o1 o2 a3 a4 hw
      unfold w_X0_putInFront_L11 at hw
      refine g_iload X dX0_putInFront_11 3 rfl ?_
      refine g_iload_n X dX0_putInFront_13 2 rfl ?_
      refine g_icmp_ge X 48 dX0_putInFront_14 (by decide) hw (fun hw => ?_) (fun hw => ?_)
      · refine g_aload_n X dX0_putInFront_48 0 rfl ?_
        refine g_iconst X (0 : Int32) dX0_putInFront_49 (by decide) ?_
        obtain ⟨hk4, hw⟩ := hw
        refine g_putI X dX0_putInFront_50 fl_X0_93 rfl (Or.inl rfl) ⟨hk4, hw⟩ (fun hw => ?_)
        refine g_topM (fun M5 hM5 => ?_)
        have hw := hw M5 hM5
        refine g_aload_n X dX0_putInFront_53 0 rfl ?_
        refine g_iconst X (0 : Int32) dX0_putInFront_54 (by decide) ?_
        refine g_putI X dX0_putInFront_55 fl_X0_96 rfl (Or.inl rfl) ⟨hk4, hw⟩ (fun hw => ?_)
        refine g_topM (fun M6 hM6 => ?_)
        have hw := hw M6 hM6
        exact g_vret X hr hlk hz1 hz2 (Nat.le_refl _) dX0_putInFront_58 hw
      · refine g_aload_n X dX0_putInFront_17 1 rfl ?_
        refine g_iload X dX0_putInFront_18 3 rfl ?_
        refine g_aald X dX0_putInFront_20 hw (fun hw => ?_)
        refine g_topR (fun r7 hr7 => ?_)
        have hw := hw r7 hr7
        refine g_astore (lv' := [(5, rV r7), (1, rV o1), (2, rV o2), (3, iV a3), (4, iV a4)]) X dX0_putInFront_21 (by decide) rfl ?_
        refine g_aload X dX0_putInFront_23 0 rfl ?_
        obtain ⟨hk8, hw⟩ := hw
        refine g_get X (iV (gI M r7 4)) dX0_putInFront_25 fl_X0_93 (fun _ => rfl) ⟨hk8, hw⟩ (fun hw => ?_)
        refine g_if_ne X 42 dX0_putInFront_28 (by decide) hw (fun hw => ?_) (fun hw => ?_)
        · obtain ⟨x9, hx9⟩ : ∃ y : Int32, y = a4 + (1 : Int32) := ⟨_, rfl⟩
          have hw := hw x9 hx9
          refine g_iinc (lv' := [(4, iV x9), (5, rV r7), (1, rV o1), (2, rV o2), (3, iV a3)]) X x9 dX0_putInFront_42 4 rfl (by rw [hx9]; rfl) (by decide) rfl ?_
          refine g_goto X 11 dX0_putInFront_45 (by decide) ?_
          refine g_lvsub (lv' := [(1, rV o1), (2, rV o2), (3, iV a3), (4, iV x9)]) [2, 3, 4, 0] rfl ?_
          exact ih _ _ _ _ _ hw
        · refine g_aload X dX0_putInFront_31 0 rfl ?_
          refine g_dup X dX0_putInFront_33 rfl ?_
          refine g_get X (iV (gI M r7 5)) dX0_putInFront_34 fl_X0_96 (fun _ => rfl) ⟨hk8, hw⟩ (fun hw => ?_)
          refine g_iconst X (1 : Int32) dX0_putInFront_37 (by decide) ?_
          refine g_iadd X dX0_putInFront_38 ?_
          refine g_putI X dX0_putInFront_39 fl_X0_96 rfl (Or.inl rfl) ⟨hk8, hw⟩ (fun hw => ?_)
          refine g_topM (fun M10 hM10 => ?_)
          have hw := hw M10 hM10
          obtain ⟨x11, hx11⟩ : ∃ y : Int32, y = a4 + (1 : Int32) := ⟨_, rfl⟩
          have hw := hw x11 hx11
          refine g_iinc (lv' := [(4, iV x11), (5, rV r7), (1, rV o1), (2, rV o2), (3, iV a3)]) X x11 dX0_putInFront_42 4 rfl (by rw [hx11]; rfl) (by decide) rfl ?_
          refine g_goto X 11 dX0_putInFront_45 (by decide) ?_
          refine g_lvsub (lv' := [(1, rV o1), (2, rV o2), (3, iV a3), (4, iV x11)]) [2, 3, 4, 0] rfl ?_
          exact ih _ _ _ _ _ hw
  unfold w_X0_putInFront at hw
  refine g_aload_n X dX0_putInFront_0 0 rfl ?_
  obtain ⟨hk1, hw⟩ := hw
  refine g_get X (rV (gR M t 4)) dX0_putInFront_1 fl_X0_53 (fun _ => rfl) ⟨hk1, hw⟩ (fun hw => ?_)
  refine g_topR (fun r2 hr2 => ?_)
  have hw := hw r2 hr2
  refine g_astore_n (lv' := [(2, rV r2), (0, rV t), (1, rV p1)]) X dX0_putInFront_4 (by decide) rfl ?_
  refine g_aload_n X dX0_putInFront_5 0 rfl ?_
  refine g_alen X dX0_putInFront_6 hw (fun hw => ?_)
  refine g_topI (fun x3 hx3 => ?_)
  have hw := hw x3 hx3
  refine g_istore_n (lv' := [(3, iV x3), (2, rV r2), (0, rV t), (1, rV p1)]) X dX0_putInFront_7 (by decide) rfl ?_
  refine g_iconst X (0 : Int32) dX0_putInFront_8 (by decide) ?_
  refine g_istore (lv' := [(4, iV (0 : Int32)), (3, iV x3), (2, rV r2), (0, rV t), (1, rV p1)]) X dX0_putInFront_9 (by decide) rfl ?_
  refine g_lvsub (lv' := [(1, rV p1), (2, rV r2), (3, iV x3), (4, iV (0 : Int32))]) [4, 2, 1, 0] rfl ?_
  exact L11 _ _ _ _ _ _ hw
theorem dX0_takeFromRow_0 : decode cX0_takeFromRow 0 = .ok (.aload_n 0, 1) := by decide +kernel
theorem dX0_takeFromRow_1 : decode cX0_takeFromRow 1 = .ok (.getfield 53, 3) := by decide +kernel
theorem dX0_takeFromRow_4 : decode cX0_takeFromRow 4 = .ok (.astore_n 2, 1) := by decide +kernel
theorem dX0_takeFromRow_5 : decode cX0_takeFromRow 5 = .ok (.aload_n 2, 1) := by decide +kernel
theorem dX0_takeFromRow_6 : decode cX0_takeFromRow 6 = .ok (.arraylength, 1) := by decide +kernel
theorem dX0_takeFromRow_7 : decode cX0_takeFromRow 7 = .ok (.istore_n 3, 1) := by decide +kernel
theorem dX0_takeFromRow_8 : decode cX0_takeFromRow 8 = .ok (.iconst 0, 1) := by decide +kernel
theorem dX0_takeFromRow_9 : decode cX0_takeFromRow 9 = .ok (.istore 4, 2) := by decide +kernel
theorem dX0_takeFromRow_11 : decode cX0_takeFromRow 11 = .ok (.iload 4, 2) := by decide +kernel
theorem dX0_takeFromRow_13 : decode cX0_takeFromRow 13 = .ok (.iload_n 3, 1) := by decide +kernel
theorem dX0_takeFromRow_14 : decode cX0_takeFromRow 14 = .ok (.if_icmp .ge 46, 3) := by decide +kernel
theorem dX0_takeFromRow_17 : decode cX0_takeFromRow 17 = .ok (.aload_n 2, 1) := by decide +kernel
theorem dX0_takeFromRow_18 : decode cX0_takeFromRow 18 = .ok (.iload 4, 2) := by decide +kernel
theorem dX0_takeFromRow_20 : decode cX0_takeFromRow 20 = .ok (.aaload, 1) := by decide +kernel
theorem dX0_takeFromRow_21 : decode cX0_takeFromRow 21 = .ok (.astore 5, 2) := by decide +kernel
theorem dX0_takeFromRow_23 : decode cX0_takeFromRow 23 = .ok (.aload 5, 2) := by decide +kernel
theorem dX0_takeFromRow_25 : decode cX0_takeFromRow 25 = .ok (.getfield 93, 3) := by decide +kernel
theorem dX0_takeFromRow_28 : decode cX0_takeFromRow 28 = .ok (.ifCond .ne 26, 3) := by decide +kernel
theorem dX0_takeFromRow_31 : decode cX0_takeFromRow 31 = .ok (.aload 5, 2) := by decide +kernel
theorem dX0_takeFromRow_33 : decode cX0_takeFromRow 33 = .ok (.getfield 96, 3) := by decide +kernel
theorem dX0_takeFromRow_36 : decode cX0_takeFromRow 36 = .ok (.aload_n 1, 1) := by decide +kernel
theorem dX0_takeFromRow_37 : decode cX0_takeFromRow 37 = .ok (.getfield 96, 3) := by decide +kernel
theorem dX0_takeFromRow_40 : decode cX0_takeFromRow 40 = .ok (.if_icmp .le 14, 3) := by decide +kernel
theorem dX0_takeFromRow_43 : decode cX0_takeFromRow 43 = .ok (.aload 5, 2) := by decide +kernel
theorem dX0_takeFromRow_45 : decode cX0_takeFromRow 45 = .ok (.dup, 1) := by decide +kernel
theorem dX0_takeFromRow_46 : decode cX0_takeFromRow 46 = .ok (.getfield 96, 3) := by decide +kernel
theorem dX0_takeFromRow_49 : decode cX0_takeFromRow 49 = .ok (.iconst 1, 1) := by decide +kernel
theorem dX0_takeFromRow_50 : decode cX0_takeFromRow 50 = .ok (.isub, 1) := by decide +kernel
theorem dX0_takeFromRow_51 : decode cX0_takeFromRow 51 = .ok (.putfield 96, 3) := by decide +kernel
theorem dX0_takeFromRow_54 : decode cX0_takeFromRow 54 = .ok (.iinc 4 1, 3) := by decide +kernel
theorem dX0_takeFromRow_57 : decode cX0_takeFromRow 57 = .ok (.goto (-46), 3) := by decide +kernel
theorem dX0_takeFromRow_60 : decode cX0_takeFromRow 60 = .ok (.aload_n 1, 1) := by decide +kernel
theorem dX0_takeFromRow_61 : decode cX0_takeFromRow 61 = .ok (.iconst 1, 1) := by decide +kernel
theorem dX0_takeFromRow_62 : decode cX0_takeFromRow 62 = .ok (.putfield 93, 3) := by decide +kernel
theorem dX0_takeFromRow_65 : decode cX0_takeFromRow 65 = .ok (.aload_n 1, 1) := by decide +kernel
theorem dX0_takeFromRow_66 : decode cX0_takeFromRow 66 = .ok (.bipush (-5), 2) := by decide +kernel
theorem dX0_takeFromRow_68 : decode cX0_takeFromRow 68 = .ok (.putfield 96, 3) := by decide +kernel
theorem dX0_takeFromRow_71 : decode cX0_takeFromRow 71 = .ok (.return_, 1) := by decide +kernel
def w_X0_takeFromRow_L11 (n : Nat) (K : Mem → Prop) : Nat → Mem → Nat → Nat → Int32 → Int32 → Prop
  | 0, _, _, _, _, _ => False
  | fuel + 1, M, o1, o2, a3, a4 => ((a3 ≤ a4 → ((o1 ≤ n ∧ kd o1 = (2, 0)) ∧ (∀ M5, M5 = sI M o1 4 (1 : Int32) → (∀ M6, M6 = sI M5 o1 5 (-5 : Int32) → K M6)))) ∧ (¬ a3 ≤ a4 → ((o2 ≤ n ∧ (10 ≤ (kd o2).1 ∧ (kd o2).1 < 13) ∧ vp_in a4 (kd o2).2) ∧ (∀ r7, r7 = gR M o2 (Int32.toNatClampNeg a4) → ((r7 ≤ n ∧ kd r7 = (2, 0)) ∧ ((¬ (gI M r7 4) = 0 → (∀ x9, x9 = a4 + (1 : Int32) → w_X0_takeFromRow_L11 n K fuel M o1 o2 a3 x9)) ∧ ((gI M r7 4) = 0 → ((o1 ≤ n ∧ kd o1 = (2, 0)) ∧ (((gI M r7 5) ≤ (gI M o1 5) → (∀ x11, x11 = a4 + (1 : Int32) → w_X0_takeFromRow_L11 n K fuel M o1 o2 a3 x11)) ∧ (¬ (gI M r7 5) ≤ (gI M o1 5) → (∀ M12, M12 = sI M r7 5 ((gI M r7 5) - (1 : Int32)) → (∀ x13, x13 = a4 + (1 : Int32) → w_X0_takeFromRow_L11 n K fuel M12 o1 o2 a3 x13))))))))))))
def w_X0_takeFromRow (n : Nat) (M : Mem) (t : Nat) (p1 : Nat) (K : Mem → Prop) : Prop := ((t ≤ n ∧ kd t = (0, 0)) ∧ (∀ r2, r2 = gR M t 4 → ((r2 ≤ n ∧ 7 ≤ (kd r2).1 ∧ (kd r2).1 < 13) ∧ (∀ x3, x3 = nI (kd r2).2 → w_X0_takeFromRow_L11 n K 4000 M p1 r2 x3 (0 : Int32)))))
abbrev rmX0_takeFromRow : Room := { frames := 0, cells := 0, slots := 0, locals := 0 }
set_option maxHeartbeats 4000000 in
set_option maxRecDepth 20000 in
theorem c_X0_takeFromRow (l : Launch) (E : Gl) (n : Nat) (M : Mem) (t : Nat) (p1 : Nat) (K : Mem → Prop) (hw : w_X0_takeFromRow n M t p1 K) : CT E l yX0_takeFromRow cX0_takeFromRow 6 none rmX0_takeFromRow n M [rV t, rV p1] (PV E n K) := by
  refine g_met l (by decide) (Nat.le_of_ble_eq_true rfl) ?_
  intro p e s m args below meth c X hr hlk hnm hz1 hz2
  change CX E p s m c _ _ RX0 at X
  have L11 : ∀ (fuel : Nat) (M : Mem) (o1 : Nat) (o2 : Nat) (a3 : Int32) (a4 : Int32), w_X0_takeFromRow_L11 n K fuel M o1 o2 a3 a4 → G E p l e rmX0_takeFromRow s m args below meth c 6 n M 0 0 (MQD lw_cs below (PV E n K) args s rmX0_takeFromRow.cells rmX0_takeFromRow.slots (Ab E)) 11 [(1, rV o1), (2, rV o2), (3, iV a3), (4, iV a4)] [] := by
    intro fuel
    induction fuel with
    | zero => intro M o1 o2 a3 a4 hw; exact False.elim hw
    | succ fuel ih =>
      intro M o1 o2 a3 a4 hw
      unfold w_X0_takeFromRow_L11 at hw
      refine g_iload X dX0_takeFromRow_11 3 rfl ?_
      refine g_iload_n X dX0_takeFromRow_13 2 rfl ?_
      refine g_icmp_ge X 60 dX0_takeFromRow_14 (by decide) hw (fun hw => ?_) (fun hw => ?_)
      · refine g_aload_n X dX0_takeFromRow_60 0 rfl ?_
        refine g_iconst X (1 : Int32) dX0_takeFromRow_61 (by decide) ?_
        obtain ⟨hk4, hw⟩ := hw
        refine g_putI X dX0_takeFromRow_62 fl_X0_93 rfl (Or.inl rfl) ⟨hk4, hw⟩ (fun hw => ?_)
        refine g_topM (fun M5 hM5 => ?_)
        have hw := hw M5 hM5
        refine g_aload_n X dX0_takeFromRow_65 0 rfl ?_
        refine g_bipush X (-5 : Int32) dX0_takeFromRow_66 (by decide) ?_
        refine g_putI X dX0_takeFromRow_68 fl_X0_96 rfl (Or.inl rfl) ⟨hk4, hw⟩ (fun hw => ?_)
        refine g_topM (fun M6 hM6 => ?_)
        have hw := hw M6 hM6
        exact g_vret X hr hlk hz1 hz2 (Nat.le_refl _) dX0_takeFromRow_71 hw
      · refine g_aload_n X dX0_takeFromRow_17 1 rfl ?_
        refine g_iload X dX0_takeFromRow_18 3 rfl ?_
        refine g_aald X dX0_takeFromRow_20 hw (fun hw => ?_)
        refine g_topR (fun r7 hr7 => ?_)
        have hw := hw r7 hr7
        refine g_astore (lv' := [(5, rV r7), (1, rV o1), (2, rV o2), (3, iV a3), (4, iV a4)]) X dX0_takeFromRow_21 (by decide) rfl ?_
        refine g_aload X dX0_takeFromRow_23 0 rfl ?_
        obtain ⟨hk8, hw⟩ := hw
        refine g_get X (iV (gI M r7 4)) dX0_takeFromRow_25 fl_X0_93 (fun _ => rfl) ⟨hk8, hw⟩ (fun hw => ?_)
        refine g_if_ne X 54 dX0_takeFromRow_28 (by decide) hw (fun hw => ?_) (fun hw => ?_)
        · obtain ⟨x9, hx9⟩ : ∃ y : Int32, y = a4 + (1 : Int32) := ⟨_, rfl⟩
          have hw := hw x9 hx9
          refine g_iinc (lv' := [(4, iV x9), (5, rV r7), (1, rV o1), (2, rV o2), (3, iV a3)]) X x9 dX0_takeFromRow_54 4 rfl (by rw [hx9]; rfl) (by decide) rfl ?_
          refine g_goto X 11 dX0_takeFromRow_57 (by decide) ?_
          refine g_lvsub (lv' := [(1, rV o1), (2, rV o2), (3, iV a3), (4, iV x9)]) [2, 3, 4, 0] rfl ?_
          exact ih _ _ _ _ _ hw
        · refine g_aload X dX0_takeFromRow_31 0 rfl ?_
          refine g_get X (iV (gI M r7 5)) dX0_takeFromRow_33 fl_X0_96 (fun _ => rfl) ⟨hk8, hw⟩ (fun hw => ?_)
          refine g_aload_n X dX0_takeFromRow_36 1 rfl ?_
          obtain ⟨hk10, hw⟩ := hw
          refine g_get X (iV (gI M o1 5)) dX0_takeFromRow_37 fl_X0_96 (fun _ => rfl) ⟨hk10, hw⟩ (fun hw => ?_)
          refine g_icmp_le X 54 dX0_takeFromRow_40 (by decide) hw (fun hw => ?_) (fun hw => ?_)
          · obtain ⟨x11, hx11⟩ : ∃ y : Int32, y = a4 + (1 : Int32) := ⟨_, rfl⟩
            have hw := hw x11 hx11
            refine g_iinc (lv' := [(4, iV x11), (5, rV r7), (1, rV o1), (2, rV o2), (3, iV a3)]) X x11 dX0_takeFromRow_54 4 rfl (by rw [hx11]; rfl) (by decide) rfl ?_
            refine g_goto X 11 dX0_takeFromRow_57 (by decide) ?_
            refine g_lvsub (lv' := [(1, rV o1), (2, rV o2), (3, iV a3), (4, iV x11)]) [2, 3, 4, 0] rfl ?_
            exact ih _ _ _ _ _ hw
          · refine g_aload X dX0_takeFromRow_43 0 rfl ?_
            refine g_dup X dX0_takeFromRow_45 rfl ?_
            refine g_get X (iV (gI M r7 5)) dX0_takeFromRow_46 fl_X0_96 (fun _ => rfl) ⟨hk8, hw⟩ (fun hw => ?_)
            refine g_iconst X (1 : Int32) dX0_takeFromRow_49 (by decide) ?_
            refine g_isub X dX0_takeFromRow_50 ?_
            refine g_putI X dX0_takeFromRow_51 fl_X0_96 rfl (Or.inl rfl) ⟨hk8, hw⟩ (fun hw => ?_)
            refine g_topM (fun M12 hM12 => ?_)
            have hw := hw M12 hM12
            obtain ⟨x13, hx13⟩ : ∃ y : Int32, y = a4 + (1 : Int32) := ⟨_, rfl⟩
            have hw := hw x13 hx13
            refine g_iinc (lv' := [(4, iV x13), (5, rV r7), (1, rV o1), (2, rV o2), (3, iV a3)]) X x13 dX0_takeFromRow_54 4 rfl (by rw [hx13]; rfl) (by decide) rfl ?_
            refine g_goto X 11 dX0_takeFromRow_57 (by decide) ?_
            refine g_lvsub (lv' := [(1, rV o1), (2, rV o2), (3, iV a3), (4, iV x13)]) [2, 3, 4, 0] rfl ?_
            exact ih _ _ _ _ _ hw
  unfold w_X0_takeFromRow at hw
  refine g_aload_n X dX0_takeFromRow_0 0 rfl ?_
  obtain ⟨hk1, hw⟩ := hw
  refine g_get X (rV (gR M t 4)) dX0_takeFromRow_1 fl_X0_53 (fun _ => rfl) ⟨hk1, hw⟩ (fun hw => ?_)
  refine g_topR (fun r2 hr2 => ?_)
  have hw := hw r2 hr2
  refine g_astore_n (lv' := [(2, rV r2), (0, rV t), (1, rV p1)]) X dX0_takeFromRow_4 (by decide) rfl ?_
  refine g_aload_n X dX0_takeFromRow_5 0 rfl ?_
  refine g_alen X dX0_takeFromRow_6 hw (fun hw => ?_)
  refine g_topI (fun x3 hx3 => ?_)
  have hw := hw x3 hx3
  refine g_istore_n (lv' := [(3, iV x3), (2, rV r2), (0, rV t), (1, rV p1)]) X dX0_takeFromRow_7 (by decide) rfl ?_
  refine g_iconst X (0 : Int32) dX0_takeFromRow_8 (by decide) ?_
  refine g_istore (lv' := [(4, iV (0 : Int32)), (3, iV x3), (2, rV r2), (0, rV t), (1, rV p1)]) X dX0_takeFromRow_9 (by decide) rfl ?_
  refine g_lvsub (lv' := [(1, rV p1), (2, rV r2), (3, iV x3), (4, iV (0 : Int32))]) [4, 2, 1, 0] rfl ?_
  exact L11 _ _ _ _ _ _ hw
theorem dX5_decayed_0 : decode cX5_decayed 0 = .ok (.dload_n 0, 1) := by decide +kernel
theorem dX5_decayed_1 : decode cX5_decayed 1 = .ok (.dstore 5, 2) := by decide +kernel
theorem dX5_decayed_3 : decode cX5_decayed 3 = .ok (.iconst 0, 1) := by decide +kernel
theorem dX5_decayed_4 : decode cX5_decayed 4 = .ok (.istore 7, 2) := by decide +kernel
theorem dX5_decayed_6 : decode cX5_decayed 6 = .ok (.iload 7, 2) := by decide +kernel
theorem dX5_decayed_8 : decode cX5_decayed 8 = .ok (.iload 4, 2) := by decide +kernel
theorem dX5_decayed_10 : decode cX5_decayed 10 = .ok (.if_icmp .ge 41, 3) := by decide +kernel
theorem dX5_decayed_13 : decode cX5_decayed 13 = .ok (.dload 5, 2) := by decide +kernel
theorem dX5_decayed_15 : decode cX5_decayed 15 = .ok (.dload 5, 2) := by decide +kernel
theorem dX5_decayed_17 : decode cX5_decayed 17 = .ok (.iload_n 2, 1) := by decide +kernel
theorem dX5_decayed_18 : decode cX5_decayed 18 = .ok (.i2d, 1) := by decide +kernel
theorem dX5_decayed_19 : decode cX5_decayed 19 = .ok (.dmul, 1) := by decide +kernel
theorem dX5_decayed_20 : decode cX5_decayed 20 = .ok (.ldc2_w 260, 3) := by decide +kernel
theorem dX5_decayed_23 : decode cX5_decayed 23 = .ok (.iload_n 3, 1) := by decide +kernel
theorem dX5_decayed_24 : decode cX5_decayed 24 = .ok (.i2d, 1) := by decide +kernel
theorem dX5_decayed_25 : decode cX5_decayed 25 = .ok (.dmul, 1) := by decide +kernel
theorem dX5_decayed_26 : decode cX5_decayed 26 = .ok (.ddiv, 1) := by decide +kernel
theorem dX5_decayed_27 : decode cX5_decayed 27 = .ok (.dsub, 1) := by decide +kernel
theorem dX5_decayed_28 : decode cX5_decayed 28 = .ok (.dstore 8, 2) := by decide +kernel
theorem dX5_decayed_30 : decode cX5_decayed 30 = .ok (.dload 8, 2) := by decide +kernel
theorem dX5_decayed_32 : decode cX5_decayed 32 = .ok (.dconst 0, 1) := by decide +kernel
theorem dX5_decayed_33 : decode cX5_decayed 33 = .ok (.dcmp .g, 1) := by decide +kernel
theorem dX5_decayed_34 : decode cX5_decayed 34 = .ok (.ifCond .ge 7, 3) := by decide +kernel
theorem dX5_decayed_37 : decode cX5_decayed 37 = .ok (.dconst 0, 1) := by decide +kernel
theorem dX5_decayed_38 : decode cX5_decayed 38 = .ok (.goto 5, 3) := by decide +kernel
theorem dX5_decayed_41 : decode cX5_decayed 41 = .ok (.dload 8, 2) := by decide +kernel
theorem dX5_decayed_43 : decode cX5_decayed 43 = .ok (.dstore 5, 2) := by decide +kernel
theorem dX5_decayed_45 : decode cX5_decayed 45 = .ok (.iinc 7 1, 3) := by decide +kernel
theorem dX5_decayed_48 : decode cX5_decayed 48 = .ok (.goto (-42), 3) := by decide +kernel
theorem dX5_decayed_51 : decode cX5_decayed 51 = .ok (.dload 5, 2) := by decide +kernel
theorem dX5_decayed_53 : decode cX5_decayed 53 = .ok (.dreturn, 1) := by decide +kernel
def w_X5_decayed_L6 (n : Nat) (K : UInt64 → Mem → Prop) : Nat → Mem → Int32 → Int32 → Int32 → UInt64 → Int32 → Prop
  | 0, _, _, _, _, _, _ => False
  | fuel + 1, M, a2, a3, a4, g5, a7 => ((a4 ≤ a7 → K g5 M) ∧ (¬ a4 ≤ a7 → (vf_n64 (FP.dmul g5 (FP.i2d a2)) ∧ (∀ z1, z1 = FP.dmul g5 (FP.i2d a2) → (vf_n64 (FP.dmul (4652007308841189376 : UInt64) (FP.i2d a3)) ∧ (∀ z2, z2 = FP.dmul (4652007308841189376 : UInt64) (FP.i2d a3) → (vf_n64 (FP.ddiv z1 z2) ∧ (∀ z3, z3 = FP.ddiv z1 z2 → (vf_n64 (FP.dsub g5 z3) ∧ (∀ z4, z4 = FP.dsub g5 z3 → ((0 ≤ (Op.cmpValue (FP.dcmp z4 FP.dconst0) CmpOp.g) → (∀ x5, x5 = a7 + (1 : Int32) → w_X5_decayed_L6 n K fuel M a2 a3 a4 z4 x5)) ∧ (¬ 0 ≤ (Op.cmpValue (FP.dcmp z4 FP.dconst0) CmpOp.g) → (∀ x6, x6 = a7 + (1 : Int32) → w_X5_decayed_L6 n K fuel M a2 a3 a4 FP.dconst0 x6)))))))))))))
def w_X5_decayed (n : Nat) (M : Mem) (p1 : UInt64) (p2 : Int32) (p3 : Int32) (p4 : Int32) (K : UInt64 → Mem → Prop) : Prop := w_X5_decayed_L6 n K 4000 M p2 p3 p4 p1 (0 : Int32)
abbrev rmX5_decayed : Room := { frames := 0, cells := 0, slots := 0, locals := 0 }
set_option maxHeartbeats 4000000 in
set_option maxRecDepth 20000 in
theorem c_X5_decayed (l : Launch) (E : Gl) (n : Nat) (M : Mem) (p1 : UInt64) (p2 : Int32) (p3 : Int32) (p4 : Int32) (K : UInt64 → Mem → Prop) (hw : w_X5_decayed n M p1 p2 p3 p4 K) : CT E l yX5_decayed cX5_decayed 10 (some .double) rmX5_decayed n M [dV p1, iV p2, iV p3, iV p4] (PD E n K) := by
  refine g_met l (by decide) (Nat.le_of_ble_eq_true rfl) ?_
  intro p e s m args below meth c X hr hlk hnm hz1 hz2
  change CX E p s m c _ _ RX5 at X
  have L6 : ∀ (fuel : Nat) (M : Mem) (a2 : Int32) (a3 : Int32) (a4 : Int32) (g5 : UInt64) (a7 : Int32), w_X5_decayed_L6 n K fuel M a2 a3 a4 g5 a7 → G E p l e rmX5_decayed s m args below meth c 10 n M 0 0 (MQD lw_cs below (PD E n K) args s rmX5_decayed.cells rmX5_decayed.slots (Ab E)) 6 [(2, iV a2), (3, iV a3), (4, iV a4), (5, dV g5), (7, iV a7)] [] := by
    intro fuel
    induction fuel with
    | zero => intro M a2 a3 a4 g5 a7 hw; exact False.elim hw
    | succ fuel ih =>
      intro M a2 a3 a4 g5 a7 hw
      unfold w_X5_decayed_L6 at hw
      refine g_iload X dX5_decayed_6 4 rfl ?_
      refine g_iload X dX5_decayed_8 2 rfl ?_
      refine g_icmp_ge X 51 dX5_decayed_10 (by decide) hw (fun hw => ?_) (fun hw => ?_)
      · refine g_dload X dX5_decayed_51 3 rfl ?_
        exact g_dret X hr hlk hz1 hz2 (Nat.le_refl _) dX5_decayed_53 hw
      · refine g_dload X dX5_decayed_13 3 rfl ?_
        refine g_dload X dX5_decayed_15 3 rfl ?_
        refine g_iload_n X dX5_decayed_17 0 rfl ?_
        refine g_i2d X dX5_decayed_18 ?_
        refine g_dmul X dX5_decayed_19 hw (fun hw => ?_)
        refine g_topD (fun z1 hz1 => ?_)
        have hw := hw z1 hz1
        refine g_ldcD X (4652007308841189376 : UInt64) dX5_decayed_20 wk_X5_260 ?_
        refine g_iload_n X dX5_decayed_23 1 rfl ?_
        refine g_i2d X dX5_decayed_24 ?_
        refine g_dmul X dX5_decayed_25 hw (fun hw => ?_)
        refine g_topD (fun z2 hz2 => ?_)
        have hw := hw z2 hz2
        refine g_ddiv X dX5_decayed_26 hw (fun hw => ?_)
        refine g_topD (fun z3 hz3 => ?_)
        have hw := hw z3 hz3
        refine g_dsub X dX5_decayed_27 hw (fun hw => ?_)
        refine g_topD (fun z4 hz4 => ?_)
        have hw := hw z4 hz4
        refine g_dstore (lv' := [(8, dV z4), (2, iV a2), (3, iV a3), (4, iV a4), (5, dV g5), (7, iV a7)]) X dX5_decayed_28 (by decide) rfl ?_
        refine g_dload X dX5_decayed_30 0 rfl ?_
        refine g_dconst0 X dX5_decayed_32 ?_
        refine g_dcmp X dX5_decayed_33 ?_
        refine g_if_ge X 41 dX5_decayed_34 (by decide) hw (fun hw => ?_) (fun hw => ?_)
        · refine g_dload X dX5_decayed_41 0 rfl ?_
          refine g_dstore (lv' := [(5, dV z4), (8, dV z4), (2, iV a2), (3, iV a3), (4, iV a4), (7, iV a7)]) X dX5_decayed_43 (by decide) rfl ?_
          obtain ⟨x5, hx5⟩ : ∃ y : Int32, y = a7 + (1 : Int32) := ⟨_, rfl⟩
          have hw := hw x5 hx5
          refine g_iinc (lv' := [(7, iV x5), (5, dV z4), (8, dV z4), (2, iV a2), (3, iV a3), (4, iV a4)]) X x5 dX5_decayed_45 5 rfl (by rw [hx5]; rfl) (by decide) rfl ?_
          refine g_goto X 6 dX5_decayed_48 (by decide) ?_
          refine g_lvsub (lv' := [(2, iV a2), (3, iV a3), (4, iV a4), (5, dV z4), (7, iV x5)]) [3, 4, 5, 1, 0] rfl ?_
          exact ih _ _ _ _ _ _ hw
        · refine g_dconst0 X dX5_decayed_37 ?_
          refine g_goto X 43 dX5_decayed_38 (by decide) ?_
          refine g_dstore (lv' := [(5, dV FP.dconst0), (8, dV z4), (2, iV a2), (3, iV a3), (4, iV a4), (7, iV a7)]) X dX5_decayed_43 (by decide) rfl ?_
          obtain ⟨x6, hx6⟩ : ∃ y : Int32, y = a7 + (1 : Int32) := ⟨_, rfl⟩
          have hw := hw x6 hx6
          refine g_iinc (lv' := [(7, iV x6), (5, dV FP.dconst0), (8, dV z4), (2, iV a2), (3, iV a3), (4, iV a4)]) X x6 dX5_decayed_45 5 rfl (by rw [hx6]; rfl) (by decide) rfl ?_
          refine g_goto X 6 dX5_decayed_48 (by decide) ?_
          refine g_lvsub (lv' := [(2, iV a2), (3, iV a3), (4, iV a4), (5, dV FP.dconst0), (7, iV x6)]) [3, 4, 5, 1, 0] rfl ?_
          exact ih _ _ _ _ _ _ hw
  unfold w_X5_decayed at hw
  refine g_dload_n X dX5_decayed_0 0 rfl ?_
  refine g_dstore (lv' := [(5, dV p1), (0, dV p1), (2, iV p2), (3, iV p3), (4, iV p4)]) X dX5_decayed_1 (by decide) rfl ?_
  refine g_iconst X (0 : Int32) dX5_decayed_3 (by decide) ?_
  refine g_istore (lv' := [(7, iV (0 : Int32)), (5, dV p1), (0, dV p1), (2, iV p2), (3, iV p3), (4, iV p4)]) X dX5_decayed_4 (by decide) rfl ?_
  refine g_lvsub (lv' := [(2, iV p2), (3, iV p3), (4, iV p4), (5, dV p1), (7, iV (0 : Int32))]) [3, 4, 5, 1, 0] rfl ?_
  exact L6 _ _ _ _ _ _ _ hw
theorem dX5_numberOf_0 : decode cX5_numberOf 0 = .ok (.lload_n 0, 1) := by decide +kernel
theorem dX5_numberOf_1 : decode cX5_numberOf 1 = .ok (.bipush 52, 2) := by decide +kernel
theorem dX5_numberOf_3 : decode cX5_numberOf 3 = .ok (.lushr, 1) := by decide +kernel
theorem dX5_numberOf_4 : decode cX5_numberOf 4 = .ok (.l2i, 1) := by decide +kernel
theorem dX5_numberOf_5 : decode cX5_numberOf 5 = .ok (.istore_n 2, 1) := by decide +kernel
theorem dX5_numberOf_6 : decode cX5_numberOf 6 = .ok (.lload_n 0, 1) := by decide +kernel
theorem dX5_numberOf_7 : decode cX5_numberOf 7 = .ok (.ldc2_w 262, 3) := by decide +kernel
theorem dX5_numberOf_10 : decode cX5_numberOf 10 = .ok (.land, 1) := by decide +kernel
theorem dX5_numberOf_11 : decode cX5_numberOf 11 = .ok (.lstore_n 3, 1) := by decide +kernel
theorem dX5_numberOf_12 : decode cX5_numberOf 12 = .ok (.iload_n 2, 1) := by decide +kernel
theorem dX5_numberOf_13 : decode cX5_numberOf 13 = .ok (.ifCond .ne 8, 3) := by decide +kernel
theorem dX5_numberOf_16 : decode cX5_numberOf 16 = .ok (.lload_n 3, 1) := by decide +kernel
theorem dX5_numberOf_17 : decode cX5_numberOf 17 = .ok (.l2d, 1) := by decide +kernel
theorem dX5_numberOf_18 : decode cX5_numberOf 18 = .ok (.goto 9, 3) := by decide +kernel
theorem dX5_numberOf_21 : decode cX5_numberOf 21 = .ok (.lload_n 3, 1) := by decide +kernel
theorem dX5_numberOf_22 : decode cX5_numberOf 22 = .ok (.ldc2_w 264, 3) := by decide +kernel
theorem dX5_numberOf_25 : decode cX5_numberOf 25 = .ok (.ladd, 1) := by decide +kernel
theorem dX5_numberOf_26 : decode cX5_numberOf 26 = .ok (.l2d, 1) := by decide +kernel
theorem dX5_numberOf_27 : decode cX5_numberOf 27 = .ok (.dstore 5, 2) := by decide +kernel
theorem dX5_numberOf_29 : decode cX5_numberOf 29 = .ok (.iload_n 2, 1) := by decide +kernel
theorem dX5_numberOf_30 : decode cX5_numberOf 30 = .ok (.ifCond .ne 9, 3) := by decide +kernel
theorem dX5_numberOf_33 : decode cX5_numberOf 33 = .ok (.sipush 1074, 3) := by decide +kernel
theorem dX5_numberOf_36 : decode cX5_numberOf 36 = .ok (.goto 8, 3) := by decide +kernel
theorem dX5_numberOf_39 : decode cX5_numberOf 39 = .ok (.sipush 1075, 3) := by decide +kernel
theorem dX5_numberOf_42 : decode cX5_numberOf 42 = .ok (.iload_n 2, 1) := by decide +kernel
theorem dX5_numberOf_43 : decode cX5_numberOf 43 = .ok (.isub, 1) := by decide +kernel
theorem dX5_numberOf_44 : decode cX5_numberOf 44 = .ok (.istore 7, 2) := by decide +kernel
theorem dX5_numberOf_46 : decode cX5_numberOf 46 = .ok (.iload 7, 2) := by decide +kernel
theorem dX5_numberOf_48 : decode cX5_numberOf 48 = .ok (.bipush 32, 2) := by decide +kernel
theorem dX5_numberOf_50 : decode cX5_numberOf 50 = .ok (.if_icmp .lt 17, 3) := by decide +kernel
theorem dX5_numberOf_53 : decode cX5_numberOf 53 = .ok (.dload 5, 2) := by decide +kernel
theorem dX5_numberOf_55 : decode cX5_numberOf 55 = .ok (.ldc2_w 266, 3) := by decide +kernel
theorem dX5_numberOf_58 : decode cX5_numberOf 58 = .ok (.ddiv, 1) := by decide +kernel
theorem dX5_numberOf_59 : decode cX5_numberOf 59 = .ok (.dstore 5, 2) := by decide +kernel
theorem dX5_numberOf_61 : decode cX5_numberOf 61 = .ok (.iinc 7 (-32), 3) := by decide +kernel
theorem dX5_numberOf_64 : decode cX5_numberOf 64 = .ok (.goto (-18), 3) := by decide +kernel
theorem dX5_numberOf_67 : decode cX5_numberOf 67 = .ok (.iload 7, 2) := by decide +kernel
theorem dX5_numberOf_69 : decode cX5_numberOf 69 = .ok (.ifCond .le 17, 3) := by decide +kernel
theorem dX5_numberOf_72 : decode cX5_numberOf 72 = .ok (.dload 5, 2) := by decide +kernel
theorem dX5_numberOf_74 : decode cX5_numberOf 74 = .ok (.ldc2_w 268, 3) := by decide +kernel
theorem dX5_numberOf_77 : decode cX5_numberOf 77 = .ok (.ddiv, 1) := by decide +kernel
theorem dX5_numberOf_78 : decode cX5_numberOf 78 = .ok (.dstore 5, 2) := by decide +kernel
theorem dX5_numberOf_80 : decode cX5_numberOf 80 = .ok (.iinc 7 (-1), 3) := by decide +kernel
theorem dX5_numberOf_83 : decode cX5_numberOf 83 = .ok (.goto (-16), 3) := by decide +kernel
theorem dX5_numberOf_86 : decode cX5_numberOf 86 = .ok (.dload 5, 2) := by decide +kernel
theorem dX5_numberOf_88 : decode cX5_numberOf 88 = .ok (.dreturn, 1) := by decide +kernel
def w_X5_numberOf_L67 (n : Nat) (K : UInt64 → Mem → Prop) : Nat → Mem → UInt64 → Int32 → Prop
  | 0, _, _, _ => False
  | fuel + 1, M, g5, a7 => ((a7 ≤ 0 → K g5 M) ∧ (¬ a7 ≤ 0 → (vf_n64 (FP.ddiv g5 (4611686018427387904 : UInt64)) ∧ (∀ z5, z5 = FP.ddiv g5 (4611686018427387904 : UInt64) → (∀ x6, x6 = a7 + (-1 : Int32) → w_X5_numberOf_L67 n K fuel M z5 x6)))))
def w_X5_numberOf_L46 (n : Nat) (K : UInt64 → Mem → Prop) : Nat → Mem → UInt64 → Int32 → Prop
  | 0, _, _, _ => False
  | fuel + 1, M, g5, a7 => ((a7 < (32 : Int32) → w_X5_numberOf_L67 n K 4000 M g5 a7) ∧ (¬ a7 < (32 : Int32) → (vf_n64 (FP.ddiv g5 (4751297606875873280 : UInt64)) ∧ (∀ z7, z7 = FP.ddiv g5 (4751297606875873280 : UInt64) → (∀ x8, x8 = a7 + (-32 : Int32) → w_X5_numberOf_L46 n K fuel M z7 x8)))))
def w_X5_numberOf (n : Nat) (M : Mem) (p1 : Int64) (K : UInt64 → Mem → Prop) : Prop := (∀ x1, x1 = Int64.toInt32 ((Int64.toUInt64 p1 >>> ((Int32.toInt64 (52 : Int32)).toUInt64 &&& Int64.toUInt64 63)).toInt64) → (∀ y2, y2 = p1 &&& (4503599627370495 : Int64) → ((¬ x1 = 0 → (∀ z3, z3 = FP.l2d (y2 + (4503599627370496 : Int64)) → ((¬ x1 = 0 → (∀ x4, x4 = (1075 : Int32) - x1 → w_X5_numberOf_L46 n K 4000 M z3 x4)) ∧ (x1 = 0 → w_X5_numberOf_L46 n K 4000 M z3 (1074 : Int32))))) ∧ (x1 = 0 → (∀ z9, z9 = FP.l2d y2 → ((¬ x1 = 0 → (∀ x10, x10 = (1075 : Int32) - x1 → w_X5_numberOf_L46 n K 4000 M z9 x10)) ∧ (x1 = 0 → w_X5_numberOf_L46 n K 4000 M z9 (1074 : Int32))))))))
abbrev rmX5_numberOf : Room := { frames := 0, cells := 0, slots := 0, locals := 0 }
set_option maxHeartbeats 4000000 in
set_option maxRecDepth 20000 in
theorem c_X5_numberOf (l : Launch) (E : Gl) (n : Nat) (M : Mem) (p1 : Int64) (K : UInt64 → Mem → Prop) (hw : w_X5_numberOf n M p1 K) : CT E l yX5_numberOf cX5_numberOf 8 (some .double) rmX5_numberOf n M [lV p1] (PD E n K) := by
  refine g_met l (by decide) (Nat.le_of_ble_eq_true rfl) ?_
  intro p e s m args below meth c X hr hlk hnm hz1 hz2
  change CX E p s m c _ _ RX5 at X
  have L67 : ∀ (fuel : Nat) (M : Mem) (g5 : UInt64) (a7 : Int32), w_X5_numberOf_L67 n K fuel M g5 a7 → G E p l e rmX5_numberOf s m args below meth c 8 n M 0 0 (MQD lw_cs below (PD E n K) args s rmX5_numberOf.cells rmX5_numberOf.slots (Ab E)) 67 [(5, dV g5), (7, iV a7)] [] := by
    intro fuel
    induction fuel with
    | zero => intro M g5 a7 hw; exact False.elim hw
    | succ fuel ih =>
      intro M g5 a7 hw
      unfold w_X5_numberOf_L67 at hw
      refine g_iload X dX5_numberOf_67 1 rfl ?_
      refine g_if_le X 86 dX5_numberOf_69 (by decide) hw (fun hw => ?_) (fun hw => ?_)
      · refine g_dload X dX5_numberOf_86 0 rfl ?_
        exact g_dret X hr hlk hz1 hz2 (Nat.le_refl _) dX5_numberOf_88 hw
      · refine g_dload X dX5_numberOf_72 0 rfl ?_
        refine g_ldcD X (4611686018427387904 : UInt64) dX5_numberOf_74 wk_X5_268 ?_
        refine g_ddiv X dX5_numberOf_77 hw (fun hw => ?_)
        refine g_topD (fun z5 hz5 => ?_)
        have hw := hw z5 hz5
        refine g_dstore (lv' := [(5, dV z5), (7, iV a7)]) X dX5_numberOf_78 (by decide) rfl ?_
        obtain ⟨x6, hx6⟩ : ∃ y : Int32, y = a7 + (-1 : Int32) := ⟨_, rfl⟩
        have hw := hw x6 hx6
        refine g_iinc (lv' := [(7, iV x6), (5, dV z5)]) X x6 dX5_numberOf_80 1 rfl (by rw [hx6]; rfl) (by decide) rfl ?_
        refine g_goto X 67 dX5_numberOf_83 (by decide) ?_
        refine g_lvsub (lv' := [(5, dV z5), (7, iV x6)]) [1, 0] rfl ?_
        exact ih _ _ _ hw
  have L46 : ∀ (fuel : Nat) (M : Mem) (g5 : UInt64) (a7 : Int32), w_X5_numberOf_L46 n K fuel M g5 a7 → G E p l e rmX5_numberOf s m args below meth c 8 n M 0 0 (MQD lw_cs below (PD E n K) args s rmX5_numberOf.cells rmX5_numberOf.slots (Ab E)) 46 [(5, dV g5), (7, iV a7)] [] := by
    intro fuel
    induction fuel with
    | zero => intro M g5 a7 hw; exact False.elim hw
    | succ fuel ih =>
      intro M g5 a7 hw
      unfold w_X5_numberOf_L46 at hw
      refine g_iload X dX5_numberOf_46 1 rfl ?_
      refine g_bipush X (32 : Int32) dX5_numberOf_48 (by decide) ?_
      refine g_icmp_lt X 67 dX5_numberOf_50 (by decide) hw (fun hw => ?_) (fun hw => ?_)
      · exact L67 _ _ _ _ hw
      · refine g_dload X dX5_numberOf_53 0 rfl ?_
        refine g_ldcD X (4751297606875873280 : UInt64) dX5_numberOf_55 wk_X5_266 ?_
        refine g_ddiv X dX5_numberOf_58 hw (fun hw => ?_)
        refine g_topD (fun z7 hz7 => ?_)
        have hw := hw z7 hz7
        refine g_dstore (lv' := [(5, dV z7), (7, iV a7)]) X dX5_numberOf_59 (by decide) rfl ?_
        obtain ⟨x8, hx8⟩ : ∃ y : Int32, y = a7 + (-32 : Int32) := ⟨_, rfl⟩
        have hw := hw x8 hx8
        refine g_iinc (lv' := [(7, iV x8), (5, dV z7)]) X x8 dX5_numberOf_61 1 rfl (by rw [hx8]; rfl) (by decide) rfl ?_
        refine g_goto X 46 dX5_numberOf_64 (by decide) ?_
        refine g_lvsub (lv' := [(5, dV z7), (7, iV x8)]) [1, 0] rfl ?_
        exact ih _ _ _ hw
  unfold w_X5_numberOf at hw
  refine g_lload_n X dX5_numberOf_0 0 rfl ?_
  refine g_bipush X (52 : Int32) dX5_numberOf_1 (by decide) ?_
  refine g_lushr X dX5_numberOf_3 ?_
  refine g_l2i X dX5_numberOf_4 ?_
  refine g_topI (fun x1 hx1 => ?_)
  have hw := hw x1 hx1
  refine g_istore_n (lv' := [(2, iV x1), (0, lV p1)]) X dX5_numberOf_5 (by decide) rfl ?_
  refine g_lload_n X dX5_numberOf_6 1 rfl ?_
  refine g_ldcL X (4503599627370495 : Int64) dX5_numberOf_7 wk_X5_262 ?_
  refine g_land X dX5_numberOf_10 ?_
  refine g_topJ (fun y2 hy2 => ?_)
  have hw := hw y2 hy2
  refine g_lstore_n (lv' := [(3, lV y2), (2, iV x1), (0, lV p1)]) X dX5_numberOf_11 (by decide) rfl ?_
  refine g_iload_n X dX5_numberOf_12 1 rfl ?_
  refine g_if_ne X 21 dX5_numberOf_13 (by decide) hw (fun hw => ?_) (fun hw => ?_)
  · refine g_lload_n X dX5_numberOf_21 0 rfl ?_
    refine g_ldcL X (4503599627370496 : Int64) dX5_numberOf_22 wk_X5_264 ?_
    refine g_ladd X dX5_numberOf_25 ?_
    refine g_l2d X dX5_numberOf_26 ?_
    refine g_topD (fun z3 hz3 => ?_)
    have hw := hw z3 hz3
    refine g_dstore (lv' := [(5, dV z3), (3, lV y2), (2, iV x1), (0, lV p1)]) X dX5_numberOf_27 (by decide) rfl ?_
    refine g_iload_n X dX5_numberOf_29 2 rfl ?_
    refine g_if_ne X 39 dX5_numberOf_30 (by decide) hw (fun hw => ?_) (fun hw => ?_)
    · refine g_sipush X (1075 : Int32) dX5_numberOf_39 (by decide) ?_
      refine g_iload_n X dX5_numberOf_42 2 rfl ?_
      refine g_isub X dX5_numberOf_43 ?_
      refine g_topI (fun x4 hx4 => ?_)
      have hw := hw x4 hx4
      refine g_istore (lv' := [(7, iV x4), (5, dV z3), (3, lV y2), (2, iV x1), (0, lV p1)]) X dX5_numberOf_44 (by decide) rfl ?_
      refine g_lvsub (lv' := [(5, dV z3), (7, iV x4)]) [1, 0] rfl ?_
      exact L46 _ _ _ _ hw
    · refine g_sipush X (1074 : Int32) dX5_numberOf_33 (by decide) ?_
      refine g_goto X 44 dX5_numberOf_36 (by decide) ?_
      refine g_istore (lv' := [(7, iV (1074 : Int32)), (5, dV z3), (3, lV y2), (2, iV x1), (0, lV p1)]) X dX5_numberOf_44 (by decide) rfl ?_
      refine g_lvsub (lv' := [(5, dV z3), (7, iV (1074 : Int32))]) [1, 0] rfl ?_
      exact L46 _ _ _ _ hw
  · refine g_lload_n X dX5_numberOf_16 0 rfl ?_
    refine g_l2d X dX5_numberOf_17 ?_
    refine g_goto X 27 dX5_numberOf_18 (by decide) ?_
    refine g_topD (fun z9 hz9 => ?_)
    have hw := hw z9 hz9
    refine g_dstore (lv' := [(5, dV z9), (3, lV y2), (2, iV x1), (0, lV p1)]) X dX5_numberOf_27 (by decide) rfl ?_
    refine g_iload_n X dX5_numberOf_29 2 rfl ?_
    refine g_if_ne X 39 dX5_numberOf_30 (by decide) hw (fun hw => ?_) (fun hw => ?_)
    · refine g_sipush X (1075 : Int32) dX5_numberOf_39 (by decide) ?_
      refine g_iload_n X dX5_numberOf_42 2 rfl ?_
      refine g_isub X dX5_numberOf_43 ?_
      refine g_topI (fun x10 hx10 => ?_)
      have hw := hw x10 hx10
      refine g_istore (lv' := [(7, iV x10), (5, dV z9), (3, lV y2), (2, iV x1), (0, lV p1)]) X dX5_numberOf_44 (by decide) rfl ?_
      refine g_lvsub (lv' := [(5, dV z9), (7, iV x10)]) [1, 0] rfl ?_
      exact L46 _ _ _ _ hw
    · refine g_sipush X (1074 : Int32) dX5_numberOf_33 (by decide) ?_
      refine g_goto X 44 dX5_numberOf_36 (by decide) ?_
      refine g_istore (lv' := [(7, iV (1074 : Int32)), (5, dV z9), (3, lV y2), (2, iV x1), (0, lV p1)]) X dX5_numberOf_44 (by decide) rfl ?_
      refine g_lvsub (lv' := [(5, dV z9), (7, iV (1074 : Int32))]) [1, 0] rfl ?_
      exact L46 _ _ _ _ hw
theorem dX5_notANumber_0 : decode cX5_notANumber 0 = .ok (.ldc2_w 258, 3) := by decide +kernel
theorem dX5_notANumber_3 : decode cX5_notANumber 3 = .ok (.dreturn, 1) := by decide +kernel
def w_X5_notANumber (n : Nat) (M : Mem)  (K : UInt64 → Mem → Prop) : Prop := K (9221120237041090560 : UInt64) M
abbrev rmX5_notANumber : Room := { frames := 0, cells := 0, slots := 0, locals := 0 }
set_option maxHeartbeats 4000000 in
set_option maxRecDepth 20000 in
theorem c_X5_notANumber (l : Launch) (E : Gl) (n : Nat) (M : Mem)  (K : UInt64 → Mem → Prop) (hw : w_X5_notANumber n M  K) : CT E l yX5_notANumber cX5_notANumber 0 (some .double) rmX5_notANumber n M [] (PD E n K) := by
  refine g_met l (by decide) (Nat.le_of_ble_eq_true rfl) ?_
  intro p e s m args below meth c X hr hlk hnm hz1 hz2
  change CX E p s m c _ _ RX5 at X
  unfold w_X5_notANumber at hw
  refine g_ldcD X (9221120237041090560 : UInt64) dX5_notANumber_0 wk_X5_258 ?_
  exact g_dret X hr hlk hz1 hz2 (Nat.le_refl _) dX5_notANumber_3 hw
theorem dX5_bitsOf_0 : decode cX5_bitsOf 0 = .ok (.fload_n 0, 1) := by decide +kernel
theorem dX5_bitsOf_1 : decode cX5_bitsOf 1 = .ok (.f2d, 1) := by decide +kernel
theorem dX5_bitsOf_2 : decode cX5_bitsOf 2 = .ok (.dstore_n 1, 1) := by decide +kernel
theorem dX5_bitsOf_3 : decode cX5_bitsOf 3 = .ok (.sipush 150, 3) := by decide +kernel
theorem dX5_bitsOf_6 : decode cX5_bitsOf 6 = .ok (.istore_n 3, 1) := by decide +kernel
theorem dX5_bitsOf_7 : decode cX5_bitsOf 7 = .ok (.iload_n 3, 1) := by decide +kernel
theorem dX5_bitsOf_8 : decode cX5_bitsOf 8 = .ok (.iconst 1, 1) := by decide +kernel
theorem dX5_bitsOf_9 : decode cX5_bitsOf 9 = .ok (.if_icmp .le 23, 3) := by decide +kernel
theorem dX5_bitsOf_12 : decode cX5_bitsOf 12 = .ok (.dload_n 1, 1) := by decide +kernel
theorem dX5_bitsOf_13 : decode cX5_bitsOf 13 = .ok (.ldc2_w 270, 3) := by decide +kernel
theorem dX5_bitsOf_16 : decode cX5_bitsOf 16 = .ok (.dcmp .g, 1) := by decide +kernel
theorem dX5_bitsOf_17 : decode cX5_bitsOf 17 = .ok (.ifCond .ge 15, 3) := by decide +kernel
theorem dX5_bitsOf_20 : decode cX5_bitsOf 20 = .ok (.dload_n 1, 1) := by decide +kernel
theorem dX5_bitsOf_21 : decode cX5_bitsOf 21 = .ok (.ldc2_w 268, 3) := by decide +kernel
theorem dX5_bitsOf_24 : decode cX5_bitsOf 24 = .ok (.dmul, 1) := by decide +kernel
theorem dX5_bitsOf_25 : decode cX5_bitsOf 25 = .ok (.dstore_n 1, 1) := by decide +kernel
theorem dX5_bitsOf_26 : decode cX5_bitsOf 26 = .ok (.iinc 3 (-1), 3) := by decide +kernel
theorem dX5_bitsOf_29 : decode cX5_bitsOf 29 = .ok (.goto (-22), 3) := by decide +kernel
theorem dX5_bitsOf_32 : decode cX5_bitsOf 32 = .ok (.dload_n 1, 1) := by decide +kernel
theorem dX5_bitsOf_33 : decode cX5_bitsOf 33 = .ok (.d2i, 1) := by decide +kernel
theorem dX5_bitsOf_34 : decode cX5_bitsOf 34 = .ok (.istore 4, 2) := by decide +kernel
theorem dX5_bitsOf_36 : decode cX5_bitsOf 36 = .ok (.iload 4, 2) := by decide +kernel
theorem dX5_bitsOf_38 : decode cX5_bitsOf 38 = .ok (.ldc_w 272, 3) := by decide +kernel
theorem dX5_bitsOf_41 : decode cX5_bitsOf 41 = .ok (.if_icmp .ge 8, 3) := by decide +kernel
theorem dX5_bitsOf_44 : decode cX5_bitsOf 44 = .ok (.iload 4, 2) := by decide +kernel
theorem dX5_bitsOf_46 : decode cX5_bitsOf 46 = .ok (.goto 14, 3) := by decide +kernel
theorem dX5_bitsOf_49 : decode cX5_bitsOf 49 = .ok (.iload_n 3, 1) := by decide +kernel
theorem dX5_bitsOf_50 : decode cX5_bitsOf 50 = .ok (.bipush 23, 2) := by decide +kernel
theorem dX5_bitsOf_52 : decode cX5_bitsOf 52 = .ok (.ishl, 1) := by decide +kernel
theorem dX5_bitsOf_53 : decode cX5_bitsOf 53 = .ok (.iload 4, 2) := by decide +kernel
theorem dX5_bitsOf_55 : decode cX5_bitsOf 55 = .ok (.ldc_w 272, 3) := by decide +kernel
theorem dX5_bitsOf_58 : decode cX5_bitsOf 58 = .ok (.isub, 1) := by decide +kernel
theorem dX5_bitsOf_59 : decode cX5_bitsOf 59 = .ok (.iadd, 1) := by decide +kernel
theorem dX5_bitsOf_60 : decode cX5_bitsOf 60 = .ok (.ireturn, 1) := by decide +kernel
def w_X5_bitsOf_L7 (n : Nat) (K : Int32 → Mem → Prop) : Nat → Mem → UInt64 → Int32 → Prop
  | 0, _, _, _ => False
  | fuel + 1, M, g1, a3 => ((a3 ≤ (1 : Int32) → (∀ x2, x2 = FP.d2i g1 → (((8388608 : Int32) ≤ x2 → K ((a3 <<< ((23 : Int32) &&& 31)) + (x2 - (8388608 : Int32))) M) ∧ (¬ (8388608 : Int32) ≤ x2 → K x2 M)))) ∧ (¬ a3 ≤ (1 : Int32) → ((0 ≤ (Op.cmpValue (FP.dcmp g1 (4710765210229538816 : UInt64)) CmpOp.g) → (∀ x3, x3 = FP.d2i g1 → (((8388608 : Int32) ≤ x3 → K ((a3 <<< ((23 : Int32) &&& 31)) + (x3 - (8388608 : Int32))) M) ∧ (¬ (8388608 : Int32) ≤ x3 → K x3 M)))) ∧ (¬ 0 ≤ (Op.cmpValue (FP.dcmp g1 (4710765210229538816 : UInt64)) CmpOp.g) → (vf_n64 (FP.dmul g1 (4611686018427387904 : UInt64)) ∧ (∀ z4, z4 = FP.dmul g1 (4611686018427387904 : UInt64) → (∀ x5, x5 = a3 + (-1 : Int32) → w_X5_bitsOf_L7 n K fuel M z4 x5)))))))
def w_X5_bitsOf (n : Nat) (M : Mem) (p1 : UInt32) (K : Int32 → Mem → Prop) : Prop := (vf_n64 (FP.f2d p1) ∧ (∀ z1, z1 = FP.f2d p1 → w_X5_bitsOf_L7 n K 4000 M z1 (150 : Int32)))
abbrev rmX5_bitsOf : Room := { frames := 0, cells := 0, slots := 0, locals := 0 }
set_option maxHeartbeats 4000000 in
set_option maxRecDepth 20000 in
theorem c_X5_bitsOf (l : Launch) (E : Gl) (n : Nat) (M : Mem) (p1 : UInt32) (K : Int32 → Mem → Prop) (hw : w_X5_bitsOf n M p1 K) : CT E l yX5_bitsOf cX5_bitsOf 5 (some .int) rmX5_bitsOf n M [fV p1] (PI E n K) := by
  refine g_met l (by decide) (Nat.le_of_ble_eq_true rfl) ?_
  intro p e s m args below meth c X hr hlk hnm hz1 hz2
  change CX E p s m c _ _ RX5 at X
  have L7 : ∀ (fuel : Nat) (M : Mem) (g1 : UInt64) (a3 : Int32), w_X5_bitsOf_L7 n K fuel M g1 a3 → G E p l e rmX5_bitsOf s m args below meth c 5 n M 0 0 (MQD lw_cs below (PI E n K) args s rmX5_bitsOf.cells rmX5_bitsOf.slots (Ab E)) 7 [(1, dV g1), (3, iV a3)] [] := by
    intro fuel
    induction fuel with
    | zero => intro M g1 a3 hw; exact False.elim hw
    | succ fuel ih =>
      intro M g1 a3 hw
      unfold w_X5_bitsOf_L7 at hw
      refine g_iload_n X dX5_bitsOf_7 1 rfl ?_
      refine g_iconst X (1 : Int32) dX5_bitsOf_8 (by decide) ?_
      refine g_icmp_le X 32 dX5_bitsOf_9 (by decide) hw (fun hw => ?_) (fun hw => ?_)
      · refine g_dload_n X dX5_bitsOf_32 0 rfl ?_
        refine g_d2i X dX5_bitsOf_33 ?_
        refine g_topI (fun x2 hx2 => ?_)
        have hw := hw x2 hx2
        refine g_istore (lv' := [(4, iV x2), (1, dV g1), (3, iV a3)]) X dX5_bitsOf_34 (by decide) rfl ?_
        refine g_iload X dX5_bitsOf_36 0 rfl ?_
        refine g_ldcw X (8388608 : Int32) dX5_bitsOf_38 wk_X5_272 ?_
        refine g_icmp_ge X 49 dX5_bitsOf_41 (by decide) hw (fun hw => ?_) (fun hw => ?_)
        · refine g_iload_n X dX5_bitsOf_49 2 rfl ?_
          refine g_bipush X (23 : Int32) dX5_bitsOf_50 (by decide) ?_
          refine g_ishl X dX5_bitsOf_52 ?_
          refine g_iload X dX5_bitsOf_53 0 rfl ?_
          refine g_ldcw X (8388608 : Int32) dX5_bitsOf_55 wk_X5_272 ?_
          refine g_isub X dX5_bitsOf_58 ?_
          refine g_iadd X dX5_bitsOf_59 ?_
          exact g_iret X hr hlk hz1 hz2 (Nat.le_refl _) dX5_bitsOf_60 hw
        · refine g_iload X dX5_bitsOf_44 0 rfl ?_
          refine g_goto X 60 dX5_bitsOf_46 (by decide) ?_
          exact g_iret X hr hlk hz1 hz2 (Nat.le_refl _) dX5_bitsOf_60 hw
      · refine g_dload_n X dX5_bitsOf_12 0 rfl ?_
        refine g_ldcD X (4710765210229538816 : UInt64) dX5_bitsOf_13 wk_X5_270 ?_
        refine g_dcmp X dX5_bitsOf_16 ?_
        refine g_if_ge X 32 dX5_bitsOf_17 (by decide) hw (fun hw => ?_) (fun hw => ?_)
        · refine g_dload_n X dX5_bitsOf_32 0 rfl ?_
          refine g_d2i X dX5_bitsOf_33 ?_
          refine g_topI (fun x3 hx3 => ?_)
          have hw := hw x3 hx3
          refine g_istore (lv' := [(4, iV x3), (1, dV g1), (3, iV a3)]) X dX5_bitsOf_34 (by decide) rfl ?_
          refine g_iload X dX5_bitsOf_36 0 rfl ?_
          refine g_ldcw X (8388608 : Int32) dX5_bitsOf_38 wk_X5_272 ?_
          refine g_icmp_ge X 49 dX5_bitsOf_41 (by decide) hw (fun hw => ?_) (fun hw => ?_)
          · refine g_iload_n X dX5_bitsOf_49 2 rfl ?_
            refine g_bipush X (23 : Int32) dX5_bitsOf_50 (by decide) ?_
            refine g_ishl X dX5_bitsOf_52 ?_
            refine g_iload X dX5_bitsOf_53 0 rfl ?_
            refine g_ldcw X (8388608 : Int32) dX5_bitsOf_55 wk_X5_272 ?_
            refine g_isub X dX5_bitsOf_58 ?_
            refine g_iadd X dX5_bitsOf_59 ?_
            exact g_iret X hr hlk hz1 hz2 (Nat.le_refl _) dX5_bitsOf_60 hw
          · refine g_iload X dX5_bitsOf_44 0 rfl ?_
            refine g_goto X 60 dX5_bitsOf_46 (by decide) ?_
            exact g_iret X hr hlk hz1 hz2 (Nat.le_refl _) dX5_bitsOf_60 hw
        · refine g_dload_n X dX5_bitsOf_20 0 rfl ?_
          refine g_ldcD X (4611686018427387904 : UInt64) dX5_bitsOf_21 wk_X5_268 ?_
          refine g_dmul X dX5_bitsOf_24 hw (fun hw => ?_)
          refine g_topD (fun z4 hz4 => ?_)
          have hw := hw z4 hz4
          refine g_dstore_n (lv' := [(1, dV z4), (3, iV a3)]) X dX5_bitsOf_25 (by decide) rfl ?_
          obtain ⟨x5, hx5⟩ : ∃ y : Int32, y = a3 + (-1 : Int32) := ⟨_, rfl⟩
          have hw := hw x5 hx5
          refine g_iinc (lv' := [(3, iV x5), (1, dV z4)]) X x5 dX5_bitsOf_26 1 rfl (by rw [hx5]; rfl) (by decide) rfl ?_
          refine g_goto X 7 dX5_bitsOf_29 (by decide) ?_
          refine g_lvsub (lv' := [(1, dV z4), (3, iV x5)]) [1, 0] rfl ?_
          exact ih _ _ _ hw
  unfold w_X5_bitsOf at hw
  refine g_fload_n X dX5_bitsOf_0 0 rfl ?_
  refine g_f2d X dX5_bitsOf_1 hw (fun hw => ?_)
  refine g_topD (fun z1 hz1 => ?_)
  have hw := hw z1 hz1
  refine g_dstore_n (lv' := [(1, dV z1), (0, fV p1)]) X dX5_bitsOf_2 (by decide) rfl ?_
  refine g_sipush X (150 : Int32) dX5_bitsOf_3 (by decide) ?_
  refine g_istore_n (lv' := [(3, iV (150 : Int32)), (1, dV z1), (0, fV p1)]) X dX5_bitsOf_6 (by decide) rfl ?_
  refine g_lvsub (lv' := [(1, dV z1), (3, iV (150 : Int32))]) [1, 0] rfl ?_
  exact L7 _ _ _ _ hw
theorem dX3_become_0 : decode cX3_become 0 = .ok (.aload_n 0, 1) := by decide +kernel
theorem dX3_become_1 : decode cX3_become 1 = .ok (.lload_n 1, 1) := by decide +kernel
theorem dX3_become_2 : decode cX3_become 2 = .ok (.putfield 16, 3) := by decide +kernel
theorem dX3_become_5 : decode cX3_become 5 = .ok (.aload_n 0, 1) := by decide +kernel
theorem dX3_become_6 : decode cX3_become 6 = .ok (.lload_n 1, 1) := by decide +kernel
theorem dX3_become_7 : decode cX3_become 7 = .ok (.invokestatic 19, 3) := by decide +kernel
theorem dX3_become_10 : decode cX3_become 10 = .ok (.putfield 25, 3) := by decide +kernel
theorem dX3_become_13 : decode cX3_become 13 = .ok (.return_, 1) := by decide +kernel
def w_X3_become (n : Nat) (M : Mem) (t : Nat) (p1 : Int64) (K : Mem → Prop) : Prop := ((t ≤ n ∧ kd t = (3, 0)) ∧ (∀ M2, M2 = sL M t 2 p1 → w_X5_numberOf n M2 p1 (fun z4 M3 => (∀ M5, M5 = sD M3 t 3 z4 → K M5))))
abbrev rmX3_become : Room := { frames := 1, cells := 0, slots := 0, locals := 27 }
set_option maxHeartbeats 4000000 in
set_option maxRecDepth 20000 in
theorem c_X3_become (l : Launch) (E : Gl) (n : Nat) (M : Mem) (t : Nat) (p1 : Int64) (K : Mem → Prop) (hw : w_X3_become n M t p1 K) : CT E l yX3_become cX3_become 3 none rmX3_become n M [rV t, lV p1] (PV E n K) := by
  refine g_met l (by decide) (Nat.le_of_ble_eq_true rfl) ?_
  intro p e s m args below meth c X hr hlk hnm hz1 hz2
  change CX E p s m c _ _ RX3 at X
  unfold w_X3_become at hw
  refine g_aload_n X dX3_become_0 0 rfl ?_
  refine g_lload_n X dX3_become_1 1 rfl ?_
  obtain ⟨hk1, hw⟩ := hw
  refine g_putL X dX3_become_2 fl_X3_16 rfl (Or.inl rfl) ⟨hk1, hw⟩ (fun hw => ?_)
  refine g_topM (fun M2 hM2 => ?_)
  have hw := hw M2 hM2
  refine g_aload_n X dX3_become_5 0 rfl ?_
  refine g_lload_n X dX3_become_6 1 rfl ?_
  refine g_calld (pc' := 10) (rest := [rV t]) rfl (fun H locs ls d a2 a4 => g_runN X cn_X5_numberOf (fun k => k.2.2.1) ⟨Nat.le_of_ble_eq_true rfl, Nat.le_of_ble_eq_true rfl⟩ dX3_become_7 (c_X5_numberOf l E n M2 p1 _ hw) rfl rfl (Nat.le_of_ble_eq_true rfl) ⟨Nat.le_of_ble_eq_true rfl, Nat.le_of_ble_eq_true rfl⟩ a2 a4) (fun z4 M3 hw => ?_)
  refine g_putD X dX3_become_10 fl_X3_25 rfl (Or.inl rfl) ⟨hk1, hw⟩ (fun hw => ?_)
  refine g_topM (fun M5 hM5 => ?_)
  have hw := hw M5 hM5
  exact g_vret X hr hlk hz1 hz2 (Nat.le_refl _) dX3_become_13 hw
theorem dX3_copyOf_0 : decode cX3_copyOf 0 = .ok (.aload_n 0, 1) := by decide +kernel
theorem dX3_copyOf_1 : decode cX3_copyOf 1 = .ok (.aload_n 1, 1) := by decide +kernel
theorem dX3_copyOf_2 : decode cX3_copyOf 2 = .ok (.getfield 16, 3) := by decide +kernel
theorem dX3_copyOf_5 : decode cX3_copyOf 5 = .ok (.putfield 16, 3) := by decide +kernel
theorem dX3_copyOf_8 : decode cX3_copyOf 8 = .ok (.aload_n 0, 1) := by decide +kernel
theorem dX3_copyOf_9 : decode cX3_copyOf 9 = .ok (.aload_n 1, 1) := by decide +kernel
theorem dX3_copyOf_10 : decode cX3_copyOf 10 = .ok (.getfield 25, 3) := by decide +kernel
theorem dX3_copyOf_13 : decode cX3_copyOf 13 = .ok (.putfield 25, 3) := by decide +kernel
theorem dX3_copyOf_16 : decode cX3_copyOf 16 = .ok (.return_, 1) := by decide +kernel
def w_X3_copyOf (n : Nat) (M : Mem) (t : Nat) (p1 : Nat) (K : Mem → Prop) : Prop := ((p1 ≤ n ∧ kd p1 = (3, 0)) ∧ ((t ≤ n ∧ kd t = (3, 0)) ∧ (∀ M3, M3 = sL M t 2 (gL M p1 2) → (∀ M4, M4 = sD M3 t 3 (gD M3 p1 3) → K M4))))
abbrev rmX3_copyOf : Room := { frames := 0, cells := 0, slots := 0, locals := 0 }
set_option maxHeartbeats 4000000 in
set_option maxRecDepth 20000 in
theorem c_X3_copyOf (l : Launch) (E : Gl) (n : Nat) (M : Mem) (t : Nat) (p1 : Nat) (K : Mem → Prop) (hw : w_X3_copyOf n M t p1 K) : CT E l yX3_copyOf cX3_copyOf 2 none rmX3_copyOf n M [rV t, rV p1] (PV E n K) := by
  refine g_met l (by decide) (Nat.le_of_ble_eq_true rfl) ?_
  intro p e s m args below meth c X hr hlk hnm hz1 hz2
  change CX E p s m c _ _ RX3 at X
  unfold w_X3_copyOf at hw
  refine g_aload_n X dX3_copyOf_0 0 rfl ?_
  refine g_aload_n X dX3_copyOf_1 1 rfl ?_
  obtain ⟨hk1, hw⟩ := hw
  refine g_get X (lV (gL M p1 2)) dX3_copyOf_2 fl_X3_16 (fun _ => rfl) ⟨hk1, hw⟩ (fun hw => ?_)
  obtain ⟨hk2, hw⟩ := hw
  refine g_putL X dX3_copyOf_5 fl_X3_16 rfl (Or.inl rfl) ⟨hk2, hw⟩ (fun hw => ?_)
  refine g_topM (fun M3 hM3 => ?_)
  have hw := hw M3 hM3
  refine g_aload_n X dX3_copyOf_8 0 rfl ?_
  refine g_aload_n X dX3_copyOf_9 1 rfl ?_
  refine g_get X (dV (gD M3 p1 3)) dX3_copyOf_10 fl_X3_25 (fun _ => rfl) ⟨hk1, hw⟩ (fun hw => ?_)
  refine g_putD X dX3_copyOf_13 fl_X3_25 rfl (Or.inl rfl) ⟨hk2, hw⟩ (fun hw => ?_)
  refine g_topM (fun M4 hM4 => ?_)
  have hw := hw M4 hM4
  exact g_vret X hr hlk hz1 hz2 (Nat.le_refl _) dX3_copyOf_16 hw
