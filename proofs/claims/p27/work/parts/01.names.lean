/-! ===== BEGIN words of one list among another's, by their places ===== -/
theorem goodIn_r {big : List Cond} (ws : List Cond) (ps : List Nat) (hp : ws = ps.filterMap (fun i => big[i]?)) (h : ws.all goodWord = true) : GoodIn big ws := by
  intro w hw
  have h1 := List.all_eq_true.mp h w hw
  rw [hp] at hw
  obtain ⟨i, -, hi⟩ := List.mem_filterMap.mp hw
  have hm : w ∈ big := by first | exact List.mem_of_getElem? hi | exact List.getElem?_mem hi
  exact ⟨hm, good_of_word h1⟩
theorem goodIn_app {big a b : List Cond} (ha : GoodIn big a) (hb : GoodIn big b) : GoodIn big (a ++ b) := fun w h => (List.mem_append.mp h).elim (ha w) (hb w)
theorem goodIn_ca {big a b : List Cond} {c : Cond} (ha : GoodIn big (c :: a)) (hb : GoodIn big b) : GoodIn big (c :: (a ++ b)) := fun w h => (List.mem_cons.mp h).elim (fun e => ha w (List.mem_cons.mpr (Or.inl e))) (fun h => (List.mem_append.mp h).elim (fun h => ha w (List.mem_cons.mpr (Or.inr h))) (hb w))
theorem goodIn_sub {big ws : List Cond} (hm : ∀ w ∈ ws, w ∈ big) (h : ws.all goodWord = true) : GoodIn big ws := fun w hw => ⟨hm w hw, good_of_word (List.all_eq_true.mp h w hw)⟩
/-! ===== END ===== -/

/-! ===== BEGIN printed: names, fields, word lists, decode rows ===== -/
def RX0 : String := "LeakCarousel$Carousel"
def TX0 : u_T := fun k => match k with
  | 0 => ("LeakCarousel$Carousel", "filling", "LLeakCarousel$Pressure;", true)
  | 1 => ("LeakCarousel$Carousel", "lower", "LLeakCarousel$Pressure;", true)
  | 2 => ("LeakCarousel$Carousel", "upper", "LLeakCarousel$Pressure;", true)
  | 3 => ("LeakCarousel$Carousel", "heads", "[LLeakCarousel$Head;", true)
  | 4 => ("LeakCarousel$Carousel", "parts", "[LLeakCarousel$Part;", true)
  | 5 => ("LeakCarousel$Carousel", "interval", "I", false)
  | 6 => ("LeakCarousel$Carousel", "headCount", "I", false)
  | 7 => ("LeakCarousel$Carousel", "partCount", "I", false)
  | 8 => ("LeakCarousel$Carousel", "steps", "I", false)
  | _ => ("LeakCarousel$Carousel", "station", "I", false)
def tyX0 : Nat → FieldType := fun k => match k with
  | 0 => .object "LeakCarousel$Pressure"
  | 1 => .object "LeakCarousel$Pressure"
  | 2 => .object "LeakCarousel$Pressure"
  | 3 => .array (.object "LeakCarousel$Head")
  | 4 => .array (.object "LeakCarousel$Part")
  | 5 => .int
  | 6 => .int
  | 7 => .int
  | 8 => .int
  | _ => .int
abbrev wsX00 : List Cond := u_ws RX0 TX0 10
theorem nmX0 : ∀ a, a < 10 → ∀ b, b < 10 → a ≠ b → (TX0 a).2.1 ≠ (TX0 b).2.1 := by decide +kernel
theorem tyX0_ok : ∀ k, k < 10 → parseFieldDescriptor (TX0 k).2.2.1 = some (tyX0 k) := by decide +kernel
abbrev cX0_init : ByteArray := prog_2_method_1_code
def yX0_init : MethodName := ⟨RX0, "<init>", "()V"⟩
abbrev cX0_begin : ByteArray := prog_2_method_2_code
def yX0_begin : MethodName := ⟨RX0, "begin", "(I)V"⟩
abbrev cX0_copyOf : ByteArray := prog_2_method_3_code
def yX0_copyOf : MethodName := ⟨RX0, "copyOf", "(LLeakCarousel$Carousel;)V"⟩
abbrev cX0_headAt : ByteArray := prog_2_method_4_code
def yX0_headAt : MethodName := ⟨RX0, "headAt", "(I)LLeakCarousel$Head;"⟩
abbrev cX0_partAt : ByteArray := prog_2_method_5_code
def yX0_partAt : MethodName := ⟨RX0, "partAt", "(I)LLeakCarousel$Part;"⟩
abbrev cX0_pressureAt : ByteArray := prog_2_method_6_code
def yX0_pressureAt : MethodName := ⟨RX0, "pressureAt", "(I)LLeakCarousel$Pressure;"⟩
abbrev cX0_addPart : ByteArray := prog_2_method_7_code
def yX0_addPart : MethodName := ⟨RX0, "addPart", "(ZII)I"⟩
abbrev cX0_putInFront : ByteArray := prog_2_method_8_code
def yX0_putInFront : MethodName := ⟨RX0, "putInFront", "(LLeakCarousel$Part;)V"⟩
abbrev cX0_takeFromRow : ByteArray := prog_2_method_9_code
def yX0_takeFromRow : MethodName := ⟨RX0, "takeFromRow", "(LLeakCarousel$Part;)V"⟩
abbrev cX0_rejectWaiting : ByteArray := prog_2_method_10_code
def yX0_rejectWaiting : MethodName := ⟨RX0, "rejectWaiting", "()V"⟩
abbrev cX0_takeFromHeads : ByteArray := prog_2_method_11_code
def yX0_takeFromHeads : MethodName := ⟨RX0, "takeFromHeads", "()V"⟩
abbrev cX0_step : ByteArray := prog_2_method_12_code
def yX0_step : MethodName := ⟨RX0, "step", "()Z"⟩
abbrev cX0_stepsUntil : ByteArray := prog_2_method_13_code
def yX0_stepsUntil : MethodName := ⟨RX0, "stepsUntil", "(LLeakCarousel$Head;)I"⟩
abbrev cX0_endTest : ByteArray := prog_2_method_14_code
def yX0_endTest : MethodName := ⟨RX0, "endTest", "(LLeakCarousel$Head;)Z"⟩
abbrev cX0_judge : ByteArray := prog_2_method_15_code
def yX0_judge : MethodName := ⟨RX0, "judge", "(LLeakCarousel$Part;LLeakCarousel$Head;)V"⟩
abbrev cX0_causeAgainst : ByteArray := prog_2_method_16_code
def yX0_causeAgainst : MethodName := ⟨RX0, "causeAgainst", "(LLeakCarousel$Part;LLeakCarousel$Head;)I"⟩
abbrev cX0_load : ByteArray := prog_2_method_17_code
def yX0_load : MethodName := ⟨RX0, "load", "(LLeakCarousel$Head;)V"⟩
abbrev cX0_leakAwayFrom : ByteArray := prog_2_method_18_code
def yX0_leakAwayFrom : MethodName := ⟨RX0, "leakAwayFrom", "(LLeakCarousel$Head;)V"⟩
abbrev cX0_valueOf : ByteArray := prog_2_method_19_code
def yX0_valueOf : MethodName := ⟨RX0, "valueOf", "(DLLeakCarousel$Part;LLeakCarousel$Head;)D"⟩
abbrev cX0_calibrateWith : ByteArray := prog_2_method_21_code
def yX0_calibrateWith : MethodName := ⟨RX0, "calibrateWith", "(LLeakCarousel$Head;I)V"⟩
abbrev cX0_partsIn : ByteArray := prog_2_method_22_code
def yX0_partsIn : MethodName := ⟨RX0, "partsIn", "(I)I"⟩
abbrev cX0_partsRejectedFor : ByteArray := prog_2_method_23_code
def yX0_partsRejectedFor : MethodName := ⟨RX0, "partsRejectedFor", "(I)I"⟩
abbrev cX0_testsEnded : ByteArray := prog_2_method_24_code
def yX0_testsEnded : MethodName := ⟨RX0, "testsEnded", "()I"⟩
abbrev cX0_testsRepeated : ByteArray := prog_2_method_25_code
def yX0_testsRepeated : MethodName := ⟨RX0, "testsRepeated", "()I"⟩
def RX1 : String := "LeakCarousel$Head"
def TX1 : u_T := fun k => match k with
  | 0 => ("LeakCarousel$Head", "number", "I", true)
  | 1 => ("LeakCarousel$Head", "gain", "D", false)
  | 2 => ("LeakCarousel$Head", "factor", "D", false)
  | 3 => ("LeakCarousel$Head", "wear", "I", false)
  | 4 => ("LeakCarousel$Head", "fixture", "I", false)
  | 5 => ("LeakCarousel$Head", "testsSince", "I", false)
  | 6 => ("LeakCarousel$Head", "part", "I", false)
  | 7 => ("LeakCarousel$Head", "filled", "D", false)
  | 8 => ("LeakCarousel$Head", "pressure", "D", false)
  | 9 => ("LeakCarousel$Head", "stepsSince", "I", false)
  | 10 => ("LeakCarousel$Head", "tests", "I", false)
  | 11 => ("LeakCarousel$Head", "accepted", "I", false)
  | 12 => ("LeakCarousel$Head", "rejected", "I", false)
  | _ => ("LeakCarousel$Head", "retests", "I", false)
def tyX1 : Nat → FieldType := fun k => match k with
  | 0 => .int
  | 1 => .double
  | 2 => .double
  | 3 => .int
  | 4 => .int
  | 5 => .int
  | 6 => .int
  | 7 => .double
  | 8 => .double
  | 9 => .int
  | 10 => .int
  | 11 => .int
  | 12 => .int
  | _ => .int
abbrev wsX10 : List Cond := u_ws RX1 TX1 14
theorem nmX1 : ∀ a, a < 14 → ∀ b, b < 14 → a ≠ b → (TX1 a).2.1 ≠ (TX1 b).2.1 := by decide +kernel
theorem tyX1_ok : ∀ k, k < 14 → parseFieldDescriptor (TX1 k).2.2.1 = some (tyX1 k) := by decide +kernel
abbrev cX1_init : ByteArray := prog_3_method_1_code
def yX1_init : MethodName := ⟨RX1, "<init>", "(I)V"⟩
abbrev cX1_begin : ByteArray := prog_3_method_2_code
def yX1_begin : MethodName := ⟨RX1, "begin", "()V"⟩
abbrev cX1_takes : ByteArray := prog_3_method_3_code
def yX1_takes : MethodName := ⟨RX1, "takes", "(LLeakCarousel$Part;)Z"⟩
abbrev cX1_fill : ByteArray := prog_3_method_4_code
def yX1_fill : MethodName := ⟨RX1, "fill", "(LLeakCarousel$Part;D)V"⟩
abbrev cX1_copyOf : ByteArray := prog_3_method_5_code
def yX1_copyOf : MethodName := ⟨RX1, "copyOf", "(LLeakCarousel$Head;)V"⟩
def RX2 : String := "LeakCarousel$Part"
def TX2 : u_T := fun k => match k with
  | 0 => ("LeakCarousel$Part", "number", "I", true)
  | 1 => ("LeakCarousel$Part", "pipe", "Z", false)
  | 2 => ("LeakCarousel$Part", "leak", "I", false)
  | 3 => ("LeakCarousel$Part", "volume", "I", false)
  | 4 => ("LeakCarousel$Part", "state", "I", false)
  | 5 => ("LeakCarousel$Part", "place", "I", false)
  | 6 => ("LeakCarousel$Part", "tests", "I", false)
  | 7 => ("LeakCarousel$Part", "retests", "I", false)
  | 8 => ("LeakCarousel$Part", "latestHead", "I", false)
  | 9 => ("LeakCarousel$Part", "latestValue", "D", false)
  | _ => ("LeakCarousel$Part", "cause", "I", false)
def tyX2 : Nat → FieldType := fun k => match k with
  | 0 => .int
  | 1 => .boolean
  | 2 => .int
  | 3 => .int
  | 4 => .int
  | 5 => .int
  | 6 => .int
  | 7 => .int
  | 8 => .int
  | 9 => .double
  | _ => .int
abbrev wsX20 : List Cond := u_ws RX2 TX2 11
theorem nmX2 : ∀ a, a < 11 → ∀ b, b < 11 → a ≠ b → (TX2 a).2.1 ≠ (TX2 b).2.1 := by decide +kernel
theorem tyX2_ok : ∀ k, k < 11 → parseFieldDescriptor (TX2 k).2.2.1 = some (tyX2 k) := by decide +kernel
abbrev cX2_init : ByteArray := prog_4_method_1_code
def yX2_init : MethodName := ⟨RX2, "<init>", "(I)V"⟩
abbrev cX2_beAbsent : ByteArray := prog_4_method_2_code
def yX2_beAbsent : MethodName := ⟨RX2, "beAbsent", "()V"⟩
abbrev cX2_begin : ByteArray := prog_4_method_3_code
def yX2_begin : MethodName := ⟨RX2, "begin", "(ZIII)V"⟩
abbrev cX2_rejectFor : ByteArray := prog_4_method_4_code
def yX2_rejectFor : MethodName := ⟨RX2, "rejectFor", "(I)V"⟩
abbrev cX2_copyOf : ByteArray := prog_4_method_5_code
def yX2_copyOf : MethodName := ⟨RX2, "copyOf", "(LLeakCarousel$Part;)V"⟩
def RX3 : String := "LeakCarousel$Pressure"
def TX3 : u_T := fun k => match k with
  | 0 => ("LeakCarousel$Pressure", "least", "J", true)
  | 1 => ("LeakCarousel$Pressure", "most", "J", true)
  | 2 => ("LeakCarousel$Pressure", "bits", "J", false)
  | _ => ("LeakCarousel$Pressure", "number", "D", false)
def tyX3 : Nat → FieldType := fun k => match k with
  | 0 => .long
  | 1 => .long
  | 2 => .long
  | _ => .double
abbrev wsX30 : List Cond := u_ws RX3 TX3 4
theorem nmX3 : ∀ a, a < 4 → ∀ b, b < 4 → a ≠ b → (TX3 a).2.1 ≠ (TX3 b).2.1 := by decide +kernel
theorem tyX3_ok : ∀ k, k < 4 → parseFieldDescriptor (TX3 k).2.2.1 = some (tyX3 k) := by decide +kernel
abbrev cX3_init : ByteArray := prog_5_method_1_code
def yX3_init : MethodName := ⟨RX3, "<init>", "(JJJ)V"⟩
abbrev cX3_become : ByteArray := prog_5_method_2_code
def yX3_become : MethodName := ⟨RX3, "become", "(J)V"⟩
abbrev cX3_copyOf : ByteArray := prog_5_method_3_code
def yX3_copyOf : MethodName := ⟨RX3, "copyOf", "(LLeakCarousel$Pressure;)V"⟩
def RX4 : String := "LeakCarousel$Text"
def TX4 : u_T := fun k => match k with
  | 0 => ("LeakCarousel$Text", "signs", "[C", true)
  | _ => ("LeakCarousel$Text", "length", "I", false)
def tyX4 : Nat → FieldType := fun k => match k with
  | 0 => .array .char
  | _ => .int
abbrev wsX40 : List Cond := u_ws RX4 TX4 2
theorem nmX4 : ∀ a, a < 2 → ∀ b, b < 2 → a ≠ b → (TX4 a).2.1 ≠ (TX4 b).2.1 := by decide +kernel
theorem tyX4_ok : ∀ k, k < 2 → parseFieldDescriptor (TX4 k).2.2.1 = some (tyX4 k) := by decide +kernel
abbrev cX4_init : ByteArray := prog_6_method_1_code
def yX4_init : MethodName := ⟨RX4, "<init>", "()V"⟩
abbrev cX4_append : ByteArray := prog_6_method_2_code
def yX4_append : MethodName := ⟨RX4, "append", "(C)I"⟩
abbrev cX4_reads : ByteArray := prog_6_method_3_code
def yX4_reads : MethodName := ⟨RX4, "reads", "(Ljava/lang/String;)Z"⟩
abbrev cX4_signAt : ByteArray := prog_6_method_4_code
def yX4_signAt : MethodName := ⟨RX4, "signAt", "(I)I"⟩
abbrev cX4_isDigitAt : ByteArray := prog_6_method_5_code
def yX4_isDigitAt : MethodName := ⟨RX4, "isDigitAt", "(I)Z"⟩
abbrev cX4_firstFault : ByteArray := prog_6_method_6_code
def yX4_firstFault : MethodName := ⟨RX4, "firstFault", "()I"⟩
abbrev cX4_behindLeak : ByteArray := prog_6_method_7_code
def yX4_behindLeak : MethodName := ⟨RX4, "behindLeak", "(I)I"⟩
abbrev cX4_behindVolume : ByteArray := prog_6_method_8_code
def yX4_behindVolume : MethodName := ⟨RX4, "behindVolume", "(I)I"⟩
abbrev cX4_behindDigits : ByteArray := prog_6_method_9_code
def yX4_behindDigits : MethodName := ⟨RX4, "behindDigits", "(II)I"⟩
abbrev cX4_partsTold : ByteArray := prog_6_method_10_code
def yX4_partsTold : MethodName := ⟨RX4, "partsTold", "()I"⟩
abbrev cX4_addPartsTo : ByteArray := prog_6_method_11_code
def yX4_addPartsTo : MethodName := ⟨RX4, "addPartsTo", "(LLeakCarousel$Carousel;I)V"⟩
abbrev cX4_wholeIn : ByteArray := prog_6_method_12_code
def yX4_wholeIn : MethodName := ⟨RX4, "wholeIn", "(II)I"⟩
def RX5 : String := "LeakCarousel"
def TX5 : u_T := fun k => match k with
  | 0 => ("LeakCarousel", "now", "LLeakCarousel$Carousel;", true)
  | 1 => ("LeakCarousel", "history", "[LLeakCarousel$Carousel;", true)
  | 2 => ("LeakCarousel", "snapshot", "LLeakCarousel$Carousel;", true)
  | 3 => ("LeakCarousel", "text", "LLeakCarousel$Text;", true)
  | 4 => ("LeakCarousel", "recorded", "I", false)
  | _ => ("LeakCarousel", "kept", "Z", false)
def tyX5 : Nat → FieldType := fun k => match k with
  | 0 => .object "LeakCarousel$Carousel"
  | 1 => .array (.object "LeakCarousel$Carousel")
  | 2 => .object "LeakCarousel$Carousel"
  | 3 => .object "LeakCarousel$Text"
  | 4 => .int
  | _ => .boolean
abbrev wsX50 : List Cond := u_ws RX5 TX5 6
theorem nmX5 : ∀ a, a < 6 → ∀ b, b < 6 → a ≠ b → (TX5 a).2.1 ≠ (TX5 b).2.1 := by decide +kernel
theorem tyX5_ok : ∀ k, k < 6 → parseFieldDescriptor (TX5 k).2.2.1 = some (tyX5 k) := by decide +kernel
abbrev cX5_init : ByteArray := prog_1_method_1_code
def yX5_init : MethodName := ⟨RX5, "<init>", "()V"⟩
abbrev cX5_build : ByteArray := prog_1_method_2_code
def yX5_build : MethodName := ⟨RX5, "build", "(I)I"⟩
abbrev cX5_setPressure : ByteArray := prog_1_method_3_code
def yX5_setPressure : MethodName := ⟨RX5, "setPressure", "(IJ)I"⟩
abbrev cX5_setInterval : ByteArray := prog_1_method_4_code
def yX5_setInterval : MethodName := ⟨RX5, "setInterval", "(I)I"⟩
abbrev cX5_equip : ByteArray := prog_1_method_5_code
def yX5_equip : MethodName := ⟨RX5, "equip", "(III)I"⟩
abbrev cX5_calibrate : ByteArray := prog_1_method_6_code
def yX5_calibrate : MethodName := ⟨RX5, "calibrate", "(II)I"⟩
abbrev cX5_add : ByteArray := prog_1_method_7_code
def yX5_add : MethodName := ⟨RX5, "add", "(ZII)I"⟩
abbrev cX5_run : ByteArray := prog_1_method_8_code
def yX5_run : MethodName := ⟨RX5, "run", "(I)I"⟩
abbrev cX5_type : ByteArray := prog_1_method_9_code
def yX5_type : MethodName := ⟨RX5, "type", "(C)I"⟩
abbrev cX5_clearText : ByteArray := prog_1_method_10_code
def yX5_clearText : MethodName := ⟨RX5, "clearText", "()I"⟩
abbrev cX5_readParts : ByteArray := prog_1_method_11_code
def yX5_readParts : MethodName := ⟨RX5, "readParts", "()I"⟩
abbrev cX5_perform : ByteArray := prog_1_method_12_code
def yX5_perform : MethodName := ⟨RX5, "perform", "()I"⟩
abbrev cX5_undo : ByteArray := prog_1_method_13_code
def yX5_undo : MethodName := ⟨RX5, "undo", "()I"⟩
abbrev cX5_keep : ByteArray := prog_1_method_14_code
def yX5_keep : MethodName := ⟨RX5, "keep", "()I"⟩
abbrev cX5_restore : ByteArray := prog_1_method_15_code
def yX5_restore : MethodName := ⟨RX5, "restore", "()I"⟩
abbrev cX5_head : ByteArray := prog_1_method_16_code
def yX5_head : MethodName := ⟨RX5, "head", "(II)I"⟩
abbrev cX5_gauge : ByteArray := prog_1_method_17_code
def yX5_gauge : MethodName := ⟨RX5, "gauge", "(II)D"⟩
abbrev cX5_display : ByteArray := prog_1_method_18_code
def yX5_display : MethodName := ⟨RX5, "display", "(I)I"⟩
abbrev cX5_part : ByteArray := prog_1_method_19_code
def yX5_part : MethodName := ⟨RX5, "part", "(II)I"⟩
abbrev cX5_fits : ByteArray := prog_1_method_20_code
def yX5_fits : MethodName := ⟨RX5, "fits", "(II)I"⟩
abbrev cX5_value : ByteArray := prog_1_method_21_code
def yX5_value : MethodName := ⟨RX5, "value", "(I)D"⟩
abbrev cX5_pressureBits : ByteArray := prog_1_method_23_code
def yX5_pressureBits : MethodName := ⟨RX5, "pressureBits", "(I)J"⟩
abbrev cX5_trace : ByteArray := prog_1_method_24_code
def yX5_trace : MethodName := ⟨RX5, "trace", "(II)D"⟩
abbrev cX5_count : ByteArray := prog_1_method_25_code
def yX5_count : MethodName := ⟨RX5, "count", "(I)I"⟩
abbrev cX5_remember : ByteArray := prog_1_method_26_code
def yX5_remember : MethodName := ⟨RX5, "remember", "()V"⟩
abbrev cX5_dropOldest : ByteArray := prog_1_method_27_code
def yX5_dropOldest : MethodName := ⟨RX5, "dropOldest", "()V"⟩
abbrev cX5_doSteps : ByteArray := prog_1_method_28_code
def yX5_doSteps : MethodName := ⟨RX5, "doSteps", "(I)I"⟩
abbrev cX5_stopWaiting : ByteArray := prog_1_method_29_code
def yX5_stopWaiting : MethodName := ⟨RX5, "stopWaiting", "()I"⟩
abbrev cX5_clearHeads : ByteArray := prog_1_method_30_code
def yX5_clearHeads : MethodName := ⟨RX5, "clearHeads", "()I"⟩
abbrev cX5_notANumber : ByteArray := prog_1_method_31_code
def yX5_notANumber : MethodName := ⟨RX5, "notANumber", "()D"⟩
abbrev cX5_decayed : ByteArray := prog_1_method_32_code
def yX5_decayed : MethodName := ⟨RX5, "decayed", "(DIII)D"⟩
abbrev cX5_numberOf : ByteArray := prog_1_method_33_code
def yX5_numberOf : MethodName := ⟨RX5, "numberOf", "(J)D"⟩
abbrev cX5_bitsOf : ByteArray := prog_1_method_34_code
def yX5_bitsOf : MethodName := ⟨RX5, "bitsOf", "(F)I"⟩
def RX6 : String := "LeakCarouselModel"
def TX6 : u_T := fun k => match k with
  | _ => ("", "", "", false)
def tyX6 : Nat → FieldType := fun k => match k with
  | _ => .int
abbrev wsX60 : List Cond := u_ws RX6 TX6 0
theorem nmX6 : ∀ a, a < 0 → ∀ b, b < 0 → a ≠ b → (TX6 a).2.1 ≠ (TX6 b).2.1 := by decide +kernel
theorem tyX6_ok : ∀ k, k < 0 → parseFieldDescriptor (TX6 k).2.2.1 = some (tyX6 k) := by decide +kernel
def RJ0 : String := "java/lang/String"
def TJ0 : u_T := fun k => match k with
  | _ => ("", "", "", false)
def tyJ0 : Nat → FieldType := fun k => match k with
  | _ => .int
abbrev wsJ00 : List Cond := u_ws RJ0 TJ0 0
theorem nmJ0 : ∀ a, a < 0 → ∀ b, b < 0 → a ≠ b → (TJ0 a).2.1 ≠ (TJ0 b).2.1 := by decide +kernel
theorem tyJ0_ok : ∀ k, k < 0 → parseFieldDescriptor (TJ0 k).2.2.1 = some (tyJ0 k) := by decide +kernel
abbrev cJ0_length_8abf5 : ByteArray := prog_9_method_54_code
def yJ0_length_8abf5 : MethodName := ⟨RJ0, "length", "()I"⟩
abbrev cJ0_charAt_5068e : ByteArray := prog_9_method_56_code
def yJ0_charAt_5068e : MethodName := ⟨RJ0, "charAt", "(I)C"⟩
abbrev cJ0_coder_7d493 : ByteArray := prog_9_method_152_code
def yJ0_coder_7d493 : MethodName := ⟨RJ0, "coder", "()B"⟩
abbrev cJ0_isLatin1_aae02 : ByteArray := prog_9_method_154_code
def yJ0_isLatin1_aae02 : MethodName := ⟨RJ0, "isLatin1", "()Z"⟩
abbrev cJ0_checkIndex_df160 : ByteArray := prog_9_method_155_code
def yJ0_checkIndex_df160 : MethodName := ⟨RJ0, "checkIndex", "(II)V"⟩
def RJ1 : String := "java/lang/StringLatin1"
def TJ1 : u_T := fun k => match k with
  | _ => ("", "", "", false)
def tyJ1 : Nat → FieldType := fun k => match k with
  | _ => .int
abbrev wsJ10 : List Cond := u_ws RJ1 TJ1 0
theorem nmJ1 : ∀ a, a < 0 → ∀ b, b < 0 → a ≠ b → (TJ1 a).2.1 ≠ (TJ1 b).2.1 := by decide +kernel
theorem tyJ1_ok : ∀ k, k < 0 → parseFieldDescriptor (TJ1 k).2.2.1 = some (tyJ1 k) := by decide +kernel
abbrev cJ1_charAt_3b067 : ByteArray := prog_10_method_2_code
def yJ1_charAt_3b067 : MethodName := ⟨RJ1, "charAt", "([BI)C"⟩
def RJ2 : String := "java/lang/StringUTF16"
def TJ2 : u_T := fun k => match k with
  | _ => ("", "", "", false)
def tyJ2 : Nat → FieldType := fun k => match k with
  | _ => .int
abbrev wsJ20 : List Cond := u_ws RJ2 TJ2 0
theorem nmJ2 : ∀ a, a < 0 → ∀ b, b < 0 → a ≠ b → (TJ2 a).2.1 ≠ (TJ2 b).2.1 := by decide +kernel
theorem tyJ2_ok : ∀ k, k < 0 → parseFieldDescriptor (TJ2 k).2.2.1 = some (tyJ2 k) := by decide +kernel
abbrev cJ2_getChar_3b067 : ByteArray := prog_11_method_5_code
def yJ2_getChar_3b067 : MethodName := ⟨RJ2, "getChar", "([BI)C"⟩
abbrev cJ2_length_9d52b : ByteArray := prog_11_method_6_code
def yJ2_length_9d52b : MethodName := ⟨RJ2, "length", "([B)I"⟩
abbrev cJ2_charAt_3b067 : ByteArray := prog_11_method_83_code
def yJ2_charAt_3b067 : MethodName := ⟨RJ2, "charAt", "([BI)C"⟩
abbrev cJ2_checkIndex_2214a : ByteArray := prog_11_method_91_code
def yJ2_checkIndex_2214a : MethodName := ⟨RJ2, "checkIndex", "(I[B)V"⟩
def RJ3 : String := "jdk/internal/util/Preconditions"
def TJ3 : u_T := fun k => match k with
  | _ => ("", "", "", false)
def tyJ3 : Nat → FieldType := fun k => match k with
  | _ => .int
abbrev wsJ30 : List Cond := u_ws RJ3 TJ3 0
theorem nmJ3 : ∀ a, a < 0 → ∀ b, b < 0 → a ≠ b → (TJ3 a).2.1 ≠ (TJ3 b).2.1 := by decide +kernel
theorem tyJ3_ok : ∀ k, k < 0 → parseFieldDescriptor (TJ3 k).2.2.1 = some (tyJ3 k) := by decide +kernel
abbrev cJ3_checkIndex_8e157 : ByteArray := prog_12_method_11_code
def yJ3_checkIndex_8e157 : MethodName := ⟨RJ3, "checkIndex", "(IILjava/util/function/BiFunction;)I"⟩
def RL : String := "LeakCarouselLaw"
abbrev cL_cell : ByteArray := method_2_code
def yL_cell : MethodName := ⟨RL, "cell", "([II)I"⟩
abbrev cL_low : ByteArray := method_3_code
def yL_low : MethodName := ⟨RL, "low", "(II)I"⟩
abbrev cL_digest : ByteArray := method_4_code
def yL_digest : MethodName := ⟨RL, "digest", "(LLeakCarousel;)J"⟩
abbrev cL_parts : ByteArray := method_5_code
def yL_parts : MethodName := ⟨RL, "parts", "(LLeakCarousel;)Z"⟩
abbrev cL_traces : ByteArray := method_6_code
def yL_traces : MethodName := ⟨RL, "traces", "(LLeakCarousel;I)Z"⟩
abbrev cL_heads : ByteArray := method_7_code
def yL_heads : MethodName := ⟨RL, "heads", "(LLeakCarousel;)Z"⟩
abbrev cL_sound : ByteArray := method_8_code
def yL_sound : MethodName := ⟨RL, "sound", "(LLeakCarousel;)Z"⟩
abbrev cL_bits : ByteArray := method_9_code
def yL_bits : MethodName := ⟨RL, "bits", "(II)J"⟩
abbrev cL_sets : ByteArray := method_10_code
def yL_sets : MethodName := ⟨RL, "sets", "(LLeakCarousel;III)Z"⟩
abbrev cL_command : ByteArray := method_11_code
def yL_command : MethodName := ⟨RL, "command", "(LLeakCarousel;I)I"⟩
abbrev cL_commands : ByteArray := method_12_code
def yL_commands : MethodName := ⟨RL, "commands", "(LLeakCarousel;I)Z"⟩
abbrev cL_runs : ByteArray := method_13_code
def yL_runs : MethodName := ⟨RL, "runs", "(LLeakCarousel;II)Z"⟩
abbrev cL_adds : ByteArray := method_14_code
def yL_adds : MethodName := ⟨RL, "adds", "(LLeakCarousel;II)Z"⟩
abbrev cL_law : ByteArray := code
def yL_law : MethodName := ⟨RL, "law", "([I)Z"⟩
abbrev vwCl : List vw_C := [(RX0, TX0, 10), (RX1, TX1, 14), (RX2, TX2, 11), (RX3, TX3, 4), (RX4, TX4, 2), (RX5, TX5, 6)] ++ [(RX5, TX5, 6)]
theorem inX0 : ∀ w ∈ wsX00, w ∈ lw_tbl := by decide +kernel
theorem inX1 : ∀ w ∈ wsX10, w ∈ lw_tbl := by decide +kernel
theorem inX2 : ∀ w ∈ wsX20, w ∈ lw_tbl := by decide +kernel
theorem inX3 : ∀ w ∈ wsX30, w ∈ lw_tbl := by decide +kernel
theorem inX4 : ∀ w ∈ wsX40, w ∈ lw_tbl := by decide +kernel
theorem inX5 : ∀ w ∈ wsX50, w ∈ lw_tbl := by decide +kernel
/-- the words of the tables that hold on at every state of the run -/
def lwG : List Cond := lw_tbl.filter goodWord
theorem lwG_of {w : Cond} (h : w ∈ lw_tbl) (g : goodWord w = true) : w ∈ lwG := List.mem_filter.mpr ⟨h, g⟩
theorem lwG_lay {C : String} {T : u_T} {N : Nat} (h : ∀ w ∈ u_ws C T N, w ∈ lw_tbl) (g : (u_ws C T N).all goodWord = true) : ∀ w ∈ u_ws C T N, w ∈ lwG := fun w hw => lwG_of (h w hw) (List.all_eq_true.mp g w hw)
theorem inlX0 : ∀ w ∈ wsX00, w ∈ lwG := lwG_lay inX0 (by decide +kernel)
theorem inlX1 : ∀ w ∈ wsX10, w ∈ lwG := lwG_lay inX1 (by decide +kernel)
theorem inlX2 : ∀ w ∈ wsX20, w ∈ lwG := lwG_lay inX2 (by decide +kernel)
theorem inlX3 : ∀ w ∈ wsX30, w ∈ lwG := lwG_lay inX3 (by decide +kernel)
theorem inlX4 : ∀ w ∈ wsX40, w ∈ lwG := lwG_lay inX4 (by decide +kernel)
theorem inlX5 : ∀ w ∈ wsX50, w ∈ lwG := lwG_lay inX5 (by decide +kernel)
theorem tb1 : ∀ w ∈ tables_1_1, w ∈ lw_tbl := fun _ h => List.mem_append_right _ (List.mem_append_left _ h)
theorem tb2 : ∀ w ∈ tables_1_2, w ∈ lw_tbl := fun _ h => List.mem_append_right _ (List.mem_append_right _ (List.mem_append_left _ h))
theorem tb0 : ∀ w ∈ k2_sels lw_privs, w ∈ lw_tbl := fun _ h => List.mem_append_left _ h
theorem tb3 : ∀ w ∈ tables_1_3, w ∈ lw_tbl := fun _ h => List.mem_append_right _ (List.mem_append_right _ (List.mem_append_right _ h))
