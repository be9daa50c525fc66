/-! ===== BEGIN words of one list among another's, by their places ===== -/
theorem goodIn_r {big : List Cond} (ws : List Cond) (ps : List Nat) (hp : ws = ps.filterMap (fun i => big[i]?)) (h : ws.all goodWord = true) : GoodIn big ws := by
  intro w hw
  have h1 := List.all_eq_true.mp h w hw
  rw [hp] at hw
  obtain ⟨i, -, hi⟩ := List.mem_filterMap.mp hw
  have hm : w ∈ big := by first | exact List.mem_of_getElem? hi | exact List.getElem?_mem hi
  exact ⟨hm, good_of_word h1⟩
theorem goodIn_app {big a b : List Cond} (ha : GoodIn big a) (hb : GoodIn big b) : GoodIn big (a ++ b) := fun w h => (List.mem_append.mp h).elim (ha w) (hb w)
theorem goodIn_ca {big a b : List Cond} {c : Cond} (ha : GoodIn big (c :: a)) (hb : GoodIn big b) : GoodIn big (c :: (a ++ b)) := fun w h => (List.mem_cons.mp h).elim (fun e => ha w (List.mem_cons.mpr (Or.inl e))) (fun h => (List.mem_append.mp h).elim (fun h => ha w (List.mem_cons.mpr (Or.inr h))) (hb w))
theorem goodIn_sub {big ws : List Cond} (hm : ∀ w ∈ ws, w ∈ big) (h : ws.all goodWord = true) : GoodIn big ws := fun w hw => ⟨hm w hw, good_of_word (List.all_eq_true.mp h w hw)⟩
/-! ===== END ===== -/

/-! ===== BEGIN printed: names, fields, word lists, decode rows ===== -/
def RX0 : String := "WarmProbes$Board"
def TX0 : u_T := fun k => match k with
  | 0 => ("WarmProbes$Board", "settings", "[I", true)
  | 1 => ("WarmProbes$Board", "nets", "[I", true)
  | 2 => ("WarmProbes$Board", "fed", "[I", true)
  | 3 => ("WarmProbes$Board", "touches", "I", false)
  | 4 => ("WarmProbes$Board", "touchPlaces", "[I", true)
  | 5 => ("WarmProbes$Board", "touchOthers", "[I", true)
  | 6 => ("WarmProbes$Board", "steps", "I", false)
  | 7 => ("WarmProbes$Board", "warmth", "[F", true)
  | 8 => ("WarmProbes$Board", "nextWarmth", "[F", true)
  | 9 => ("WarmProbes$Board", "readings", "I", false)
  | 10 => ("WarmProbes$Board", "readingPlaces", "[I", true)
  | 11 => ("WarmProbes$Board", "readingReads", "[I", true)
  | _ => ("WarmProbes$Board", "readingSteps", "[I", true)
def tyX0 : Nat → FieldType := fun k => match k with
  | 0 => .array .int
  | 1 => .array .int
  | 2 => .array .int
  | 3 => .int
  | 4 => .array .int
  | 5 => .array .int
  | 6 => .int
  | 7 => .array .float
  | 8 => .array .float
  | 9 => .int
  | 10 => .array .int
  | 11 => .array .int
  | _ => .array .int
abbrev wsX00 : List Cond := u_ws RX0 TX0 13
theorem nmX0 : ∀ a, a < 13 → ∀ b, b < 13 → a ≠ b → (TX0 a).2.1 ≠ (TX0 b).2.1 := by decide +kernel
theorem tyX0_ok : ∀ k, k < 13 → parseFieldDescriptor (TX0 k).2.2.1 = some (tyX0 k) := by decide +kernel
abbrev cX0_init : ByteArray := prog_2_method_1_code
def yX0_init : MethodName := ⟨RX0, "<init>", "()V"⟩
abbrev cX0_takeOver : ByteArray := prog_2_method_2_code
def yX0_takeOver : MethodName := ⟨RX0, "takeOver", "(LWarmProbes$Board;)V"⟩
abbrev cX0_beginRun : ByteArray := prog_2_method_3_code
def yX0_beginRun : MethodName := ⟨RX0, "beginRun", "()V"⟩
abbrev cX0_change : ByteArray := prog_2_method_4_code
def yX0_change : MethodName := ⟨RX0, "change", "(II)I"⟩
abbrev cX0_lay : ByteArray := prog_2_method_5_code
def yX0_lay : MethodName := ⟨RX0, "lay", "(III)I"⟩
abbrev cX0_isNeededByTouch : ByteArray := prog_2_method_6_code
def yX0_isNeededByTouch : MethodName := ⟨RX0, "isNeededByTouch", "(I)Z"⟩
abbrev cX0_join : ByteArray := prog_2_method_7_code
def yX0_join : MethodName := ⟨RX0, "join", "(III)I"⟩
abbrev cX0_hasNeighbourOf : ByteArray := prog_2_method_8_code
def yX0_hasNeighbourOf : MethodName := ⟨RX0, "hasNeighbourOf", "(II)Z"⟩
abbrev cX0_part : ByteArray := prog_2_method_9_code
def yX0_part : MethodName := ⟨RX0, "part", "(I)I"⟩
abbrev cX0_turnPair : ByteArray := prog_2_method_10_code
def yX0_turnPair : MethodName := ⟨RX0, "turnPair", "(II)I"⟩
abbrev cX0_isFed : ByteArray := prog_2_method_11_code
def yX0_isFed : MethodName := ⟨RX0, "isFed", "(II)Z"⟩
abbrev cX0_letPass : ByteArray := prog_2_method_12_code
def yX0_letPass : MethodName := ⟨RX0, "letPass", "(I)I"⟩
abbrev cX0_passOne : ByteArray := prog_2_method_13_code
def yX0_passOne : MethodName := ⟨RX0, "passOne", "(J)V"⟩
abbrev cX0_measure : ByteArray := prog_2_method_14_code
def yX0_measure : MethodName := ⟨RX0, "measure", "(II)I"⟩
abbrev cX0_touchAt : ByteArray := prog_2_method_15_code
def yX0_touchAt : MethodName := ⟨RX0, "touchAt", "(I)I"⟩
abbrev cX0_isLive : ByteArray := prog_2_method_16_code
def yX0_isLive : MethodName := ⟨RX0, "isLive", "(I)Z"⟩
abbrev cX0_heated : ByteArray := prog_2_method_17_code
def yX0_heated : MethodName := ⟨RX0, "heated", "()J"⟩
abbrev cX0_tracked : ByteArray := prog_2_method_18_code
def yX0_tracked : MethodName := ⟨RX0, "tracked", "()J"⟩
abbrev cX0_suspects : ByteArray := prog_2_method_19_code
def yX0_suspects : MethodName := ⟨RX0, "suspects", "()J"⟩
abbrev cX0_isSuspect : ByteArray := prog_2_method_20_code
def yX0_isSuspect : MethodName := ⟨RX0, "isSuspect", "(I)Z"⟩
abbrev cX0_placesOf : ByteArray := prog_2_method_21_code
def yX0_placesOf : MethodName := ⟨RX0, "placesOf", "(I)I"⟩
abbrev cX0_warmthOf : ByteArray := prog_2_method_22_code
def yX0_warmthOf : MethodName := ⟨RX0, "warmthOf", "(I)F"⟩
abbrev cX0_warmest : ByteArray := prog_2_method_23_code
def yX0_warmest : MethodName := ⟨RX0, "warmest", "()I"⟩
def RX1 : String := "WarmProbes$Lone"
def TX1 : u_T := fun k => match k with
  | 0 => ("WarmProbes$Lone", "settings", "[I", true)
  | 1 => ("WarmProbes$Lone", "fields", "[[F", true)
  | _ => ("WarmProbes$Lone", "steps", "[I", true)
def tyX1 : Nat → FieldType := fun k => match k with
  | 0 => .array .int
  | 1 => .array (.array .float)
  | _ => .array .int
abbrev wsX10 : List Cond := u_ws RX1 TX1 3
theorem nmX1 : ∀ a, a < 3 → ∀ b, b < 3 → a ≠ b → (TX1 a).2.1 ≠ (TX1 b).2.1 := by decide +kernel
theorem tyX1_ok : ∀ k, k < 3 → parseFieldDescriptor (TX1 k).2.2.1 = some (tyX1 k) := by decide +kernel
abbrev cX1_init : ByteArray := prog_3_method_1_code
def yX1_init : MethodName := ⟨RX1, "<init>", "()V"⟩
abbrev cX1_follow : ByteArray := prog_3_method_2_code
def yX1_follow : MethodName := ⟨RX1, "follow", "([I)V"⟩
abbrev cX1_warmthBy : ByteArray := prog_3_method_3_code
def yX1_warmthBy : MethodName := ⟨RX1, "warmthBy", "(III)F"⟩
def RX2 : String := "WarmProbes$Pad"
def TX2 : u_T := fun k => match k with
  | 0 => ("WarmProbes$Pad", "codes", "[I", true)
  | _ => ("WarmProbes$Pad", "length", "I", false)
def tyX2 : Nat → FieldType := fun k => match k with
  | 0 => .array .int
  | _ => .int
abbrev wsX20 : List Cond := u_ws RX2 TX2 2
theorem nmX2 : ∀ a, a < 2 → ∀ b, b < 2 → a ≠ b → (TX2 a).2.1 ≠ (TX2 b).2.1 := by decide +kernel
theorem tyX2_ok : ∀ k, k < 2 → parseFieldDescriptor (TX2 k).2.2.1 = some (tyX2 k) := by decide +kernel
abbrev cX2_init : ByteArray := prog_4_method_1_code
def yX2_init : MethodName := ⟨RX2, "<init>", "()V"⟩
def RX3 : String := "WarmProbes$Past"
def TX3 : u_T := fun k => match k with
  | 0 => ("WarmProbes$Past", "states", "[LWarmProbes$Board;", true)
  | _ => ("WarmProbes$Past", "size", "I", false)
def tyX3 : Nat → FieldType := fun k => match k with
  | 0 => .array (.object "WarmProbes$Board")
  | _ => .int
abbrev wsX30 : List Cond := u_ws RX3 TX3 2
theorem nmX3 : ∀ a, a < 2 → ∀ b, b < 2 → a ≠ b → (TX3 a).2.1 ≠ (TX3 b).2.1 := by decide +kernel
theorem tyX3_ok : ∀ k, k < 2 → parseFieldDescriptor (TX3 k).2.2.1 = some (tyX3 k) := by decide +kernel
abbrev cX3_init : ByteArray := prog_5_method_1_code
def yX3_init : MethodName := ⟨RX3, "<init>", "()V"⟩
abbrev cX3_prepare : ByteArray := prog_5_method_2_code
def yX3_prepare : MethodName := ⟨RX3, "prepare", "(LWarmProbes$Board;)V"⟩
abbrev cX3_kept : ByteArray := prog_5_method_3_code
def yX3_kept : MethodName := ⟨RX3, "kept", "(I)I"⟩
def RX4 : String := "WarmProbes$Suspicion"
def TX4 : u_T := fun k => match k with
  | 0 => ("WarmProbes$Suspicion", "lone", "LWarmProbes$Lone;", true)
  | _ => ("WarmProbes$Suspicion", "reads", "[I", true)
def tyX4 : Nat → FieldType := fun k => match k with
  | 0 => .object "WarmProbes$Lone"
  | _ => .array .int
abbrev wsX40 : List Cond := u_ws RX4 TX4 2
theorem nmX4 : ∀ a, a < 2 → ∀ b, b < 2 → a ≠ b → (TX4 a).2.1 ≠ (TX4 b).2.1 := by decide +kernel
theorem tyX4_ok : ∀ k, k < 2 → parseFieldDescriptor (TX4 k).2.2.1 = some (tyX4 k) := by decide +kernel
abbrev cX4_init : ByteArray := prog_6_method_1_code
def yX4_init : MethodName := ⟨RX4, "<init>", "()V"⟩
abbrev cX4_couldBe : ByteArray := prog_6_method_2_code
def yX4_couldBe : MethodName := ⟨RX4, "couldBe", "(LWarmProbes$Board;I)Z"⟩
abbrev cX4_fitting : ByteArray := prog_6_method_3_code
def yX4_fitting : MethodName := ⟨RX4, "fitting", "(LWarmProbes$Board;)J"⟩
abbrev cX4_pairs : ByteArray := prog_6_method_4_code
def yX4_pairs : MethodName := ⟨RX4, "pairs", "(LWarmProbes$Board;)I"⟩
abbrev cX4_couldBeOneOfTwo : ByteArray := prog_6_method_5_code
def yX4_couldBeOneOfTwo : MethodName := ⟨RX4, "couldBeOneOfTwo", "(LWarmProbes$Board;I)Z"⟩
abbrev cX4_fits : ByteArray := prog_6_method_6_code
def yX4_fits : MethodName := ⟨RX4, "fits", "(LWarmProbes$Board;II)Z"⟩
abbrev cX4_readBy : ByteArray := prog_6_method_7_code
def yX4_readBy : MethodName := ⟨RX4, "readBy", "(LWarmProbes$Board;II)I"⟩
def RX5 : String := "WarmProbes"
def TX5 : u_T := fun k => match k with
  | 0 => ("WarmProbes", "board", "LWarmProbes$Board;", true)
  | 1 => ("WarmProbes", "ahead", "LWarmProbes$Board;", true)
  | 2 => ("WarmProbes", "suspicion", "LWarmProbes$Suspicion;", true)
  | 3 => ("WarmProbes", "past", "LWarmProbes$Past;", true)
  | 4 => ("WarmProbes", "pad", "LWarmProbes$Pad;", true)
  | 5 => ("WarmProbes", "slots", "[LWarmProbes$Board;", true)
  | _ => ("WarmProbes", "isSaved", "[Z", true)
def tyX5 : Nat → FieldType := fun k => match k with
  | 0 => .object "WarmProbes$Board"
  | 1 => .object "WarmProbes$Board"
  | 2 => .object "WarmProbes$Suspicion"
  | 3 => .object "WarmProbes$Past"
  | 4 => .object "WarmProbes$Pad"
  | 5 => .array (.object "WarmProbes$Board")
  | _ => .array .boolean
abbrev wsX50 : List Cond := u_ws RX5 TX5 7
theorem nmX5 : ∀ a, a < 7 → ∀ b, b < 7 → a ≠ b → (TX5 a).2.1 ≠ (TX5 b).2.1 := by decide +kernel
theorem tyX5_ok : ∀ k, k < 7 → parseFieldDescriptor (TX5 k).2.2.1 = some (tyX5 k) := by decide +kernel
abbrev cX5_init : ByteArray := prog_1_method_1_code
def yX5_init : MethodName := ⟨RX5, "<init>", "()V"⟩
abbrev cX5_set : ByteArray := prog_1_method_2_code
def yX5_set : MethodName := ⟨RX5, "set", "(II)I"⟩
abbrev cX5_track : ByteArray := prog_1_method_3_code
def yX5_track : MethodName := ⟨RX5, "track", "(III)I"⟩
abbrev cX5_touch : ByteArray := prog_1_method_4_code
def yX5_touch : MethodName := ⟨RX5, "touch", "(III)I"⟩
abbrev cX5_mend : ByteArray := prog_1_method_5_code
def yX5_mend : MethodName := ⟨RX5, "mend", "(I)I"⟩
abbrev cX5_feed : ByteArray := prog_1_method_6_code
def yX5_feed : MethodName := ⟨RX5, "feed", "(II)I"⟩
abbrev cX5_cool : ByteArray := prog_1_method_7_code
def yX5_cool : MethodName := ⟨RX5, "cool", "()I"⟩
abbrev cX5_warm : ByteArray := prog_1_method_8_code
def yX5_warm : MethodName := ⟨RX5, "warm", "(I)I"⟩
abbrev cX5_probe : ByteArray := prog_1_method_9_code
def yX5_probe : MethodName := ⟨RX5, "probe", "(II)I"⟩
abbrev cX5_at : ByteArray := prog_1_method_10_code
def yX5_at : MethodName := ⟨RX5, "at", "(III)I"⟩
abbrev cX5_row : ByteArray := prog_1_method_11_code
def yX5_row : MethodName := ⟨RX5, "row", "(II)I"⟩
abbrev cX5_ofTouch : ByteArray := prog_1_method_12_code
def yX5_ofTouch : MethodName := ⟨RX5, "ofTouch", "(II)I"⟩
abbrev cX5_reading : ByteArray := prog_1_method_13_code
def yX5_reading : MethodName := ⟨RX5, "reading", "(II)I"⟩
abbrev cX5_ofNet : ByteArray := prog_1_method_14_code
def yX5_ofNet : MethodName := ⟨RX5, "ofNet", "(II)I"⟩
abbrev cX5_count : ByteArray := prog_1_method_15_code
def yX5_count : MethodName := ⟨RX5, "count", "(I)I"⟩
abbrev cX5_wouldRead : ByteArray := prog_1_method_19_code
def yX5_wouldRead : MethodName := ⟨RX5, "wouldRead", "(IIII)I"⟩
abbrev cX5_placeOf : ByteArray := prog_1_method_29_code
def yX5_placeOf : MethodName := ⟨RX5, "placeOf", "(II)I"⟩
abbrev cX5_neighbourOf : ByteArray := prog_1_method_30_code
def yX5_neighbourOf : MethodName := ⟨RX5, "neighbourOf", "(II)I"⟩
abbrev cX5_areNeighbours : ByteArray := prog_1_method_31_code
def yX5_areNeighbours : MethodName := ⟨RX5, "areNeighbours", "(II)Z"⟩
abbrev cX5_isNet : ByteArray := prog_1_method_32_code
def yX5_isNet : MethodName := ⟨RX5, "isNet", "(I)Z"⟩
abbrev cX5_isIn : ByteArray := prog_1_method_33_code
def yX5_isIn : MethodName := ⟨RX5, "isIn", "(JI)Z"⟩
abbrev cX5_columnsOf : ByteArray := prog_1_method_34_code
def yX5_columnsOf : MethodName := ⟨RX5, "columnsOf", "(JI)I"⟩
abbrev cX5_readOf : ByteArray := prog_1_method_35_code
def yX5_readOf : MethodName := ⟨RX5, "readOf", "(F)I"⟩
abbrev cX5_step : ByteArray := prog_1_method_36_code
def yX5_step : MethodName := ⟨RX5, "step", "([FI[FIJ[I)V"⟩
abbrev cX5_bitsOfFloat : ByteArray := prog_1_method_37_code
def yX5_bitsOfFloat : MethodName := ⟨RX5, "bitsOfFloat", "(F)I"⟩
def RX6 : String := "WarmProbesModel"
def TX6 : u_T := fun k => match k with
  | _ => ("", "", "", false)
def tyX6 : Nat → FieldType := fun k => match k with
  | _ => .int
abbrev wsX60 : List Cond := u_ws RX6 TX6 0
theorem nmX6 : ∀ a, a < 0 → ∀ b, b < 0 → a ≠ b → (TX6 a).2.1 ≠ (TX6 b).2.1 := by decide +kernel
theorem tyX6_ok : ∀ k, k < 0 → parseFieldDescriptor (TX6 k).2.2.1 = some (tyX6 k) := by decide +kernel
def RJ13 : String := "java/lang/Long"
def TJ13 : u_T := fun k => match k with
  | _ => ("", "", "", false)
def tyJ13 : Nat → FieldType := fun k => match k with
  | _ => .int
abbrev wsJ130 : List Cond := u_ws RJ13 TJ13 0
theorem nmJ13 : ∀ a, a < 0 → ∀ b, b < 0 → a ≠ b → (TJ13 a).2.1 ≠ (TJ13 b).2.1 := by decide +kernel
theorem tyJ13_ok : ∀ k, k < 0 → parseFieldDescriptor (TJ13 k).2.2.1 = some (tyJ13 k) := by decide +kernel
abbrev cJ13_bitCount_95d88 : ByteArray := prog_9_method_50_code
def yJ13_bitCount_95d88 : MethodName := ⟨RJ13, "bitCount", "(J)I"⟩
def RJ9 : String := "java/lang/Math"
def TJ9 : u_T := fun k => match k with
  | _ => ("", "", "", false)
def tyJ9 : Nat → FieldType := fun k => match k with
  | _ => .int
abbrev wsJ90 : List Cond := u_ws RJ9 TJ9 0
theorem nmJ9 : ∀ a, a < 0 → ∀ b, b < 0 → a ≠ b → (TJ9 a).2.1 ≠ (TJ9 b).2.1 := by decide +kernel
theorem tyJ9_ok : ∀ k, k < 0 → parseFieldDescriptor (TJ9 k).2.2.1 = some (tyJ9 k) := by decide +kernel
abbrev cJ9_abs_0f7a4 : ByteArray := prog_10_method_59_code
def yJ9_abs_0f7a4 : MethodName := ⟨RJ9, "abs", "(I)I"⟩
abbrev cJ9_max_7cf53 : ByteArray := prog_10_method_65_code
def yJ9_max_7cf53 : MethodName := ⟨RJ9, "max", "(II)I"⟩
abbrev cJ9_min_7cf53 : ByteArray := prog_10_method_69_code
def yJ9_min_7cf53 : MethodName := ⟨RJ9, "min", "(II)I"⟩
def RJ10 : String := "java/lang/System"
def TJ10 : u_T := fun k => match k with
  | _ => ("", "", "", false)
def tyJ10 : Nat → FieldType := fun k => match k with
  | _ => .int
abbrev wsJ100 : List Cond := u_ws RJ10 TJ10 0
theorem nmJ10 : ∀ a, a < 0 → ∀ b, b < 0 → a ≠ b → (TJ10 a).2.1 ≠ (TJ10 b).2.1 := by decide +kernel
theorem tyJ10_ok : ∀ k, k < 0 → parseFieldDescriptor (TJ10 k).2.2.1 = some (tyJ10 k) := by decide +kernel
def RL : String := "WarmProbesLaw"
abbrev cL_cell : ByteArray := method_2_code
def yL_cell : MethodName := ⟨RL, "cell", "([II)I"⟩
abbrev cL_low : ByteArray := method_3_code
def yL_low : MethodName := ⟨RL, "low", "(II)I"⟩
abbrev cL_net : ByteArray := method_4_code
def yL_net : MethodName := ⟨RL, "net", "(II[I)I"⟩
abbrev cL_beside : ByteArray := method_5_code
def yL_beside : MethodName := ⟨RL, "beside", "(II[I)I"⟩
abbrev cL_near : ByteArray := method_6_code
def yL_near : MethodName := ⟨RL, "near", "(II)Z"⟩
abbrev cL_fed : ByteArray := method_7_code
def yL_fed : MethodName := ⟨RL, "fed", "(II[I)Z"⟩
abbrev cL_suspect : ByteArray := method_8_code
def yL_suspect : MethodName := ⟨RL, "suspect", "(I[I[I)Z"⟩
abbrev cL_touch : ByteArray := method_9_code
def yL_touch : MethodName := ⟨RL, "touch", "(I[I[I)I"⟩
abbrev cL_live : ByteArray := method_10_code
def yL_live : MethodName := ⟨RL, "live", "([I[I[I[I)I"⟩
abbrev cL_same : ByteArray := method_11_code
def yL_same : MethodName := ⟨RL, "same", "(LWarmProbes;J[I[I[I[I[I)Z"⟩
abbrev cL_law : ByteArray := code
def yL_law : MethodName := ⟨RL, "law", "([I)Z"⟩
def wsX0_init : List Cond := .code yX0_init cX0_init 1 none :: ([.methodLink RX0 3 objectInit, .instanceMethod objectInit, .code objectInit ⟨#[0xb1]⟩ 1 none, .arrayClass .int, .fieldLink RX0 9 "WarmProbes$Board" "settings" "[I", .fieldLink RX0 15 "WarmProbes$Board" "nets" "[I", .fieldLink RX0 18 "WarmProbes$Board" "fed" "[I", .fieldLink RX0 21 "WarmProbes$Board" "touches" "I", .fieldLink RX0 25 "WarmProbes$Board" "touchPlaces" "[I", .fieldLink RX0 28 "WarmProbes$Board" "touchOthers" "[I", .fieldLink RX0 31 "WarmProbes$Board" "steps" "I", .arrayClass .float, .fieldLink RX0 34 "WarmProbes$Board" "warmth" "[F", .fieldLink RX0 38 "WarmProbes$Board" "nextWarmth" "[F", .fieldLink RX0 41 "WarmProbes$Board" "readings" "I", .fieldLink RX0 44 "WarmProbes$Board" "readingPlaces" "[I", .fieldLink RX0 47 "WarmProbes$Board" "readingReads" "[I", .fieldLink RX0 50 "WarmProbes$Board" "readingSteps" "[I", .methodLink RX0 56 arraycopyName, .native arraycopyName, .static arraycopyName, .initialized "java/lang/System"] ++ wsX00)
def wsX0_takeOver : List Cond := .code yX0_takeOver cX0_takeOver 2 none :: ([.fieldLink RX0 9 "WarmProbes$Board" "settings" "[I", .methodLink RX0 56 arraycopyName, .native arraycopyName, .static arraycopyName, .initialized "java/lang/System", .fieldLink RX0 15 "WarmProbes$Board" "nets" "[I", .fieldLink RX0 18 "WarmProbes$Board" "fed" "[I", .fieldLink RX0 21 "WarmProbes$Board" "touches" "I", .fieldLink RX0 25 "WarmProbes$Board" "touchPlaces" "[I", .fieldLink RX0 28 "WarmProbes$Board" "touchOthers" "[I", .fieldLink RX0 31 "WarmProbes$Board" "steps" "I", .fieldLink RX0 34 "WarmProbes$Board" "warmth" "[F", .fieldLink RX0 41 "WarmProbes$Board" "readings" "I", .fieldLink RX0 44 "WarmProbes$Board" "readingPlaces" "[I", .fieldLink RX0 47 "WarmProbes$Board" "readingReads" "[I", .fieldLink RX0 50 "WarmProbes$Board" "readingSteps" "[I"] ++ wsX00)
def wsX0_beginRun : List Cond := .code yX0_beginRun cX0_beginRun 2 none :: ([.fieldLink RX0 31 "WarmProbes$Board" "steps" "I", .fieldLink RX0 41 "WarmProbes$Board" "readings" "I", .fieldLink RX0 34 "WarmProbes$Board" "warmth" "[F"] ++ wsX00)
def wsX0_change : List Cond := .code yX0_change cX0_change 4 (some .int) :: ([.fieldLink RX0 9 "WarmProbes$Board" "settings" "[I", .methodLink RX0 68 yX0_beginRun, .instanceMethod yX0_beginRun, .selects RX0 yX0_beginRun yX0_beginRun, .initialized RX0, .code yX0_beginRun cX0_beginRun 2 none, .fieldLink RX0 31 "WarmProbes$Board" "steps" "I", .fieldLink RX0 41 "WarmProbes$Board" "readings" "I", .fieldLink RX0 34 "WarmProbes$Board" "warmth" "[F"] ++ wsX00)
def wsX5_placeOf : List Cond := .code yX5_placeOf cX5_placeOf 2 (some .int) :: ([])
def wsX5_isNet : List Cond := .code yX5_isNet cX5_isNet 1 (some .boolean) :: ([])
def wsX5_neighbourOf : List Cond := .code yX5_neighbourOf cX5_neighbourOf 2 (some .int) :: ([])
def wsX5_areNeighbours : List Cond := .code yX5_areNeighbours cX5_areNeighbours 3 (some .boolean) :: ([.methodLink RX5 253 yX5_neighbourOf, .static yX5_neighbourOf, .initialized RX5, .code yX5_neighbourOf cX5_neighbourOf 2 (some .int)])
def wsX0_isNeededByTouch : List Cond := .code yX0_isNeededByTouch cX0_isNeededByTouch 3 (some .boolean) :: ([.fieldLink RX0 21 "WarmProbes$Board" "touches" "I", .fieldLink RX0 25 "WarmProbes$Board" "touchPlaces" "[I", .fieldLink RX0 28 "WarmProbes$Board" "touchOthers" "[I", .fieldLink RX0 15 "WarmProbes$Board" "nets" "[I", .static yX5_areNeighbours, .initialized RX5, .code yX5_areNeighbours cX5_areNeighbours 3 (some .boolean), .methodLink RX5 253 yX5_neighbourOf, .static yX5_neighbourOf, .code yX5_neighbourOf cX5_neighbourOf 2 (some .int)] ++ wsX00)
def wsX0_lay_r1 : List Cond := [Cond.fieldLink RX0 15 "WarmProbes$Board" "nets" "[I", Cond.static yX5_placeOf, Cond.initialized RX5, Cond.code yX5_placeOf cX5_placeOf 2 (some .int), Cond.static yX5_isNet, Cond.code yX5_isNet cX5_isNet 1 (some .boolean), Cond.methodLink RX0 79 yX0_isNeededByTouch, Cond.instanceMethod yX0_isNeededByTouch, Cond.selects RX0 yX0_isNeededByTouch yX0_isNeededByTouch, Cond.initialized RX0, Cond.code yX0_isNeededByTouch cX0_isNeededByTouch 3 (some .boolean), Cond.fieldLink RX0 21 "WarmProbes$Board" "touches" "I", Cond.fieldLink RX0 25 "WarmProbes$Board" "touchPlaces" "[I", Cond.fieldLink RX0 28 "WarmProbes$Board" "touchOthers" "[I", Cond.static yX5_areNeighbours, Cond.code yX5_areNeighbours cX5_areNeighbours 3 (some .boolean), Cond.methodLink RX5 253 yX5_neighbourOf, Cond.static yX5_neighbourOf, Cond.code yX5_neighbourOf cX5_neighbourOf 2 (some .int), Cond.methodLink RX0 68 yX0_beginRun, Cond.instanceMethod yX0_beginRun, Cond.selects RX0 yX0_beginRun yX0_beginRun, Cond.code yX0_beginRun cX0_beginRun 2 none, Cond.fieldLink RX0 31 "WarmProbes$Board" "steps" "I"]
def wsX0_lay_r2 : List Cond := [Cond.fieldLink RX0 41 "WarmProbes$Board" "readings" "I", Cond.fieldLink RX0 34 "WarmProbes$Board" "warmth" "[F"]
def wsX0_lay : List Cond := .code yX0_lay cX0_lay 6 (some .int) :: ((wsX0_lay_r1 ++ wsX0_lay_r2) ++ wsX00)
def wsX0_touchAt : List Cond := .code yX0_touchAt cX0_touchAt 3 (some .int) :: ([.fieldLink RX0 21 "WarmProbes$Board" "touches" "I", .fieldLink RX0 25 "WarmProbes$Board" "touchPlaces" "[I"] ++ wsX00)
def wsX0_hasNeighbourOf : List Cond := .code yX0_hasNeighbourOf cX0_hasNeighbourOf 5 (some .boolean) :: ([.fieldLink RX0 15 "WarmProbes$Board" "nets" "[I", .static yX5_neighbourOf, .initialized RX5, .code yX5_neighbourOf cX5_neighbourOf 2 (some .int)] ++ wsX00)
def wsX0_join_r1 : List Cond := [Cond.fieldLink RX0 15 "WarmProbes$Board" "nets" "[I", Cond.fieldLink RX0 21 "WarmProbes$Board" "touches" "I", Cond.fieldLink RX0 25 "WarmProbes$Board" "touchPlaces" "[I", Cond.fieldLink RX0 28 "WarmProbes$Board" "touchOthers" "[I", Cond.static yX5_placeOf, Cond.initialized RX5, Cond.code yX5_placeOf cX5_placeOf 2 (some .int), Cond.static yX5_isNet, Cond.code yX5_isNet cX5_isNet 1 (some .boolean), Cond.methodLink RX0 86 yX0_touchAt, Cond.instanceMethod yX0_touchAt, Cond.selects RX0 yX0_touchAt yX0_touchAt, Cond.initialized RX0, Cond.code yX0_touchAt cX0_touchAt 3 (some .int), Cond.methodLink RX0 90 yX0_hasNeighbourOf, Cond.instanceMethod yX0_hasNeighbourOf, Cond.selects RX0 yX0_hasNeighbourOf yX0_hasNeighbourOf, Cond.code yX0_hasNeighbourOf cX0_hasNeighbourOf 5 (some .boolean), Cond.static yX5_neighbourOf, Cond.code yX5_neighbourOf cX5_neighbourOf 2 (some .int), Cond.methodLink RX0 68 yX0_beginRun, Cond.instanceMethod yX0_beginRun, Cond.selects RX0 yX0_beginRun yX0_beginRun, Cond.code yX0_beginRun cX0_beginRun 2 none]
def wsX0_join_r2 : List Cond := [Cond.fieldLink RX0 31 "WarmProbes$Board" "steps" "I", Cond.fieldLink RX0 41 "WarmProbes$Board" "readings" "I", Cond.fieldLink RX0 34 "WarmProbes$Board" "warmth" "[F"]
def wsX0_join : List Cond := .code yX0_join cX0_join 5 (some .int) :: ((wsX0_join_r1 ++ wsX0_join_r2) ++ wsX00)
def wsX0_part : List Cond := .code yX0_part cX0_part 3 (some .int) :: ([.fieldLink RX0 21 "WarmProbes$Board" "touches" "I", .fieldLink RX0 25 "WarmProbes$Board" "touchPlaces" "[I", .fieldLink RX0 28 "WarmProbes$Board" "touchOthers" "[I", .methodLink RX0 68 yX0_beginRun, .instanceMethod yX0_beginRun, .selects RX0 yX0_beginRun yX0_beginRun, .initialized RX0, .code yX0_beginRun cX0_beginRun 2 none, .fieldLink RX0 31 "WarmProbes$Board" "steps" "I", .fieldLink RX0 41 "WarmProbes$Board" "readings" "I", .fieldLink RX0 34 "WarmProbes$Board" "warmth" "[F"] ++ wsX00)
def wsX0_isFed : List Cond := .code yX0_isFed cX0_isFed 3 (some .boolean) :: ([.fieldLink RX0 18 "WarmProbes$Board" "fed" "[I"] ++ wsX00)
def wsX0_turnPair : List Cond := .code yX0_turnPair cX0_turnPair 3 (some .int) :: ([.fieldLink RX0 18 "WarmProbes$Board" "fed" "[I", .static yX5_isNet, .initialized RX5, .code yX5_isNet cX5_isNet 1 (some .boolean), .methodLink RX0 68 yX0_beginRun, .instanceMethod yX0_beginRun, .selects RX0 yX0_beginRun yX0_beginRun, .initialized RX0, .code yX0_beginRun cX0_beginRun 2 none, .fieldLink RX0 31 "WarmProbes$Board" "steps" "I", .fieldLink RX0 41 "WarmProbes$Board" "readings" "I", .fieldLink RX0 34 "WarmProbes$Board" "warmth" "[F", .methodLink RX0 96 yX0_isFed, .instanceMethod yX0_isFed, .selects RX0 yX0_isFed yX0_isFed, .code yX0_isFed cX0_isFed 3 (some .boolean)] ++ wsX00)
def wsX0_isLive : List Cond := .code yX0_isLive cX0_isLive 2 (some .boolean) :: ([.fieldLink RX0 15 "WarmProbes$Board" "nets" "[I", .fieldLink RX0 25 "WarmProbes$Board" "touchPlaces" "[I", .fieldLink RX0 28 "WarmProbes$Board" "touchOthers" "[I", .methodLink RX0 96 yX0_isFed, .instanceMethod yX0_isFed, .selects RX0 yX0_isFed yX0_isFed, .initialized RX0, .code yX0_isFed cX0_isFed 3 (some .boolean), .fieldLink RX0 18 "WarmProbes$Board" "fed" "[I"] ++ wsX00)
def wsX0_heated : List Cond := .code yX0_heated cX0_heated 4 (some .long) :: ([.fieldLink RX0 21 "WarmProbes$Board" "touches" "I", .fieldLink RX0 25 "WarmProbes$Board" "touchPlaces" "[I", .methodLink RX0 115 yX0_isLive, .instanceMethod yX0_isLive, .selects RX0 yX0_isLive yX0_isLive, .initialized RX0, .code yX0_isLive cX0_isLive 2 (some .boolean), .fieldLink RX0 15 "WarmProbes$Board" "nets" "[I", .fieldLink RX0 28 "WarmProbes$Board" "touchOthers" "[I", .methodLink RX0 96 yX0_isFed, .instanceMethod yX0_isFed, .selects RX0 yX0_isFed yX0_isFed, .code yX0_isFed cX0_isFed 3 (some .boolean), .fieldLink RX0 18 "WarmProbes$Board" "fed" "[I"] ++ wsX00)
def wsX5_isIn : List Cond := .code yX5_isIn cX5_isIn 3 (some .boolean) :: ([])
def wsX5_step : List Cond := .code yX5_step cX5_step 15 none :: ([.constantFloat RX5 259 (1120403456), .methodLink RX5 260 yX5_isIn, .static yX5_isIn, .initialized RX5, .code yX5_isIn cX5_isIn 3 (some .boolean)])
def wsX0_passOne : List Cond := .code yX0_passOne cX0_passOne 3 none :: ([.fieldLink RX0 34 "WarmProbes$Board" "warmth" "[F", .fieldLink RX0 38 "WarmProbes$Board" "nextWarmth" "[F", .fieldLink RX0 9 "WarmProbes$Board" "settings" "[I", .methodLink RX0 56 arraycopyName, .native arraycopyName, .static arraycopyName, .initialized "java/lang/System", .static yX5_step, .initialized RX5, .code yX5_step cX5_step 15 none, .constantFloat RX5 259 (1120403456), .methodLink RX5 260 yX5_isIn, .static yX5_isIn, .code yX5_isIn cX5_isIn 3 (some .boolean)] ++ wsX00)
def wsX0_letPass_r1 : List Cond := [Cond.fieldLink RX0 31 "WarmProbes$Board" "steps" "I", Cond.methodLink RX0 99 yX0_heated, Cond.instanceMethod yX0_heated, Cond.selects RX0 yX0_heated yX0_heated, Cond.initialized RX0, Cond.code yX0_heated cX0_heated 4 (some .long), Cond.fieldLink RX0 21 "WarmProbes$Board" "touches" "I", Cond.fieldLink RX0 25 "WarmProbes$Board" "touchPlaces" "[I", Cond.methodLink RX0 115 yX0_isLive, Cond.instanceMethod yX0_isLive, Cond.selects RX0 yX0_isLive yX0_isLive, Cond.code yX0_isLive cX0_isLive 2 (some .boolean), Cond.fieldLink RX0 15 "WarmProbes$Board" "nets" "[I", Cond.fieldLink RX0 28 "WarmProbes$Board" "touchOthers" "[I", Cond.methodLink RX0 96 yX0_isFed, Cond.instanceMethod yX0_isFed, Cond.selects RX0 yX0_isFed yX0_isFed, Cond.code yX0_isFed cX0_isFed 3 (some .boolean), Cond.fieldLink RX0 18 "WarmProbes$Board" "fed" "[I", Cond.methodLink RX0 103 yX0_passOne, Cond.instanceMethod yX0_passOne, Cond.selects RX0 yX0_passOne yX0_passOne, Cond.code yX0_passOne cX0_passOne 3 none, Cond.fieldLink RX0 34 "WarmProbes$Board" "warmth" "[F"]
def wsX0_letPass_r2 : List Cond := [Cond.fieldLink RX0 38 "WarmProbes$Board" "nextWarmth" "[F", Cond.fieldLink RX0 9 "WarmProbes$Board" "settings" "[I", Cond.methodLink RX0 56 arraycopyName, Cond.native arraycopyName, Cond.static arraycopyName, Cond.initialized "java/lang/System", Cond.static yX5_step, Cond.initialized RX5, Cond.code yX5_step cX5_step 15 none, Cond.constantFloat RX5 259 (1120403456), Cond.methodLink RX5 260 yX5_isIn, Cond.static yX5_isIn, Cond.code yX5_isIn cX5_isIn 3 (some .boolean)]
def wsX0_letPass : List Cond := .code yX0_letPass cX0_letPass 5 (some .int) :: ((wsX0_letPass_r1 ++ wsX0_letPass_r2) ++ wsX00)
def wsX5_readOf : List Cond := .code yX5_readOf cX5_readOf 1 (some .int) :: ([.constantFloat RX5 258 (1092616192)])
def wsX0_measure : List Cond := .code yX0_measure cX0_measure 5 (some .int) :: ([.fieldLink RX0 41 "WarmProbes$Board" "readings" "I", .fieldLink RX0 34 "WarmProbes$Board" "warmth" "[F", .fieldLink RX0 44 "WarmProbes$Board" "readingPlaces" "[I", .fieldLink RX0 47 "WarmProbes$Board" "readingReads" "[I", .fieldLink RX0 50 "WarmProbes$Board" "readingSteps" "[I", .fieldLink RX0 31 "WarmProbes$Board" "steps" "I", .static yX5_placeOf, .initialized RX5, .code yX5_placeOf cX5_placeOf 2 (some .int), .static yX5_readOf, .code yX5_readOf cX5_readOf 1 (some .int), .constantFloat RX5 258 (1092616192)] ++ wsX00)
def wsX0_tracked : List Cond := .code yX0_tracked cX0_tracked 4 (some .long) :: ([.fieldLink RX0 15 "WarmProbes$Board" "nets" "[I"] ++ wsX00)
def wsX0_isSuspect : List Cond := .code yX0_isSuspect cX0_isSuspect 4 (some .boolean) :: ([.fieldLink RX0 15 "WarmProbes$Board" "nets" "[I", .static yX5_neighbourOf, .initialized RX5, .code yX5_neighbourOf cX5_neighbourOf 2 (some .int), .methodLink RX0 96 yX0_isFed, .instanceMethod yX0_isFed, .selects RX0 yX0_isFed yX0_isFed, .initialized RX0, .code yX0_isFed cX0_isFed 3 (some .boolean), .fieldLink RX0 18 "WarmProbes$Board" "fed" "[I"] ++ wsX00)
def wsX0_suspects : List Cond := .code yX0_suspects cX0_suspects 4 (some .long) :: ([.methodLink RX0 118 yX0_isSuspect, .instanceMethod yX0_isSuspect, .selects RX0 yX0_isSuspect yX0_isSuspect, .initialized RX0, .code yX0_isSuspect cX0_isSuspect 4 (some .boolean), .fieldLink RX0 15 "WarmProbes$Board" "nets" "[I", .static yX5_neighbourOf, .initialized RX5, .code yX5_neighbourOf cX5_neighbourOf 2 (some .int), .methodLink RX0 96 yX0_isFed, .instanceMethod yX0_isFed, .selects RX0 yX0_isFed yX0_isFed, .code yX0_isFed cX0_isFed 3 (some .boolean), .fieldLink RX0 18 "WarmProbes$Board" "fed" "[I"] ++ wsX00)
def wsX0_placesOf : List Cond := .code yX0_placesOf cX0_placesOf 4 (some .int) :: ([.fieldLink RX0 15 "WarmProbes$Board" "nets" "[I"] ++ wsX00)
def wsX0_warmthOf : List Cond := .code yX0_warmthOf cX0_warmthOf 4 (some .float) :: ([.fieldLink RX0 15 "WarmProbes$Board" "nets" "[I", .fieldLink RX0 34 "WarmProbes$Board" "warmth" "[F"] ++ wsX00)
def wsX0_warmest : List Cond := .code yX0_warmest cX0_warmest 3 (some .int) :: ([.fieldLink RX0 34 "WarmProbes$Board" "warmth" "[F"] ++ wsX00)
def wsX1_init : List Cond := .code yX1_init cX1_init 1 none :: ([.methodLink RX1 3 objectInit, .instanceMethod objectInit, .code objectInit ⟨#[0xb1]⟩ 1 none, .arrayClass .int, .fieldLink RX1 9 "WarmProbes$Lone" "settings" "[I", .classLink RX1 15 "[F", .fieldLink RX1 17 "WarmProbes$Lone" "fields" "[[F", .fieldLink RX1 21 "WarmProbes$Lone" "steps" "[I"] ++ wsX10)
def wsX1_follow : List Cond := .code yX1_follow cX1_follow 3 none :: ([.fieldLink RX1 9 "WarmProbes$Lone" "settings" "[I", .methodLink RX1 24 arraycopyName, .native arraycopyName, .static arraycopyName, .initialized "java/lang/System", .fieldLink RX1 21 "WarmProbes$Lone" "steps" "[I"] ++ wsX10)
def wsX1_warmthBy : List Cond := .code yX1_warmthBy cX1_warmthBy 6 (some .float) :: ([.fieldLink RX1 17 "WarmProbes$Lone" "fields" "[[F", .arrayClass .float, .fieldLink RX1 21 "WarmProbes$Lone" "steps" "[I", .fieldLink RX1 9 "WarmProbes$Lone" "settings" "[I", .static yX5_step, .initialized RX5, .code yX5_step cX5_step 15 none, .constantFloat RX5 259 (1120403456), .methodLink RX5 260 yX5_isIn, .static yX5_isIn, .code yX5_isIn cX5_isIn 3 (some .boolean)] ++ wsX10)
def wsX2_init : List Cond := .code yX2_init cX2_init 1 none :: ([.methodLink RX2 3 objectInit, .instanceMethod objectInit, .code objectInit ⟨#[0xb1]⟩ 1 none, .arrayClass .int, .fieldLink RX2 9 "WarmProbes$Pad" "codes" "[I", .fieldLink RX2 15 "WarmProbes$Pad" "length" "I"] ++ wsX20)
def wsX3_init_r1 : List Cond := [Cond.methodLink RX3 3 objectInit, Cond.instanceMethod objectInit, Cond.code objectInit ⟨#[0xb1]⟩ 1 none, Cond.classLink RX3 9 RX0, Cond.fieldLink RX3 11 "WarmProbes$Past" "states" "[LWarmProbes$Board;", Cond.fieldLink RX3 17 "WarmProbes$Past" "size" "I", Cond.instantiable RX0 13, Cond.initialized RX0, Cond.instanceMethod yX0_init, Cond.code yX0_init cX0_init 1 none, Cond.methodLink RX0 3 objectInit, Cond.arrayClass .int, Cond.fieldLink RX0 9 "WarmProbes$Board" "settings" "[I", Cond.fieldLink RX0 15 "WarmProbes$Board" "nets" "[I", Cond.fieldLink RX0 18 "WarmProbes$Board" "fed" "[I", Cond.fieldLink RX0 21 "WarmProbes$Board" "touches" "I", Cond.fieldLink RX0 25 "WarmProbes$Board" "touchPlaces" "[I", Cond.fieldLink RX0 28 "WarmProbes$Board" "touchOthers" "[I", Cond.fieldLink RX0 31 "WarmProbes$Board" "steps" "I", Cond.arrayClass .float, Cond.fieldLink RX0 34 "WarmProbes$Board" "warmth" "[F", Cond.fieldLink RX0 38 "WarmProbes$Board" "nextWarmth" "[F", Cond.fieldLink RX0 41 "WarmProbes$Board" "readings" "I", Cond.fieldLink RX0 44 "WarmProbes$Board" "readingPlaces" "[I"]
def wsX3_init_r2 : List Cond := [Cond.fieldLink RX0 47 "WarmProbes$Board" "readingReads" "[I", Cond.fieldLink RX0 50 "WarmProbes$Board" "readingSteps" "[I", Cond.methodLink RX0 56 arraycopyName, Cond.native arraycopyName, Cond.static arraycopyName, Cond.initialized "java/lang/System"]
def wsX3_init : List Cond := .code yX3_init cX3_init 2 none :: ((wsX3_init_r1 ++ wsX3_init_r2) ++ wsX30 ++ wsX00)
def wsX3_prepare : List Cond := .code yX3_prepare cX3_prepare 2 none :: ([.fieldLink RX3 11 "WarmProbes$Past" "states" "[LWarmProbes$Board;", .fieldLink RX3 17 "WarmProbes$Past" "size" "I", .instanceMethod yX0_takeOver, .initialized RX0, .selects RX0 yX0_takeOver yX0_takeOver, .code yX0_takeOver cX0_takeOver 2 none, .fieldLink RX0 9 "WarmProbes$Board" "settings" "[I", .methodLink RX0 56 arraycopyName, .native arraycopyName, .static arraycopyName, .initialized "java/lang/System", .fieldLink RX0 15 "WarmProbes$Board" "nets" "[I", .fieldLink RX0 18 "WarmProbes$Board" "fed" "[I", .fieldLink RX0 21 "WarmProbes$Board" "touches" "I", .fieldLink RX0 25 "WarmProbes$Board" "touchPlaces" "[I", .fieldLink RX0 28 "WarmProbes$Board" "touchOthers" "[I", .fieldLink RX0 31 "WarmProbes$Board" "steps" "I", .fieldLink RX0 34 "WarmProbes$Board" "warmth" "[F", .fieldLink RX0 41 "WarmProbes$Board" "readings" "I", .fieldLink RX0 44 "WarmProbes$Board" "readingPlaces" "[I", .fieldLink RX0 47 "WarmProbes$Board" "readingReads" "[I", .fieldLink RX0 50 "WarmProbes$Board" "readingSteps" "[I"] ++ wsX30 ++ wsX00)
def wsX3_kept : List Cond := .code yX3_kept cX3_kept 4 (some .int) :: ([.fieldLink RX3 17 "WarmProbes$Past" "size" "I", .fieldLink RX3 11 "WarmProbes$Past" "states" "[LWarmProbes$Board;"] ++ wsX30)
def wsX4_init : List Cond := .code yX4_init cX4_init 1 none :: ([.methodLink RX4 3 objectInit, .instanceMethod objectInit, .code objectInit ⟨#[0xb1]⟩ 1 none, .classLink RX4 9 RX1, .instantiable RX1 3, .initialized RX1, .fieldLink RX4 12 "WarmProbes$Suspicion" "lone" "LWarmProbes$Lone;", .arrayClass .int, .fieldLink RX4 18 "WarmProbes$Suspicion" "reads" "[I", .instanceMethod yX1_init, .code yX1_init cX1_init 1 none, .methodLink RX1 3 objectInit, .fieldLink RX1 9 "WarmProbes$Lone" "settings" "[I", .classLink RX1 15 "[F", .fieldLink RX1 17 "WarmProbes$Lone" "fields" "[[F", .fieldLink RX1 21 "WarmProbes$Lone" "steps" "[I"] ++ wsX10 ++ wsX40)
def wsX4_fits_r1 : List Cond := [Cond.fieldLink RX4 12 "WarmProbes$Suspicion" "lone" "LWarmProbes$Lone;", Cond.methodLink RX4 81 Lib.Math.abs.name, Cond.static Lib.Math.abs.name, Cond.initialized "java/lang/Math", Cond.code Lib.Math.abs.name Lib.Math.abs.code 1 (some .int), Cond.instanceMethod yX1_follow, Cond.initialized RX1, Cond.selects RX1 yX1_follow yX1_follow, Cond.code yX1_follow cX1_follow 3 none, Cond.fieldLink RX1 9 "WarmProbes$Lone" "settings" "[I", Cond.methodLink RX1 24 arraycopyName, Cond.native arraycopyName, Cond.static arraycopyName, Cond.initialized "java/lang/System", Cond.fieldLink RX1 21 "WarmProbes$Lone" "steps" "[I", Cond.instanceMethod yX1_warmthBy, Cond.selects RX1 yX1_warmthBy yX1_warmthBy, Cond.code yX1_warmthBy cX1_warmthBy 6 (some .float), Cond.fieldLink RX1 17 "WarmProbes$Lone" "fields" "[[F", Cond.arrayClass .float, Cond.static yX5_step, Cond.initialized RX5, Cond.code yX5_step cX5_step 15 none, Cond.constantFloat RX5 259 (1120403456)]
def wsX4_fits_r2 : List Cond := [Cond.methodLink RX5 260 yX5_isIn, Cond.static yX5_isIn, Cond.code yX5_isIn cX5_isIn 3 (some .boolean), Cond.static yX5_readOf, Cond.code yX5_readOf cX5_readOf 1 (some .int), Cond.constantFloat RX5 258 (1092616192)]
def wsX4_fits : List Cond := .code yX4_fits cX4_fits 6 (some .boolean) :: ((wsX4_fits_r1 ++ wsX4_fits_r2) ++ wsX40 ++ wsX00 ++ wsX10)
def wsX4_couldBe_r1 : List Cond := [Cond.instanceMethod yX0_isSuspect, Cond.initialized RX0, Cond.selects RX0 yX0_isSuspect yX0_isSuspect, Cond.code yX0_isSuspect cX0_isSuspect 4 (some .boolean), Cond.fieldLink RX0 15 "WarmProbes$Board" "nets" "[I", Cond.static yX5_neighbourOf, Cond.initialized RX5, Cond.code yX5_neighbourOf cX5_neighbourOf 2 (some .int), Cond.methodLink RX0 96 yX0_isFed, Cond.instanceMethod yX0_isFed, Cond.selects RX0 yX0_isFed yX0_isFed, Cond.code yX0_isFed cX0_isFed 3 (some .boolean), Cond.fieldLink RX0 18 "WarmProbes$Board" "fed" "[I", Cond.methodLink RX4 28 yX4_fits, Cond.instanceMethod yX4_fits, Cond.selects RX4 yX4_fits yX4_fits, Cond.initialized RX4, Cond.code yX4_fits cX4_fits 6 (some .boolean), Cond.fieldLink RX4 12 "WarmProbes$Suspicion" "lone" "LWarmProbes$Lone;", Cond.methodLink RX4 81 Lib.Math.abs.name, Cond.static Lib.Math.abs.name, Cond.initialized "java/lang/Math", Cond.code Lib.Math.abs.name Lib.Math.abs.code 1 (some .int), Cond.instanceMethod yX1_follow]
def wsX4_couldBe_r2 : List Cond := [Cond.initialized RX1, Cond.selects RX1 yX1_follow yX1_follow, Cond.code yX1_follow cX1_follow 3 none, Cond.fieldLink RX1 9 "WarmProbes$Lone" "settings" "[I", Cond.methodLink RX1 24 arraycopyName, Cond.native arraycopyName, Cond.static arraycopyName, Cond.initialized "java/lang/System", Cond.fieldLink RX1 21 "WarmProbes$Lone" "steps" "[I", Cond.instanceMethod yX1_warmthBy, Cond.selects RX1 yX1_warmthBy yX1_warmthBy, Cond.code yX1_warmthBy cX1_warmthBy 6 (some .float), Cond.fieldLink RX1 17 "WarmProbes$Lone" "fields" "[[F", Cond.arrayClass .float, Cond.static yX5_step, Cond.code yX5_step cX5_step 15 none, Cond.constantFloat RX5 259 (1120403456), Cond.methodLink RX5 260 yX5_isIn, Cond.static yX5_isIn, Cond.code yX5_isIn cX5_isIn 3 (some .boolean), Cond.static yX5_readOf, Cond.code yX5_readOf cX5_readOf 1 (some .int), Cond.constantFloat RX5 258 (1092616192)]
def wsX4_couldBe : List Cond := .code yX4_couldBe cX4_couldBe 3 (some .boolean) :: ((wsX4_couldBe_r1 ++ wsX4_couldBe_r2) ++ wsX00 ++ wsX40 ++ wsX10)
def wsX4_fitting_r1 : List Cond := [Cond.methodLink RX4 32 yX4_couldBe, Cond.instanceMethod yX4_couldBe, Cond.selects RX4 yX4_couldBe yX4_couldBe, Cond.initialized RX4, Cond.code yX4_couldBe cX4_couldBe 3 (some .boolean), Cond.instanceMethod yX0_isSuspect, Cond.initialized RX0, Cond.selects RX0 yX0_isSuspect yX0_isSuspect, Cond.code yX0_isSuspect cX0_isSuspect 4 (some .boolean), Cond.fieldLink RX0 15 "WarmProbes$Board" "nets" "[I", Cond.static yX5_neighbourOf, Cond.initialized RX5, Cond.code yX5_neighbourOf cX5_neighbourOf 2 (some .int), Cond.methodLink RX0 96 yX0_isFed, Cond.instanceMethod yX0_isFed, Cond.selects RX0 yX0_isFed yX0_isFed, Cond.code yX0_isFed cX0_isFed 3 (some .boolean), Cond.fieldLink RX0 18 "WarmProbes$Board" "fed" "[I", Cond.methodLink RX4 28 yX4_fits, Cond.instanceMethod yX4_fits, Cond.selects RX4 yX4_fits yX4_fits, Cond.code yX4_fits cX4_fits 6 (some .boolean), Cond.fieldLink RX4 12 "WarmProbes$Suspicion" "lone" "LWarmProbes$Lone;", Cond.methodLink RX4 81 Lib.Math.abs.name]
def wsX4_fitting_r2 : List Cond := [Cond.static Lib.Math.abs.name, Cond.initialized "java/lang/Math", Cond.code Lib.Math.abs.name Lib.Math.abs.code 1 (some .int), Cond.instanceMethod yX1_follow, Cond.initialized RX1, Cond.selects RX1 yX1_follow yX1_follow, Cond.code yX1_follow cX1_follow 3 none, Cond.fieldLink RX1 9 "WarmProbes$Lone" "settings" "[I", Cond.methodLink RX1 24 arraycopyName, Cond.native arraycopyName, Cond.static arraycopyName, Cond.initialized "java/lang/System", Cond.fieldLink RX1 21 "WarmProbes$Lone" "steps" "[I", Cond.instanceMethod yX1_warmthBy, Cond.selects RX1 yX1_warmthBy yX1_warmthBy, Cond.code yX1_warmthBy cX1_warmthBy 6 (some .float), Cond.fieldLink RX1 17 "WarmProbes$Lone" "fields" "[[F", Cond.arrayClass .float, Cond.static yX5_step, Cond.code yX5_step cX5_step 15 none, Cond.constantFloat RX5 259 (1120403456), Cond.methodLink RX5 260 yX5_isIn, Cond.static yX5_isIn, Cond.code yX5_isIn cX5_isIn 3 (some .boolean)]
def wsX4_fitting_r3 : List Cond := [Cond.static yX5_readOf, Cond.code yX5_readOf cX5_readOf 1 (some .int), Cond.constantFloat RX5 258 (1092616192)]
def wsX4_fitting : List Cond := .code yX4_fitting cX4_fitting 5 (some .long) :: ((wsX4_fitting_r1 ++ (wsX4_fitting_r2 ++ wsX4_fitting_r3)) ++ wsX00 ++ wsX40 ++ wsX10)
def wsX4_pairs_r1 : List Cond := [Cond.instanceMethod yX0_suspects, Cond.initialized RX0, Cond.selects RX0 yX0_suspects yX0_suspects, Cond.code yX0_suspects cX0_suspects 4 (some .long), Cond.methodLink RX0 118 yX0_isSuspect, Cond.instanceMethod yX0_isSuspect, Cond.selects RX0 yX0_isSuspect yX0_isSuspect, Cond.code yX0_isSuspect cX0_isSuspect 4 (some .boolean), Cond.fieldLink RX0 15 "WarmProbes$Board" "nets" "[I", Cond.static yX5_neighbourOf, Cond.initialized RX5, Cond.code yX5_neighbourOf cX5_neighbourOf 2 (some .int), Cond.methodLink RX0 96 yX0_isFed, Cond.instanceMethod yX0_isFed, Cond.selects RX0 yX0_isFed yX0_isFed, Cond.code yX0_isFed cX0_isFed 3 (some .boolean), Cond.fieldLink RX0 18 "WarmProbes$Board" "fed" "[I", Cond.static yX5_isIn, Cond.code yX5_isIn cX5_isIn 3 (some .boolean), Cond.methodLink RX4 28 yX4_fits, Cond.instanceMethod yX4_fits, Cond.selects RX4 yX4_fits yX4_fits, Cond.initialized RX4, Cond.code yX4_fits cX4_fits 6 (some .boolean)]
def wsX4_pairs_r2 : List Cond := [Cond.fieldLink RX4 12 "WarmProbes$Suspicion" "lone" "LWarmProbes$Lone;", Cond.methodLink RX4 81 Lib.Math.abs.name, Cond.static Lib.Math.abs.name, Cond.initialized "java/lang/Math", Cond.code Lib.Math.abs.name Lib.Math.abs.code 1 (some .int), Cond.instanceMethod yX1_follow, Cond.initialized RX1, Cond.selects RX1 yX1_follow yX1_follow, Cond.code yX1_follow cX1_follow 3 none, Cond.fieldLink RX1 9 "WarmProbes$Lone" "settings" "[I", Cond.methodLink RX1 24 arraycopyName, Cond.native arraycopyName, Cond.static arraycopyName, Cond.initialized "java/lang/System", Cond.fieldLink RX1 21 "WarmProbes$Lone" "steps" "[I", Cond.instanceMethod yX1_warmthBy, Cond.selects RX1 yX1_warmthBy yX1_warmthBy, Cond.code yX1_warmthBy cX1_warmthBy 6 (some .float), Cond.fieldLink RX1 17 "WarmProbes$Lone" "fields" "[[F", Cond.arrayClass .float, Cond.static yX5_step, Cond.code yX5_step cX5_step 15 none, Cond.constantFloat RX5 259 (1120403456), Cond.methodLink RX5 260 yX5_isIn]
def wsX4_pairs_r3 : List Cond := [Cond.static yX5_readOf, Cond.code yX5_readOf cX5_readOf 1 (some .int), Cond.constantFloat RX5 258 (1092616192)]
def wsX4_pairs : List Cond := .code yX4_pairs cX4_pairs 7 (some .int) :: ((wsX4_pairs_r1 ++ (wsX4_pairs_r2 ++ wsX4_pairs_r3)) ++ wsX00 ++ wsX40 ++ wsX10)
def wsX4_couldBeOneOfTwo_r1 : List Cond := [Cond.methodLink RX4 44 Lib.Math.min.name, Cond.static Lib.Math.min.name, Cond.initialized "java/lang/Math", Cond.code Lib.Math.min.name Lib.Math.min.code 2 (some .int), Cond.methodLink RX4 50 Lib.Math.max.name, Cond.static Lib.Math.max.name, Cond.code Lib.Math.max.name Lib.Math.max.code 2 (some .int), Cond.instanceMethod yX0_isSuspect, Cond.initialized RX0, Cond.selects RX0 yX0_isSuspect yX0_isSuspect, Cond.code yX0_isSuspect cX0_isSuspect 4 (some .boolean), Cond.fieldLink RX0 15 "WarmProbes$Board" "nets" "[I", Cond.static yX5_neighbourOf, Cond.initialized RX5, Cond.code yX5_neighbourOf cX5_neighbourOf 2 (some .int), Cond.methodLink RX0 96 yX0_isFed, Cond.instanceMethod yX0_isFed, Cond.selects RX0 yX0_isFed yX0_isFed, Cond.code yX0_isFed cX0_isFed 3 (some .boolean), Cond.fieldLink RX0 18 "WarmProbes$Board" "fed" "[I", Cond.methodLink RX4 28 yX4_fits, Cond.instanceMethod yX4_fits, Cond.selects RX4 yX4_fits yX4_fits, Cond.initialized RX4]
def wsX4_couldBeOneOfTwo_r2 : List Cond := [Cond.code yX4_fits cX4_fits 6 (some .boolean), Cond.fieldLink RX4 12 "WarmProbes$Suspicion" "lone" "LWarmProbes$Lone;", Cond.methodLink RX4 81 Lib.Math.abs.name, Cond.static Lib.Math.abs.name, Cond.code Lib.Math.abs.name Lib.Math.abs.code 1 (some .int), Cond.instanceMethod yX1_follow, Cond.initialized RX1, Cond.selects RX1 yX1_follow yX1_follow, Cond.code yX1_follow cX1_follow 3 none, Cond.fieldLink RX1 9 "WarmProbes$Lone" "settings" "[I", Cond.methodLink RX1 24 arraycopyName, Cond.native arraycopyName, Cond.static arraycopyName, Cond.initialized "java/lang/System", Cond.fieldLink RX1 21 "WarmProbes$Lone" "steps" "[I", Cond.instanceMethod yX1_warmthBy, Cond.selects RX1 yX1_warmthBy yX1_warmthBy, Cond.code yX1_warmthBy cX1_warmthBy 6 (some .float), Cond.fieldLink RX1 17 "WarmProbes$Lone" "fields" "[[F", Cond.arrayClass .float, Cond.static yX5_step, Cond.code yX5_step cX5_step 15 none, Cond.constantFloat RX5 259 (1120403456), Cond.methodLink RX5 260 yX5_isIn]
def wsX4_couldBeOneOfTwo_r3 : List Cond := [Cond.static yX5_isIn, Cond.code yX5_isIn cX5_isIn 3 (some .boolean), Cond.static yX5_readOf, Cond.code yX5_readOf cX5_readOf 1 (some .int), Cond.constantFloat RX5 258 (1092616192)]
def wsX4_couldBeOneOfTwo : List Cond := .code yX4_couldBeOneOfTwo cX4_couldBeOneOfTwo 4 (some .boolean) :: ((wsX4_couldBeOneOfTwo_r1 ++ (wsX4_couldBeOneOfTwo_r2 ++ wsX4_couldBeOneOfTwo_r3)) ++ wsX00 ++ wsX40 ++ wsX10)
def wsX4_readBy_r1 : List Cond := [Cond.fieldLink RX4 12 "WarmProbes$Suspicion" "lone" "LWarmProbes$Lone;", Cond.instanceMethod yX1_follow, Cond.initialized RX1, Cond.selects RX1 yX1_follow yX1_follow, Cond.code yX1_follow cX1_follow 3 none, Cond.fieldLink RX1 9 "WarmProbes$Lone" "settings" "[I", Cond.methodLink RX1 24 arraycopyName, Cond.native arraycopyName, Cond.static arraycopyName, Cond.initialized "java/lang/System", Cond.fieldLink RX1 21 "WarmProbes$Lone" "steps" "[I", Cond.instanceMethod yX1_warmthBy, Cond.selects RX1 yX1_warmthBy yX1_warmthBy, Cond.code yX1_warmthBy cX1_warmthBy 6 (some .float), Cond.fieldLink RX1 17 "WarmProbes$Lone" "fields" "[[F", Cond.arrayClass .float, Cond.static yX5_step, Cond.initialized RX5, Cond.code yX5_step cX5_step 15 none, Cond.constantFloat RX5 259 (1120403456), Cond.methodLink RX5 260 yX5_isIn, Cond.static yX5_isIn, Cond.code yX5_isIn cX5_isIn 3 (some .boolean), Cond.static yX5_readOf]
def wsX4_readBy_r2 : List Cond := [Cond.code yX5_readOf cX5_readOf 1 (some .int), Cond.constantFloat RX5 258 (1092616192)]
def wsX4_readBy : List Cond := .code yX4_readBy cX4_readBy 4 (some .int) :: ((wsX4_readBy_r1 ++ wsX4_readBy_r2) ++ wsX40 ++ wsX00 ++ wsX10)
def wsX5_init_r1 : List Cond := [Cond.methodLink RX5 1 objectInit, Cond.instanceMethod objectInit, Cond.code objectInit ⟨#[0xb1]⟩ 1 none, Cond.classLink RX5 7 RX0, Cond.instantiable RX0 13, Cond.initialized RX0, Cond.fieldLink RX5 10 "WarmProbes" "board" "LWarmProbes$Board;", Cond.fieldLink RX5 16 "WarmProbes" "ahead" "LWarmProbes$Board;", Cond.classLink RX5 19 RX4, Cond.instantiable RX4 2, Cond.initialized RX4, Cond.fieldLink RX5 22 "WarmProbes" "suspicion" "LWarmProbes$Suspicion;", Cond.classLink RX5 26 RX3, Cond.instantiable RX3 2, Cond.initialized RX3, Cond.fieldLink RX5 29 "WarmProbes" "past" "LWarmProbes$Past;", Cond.classLink RX5 33 RX2, Cond.instantiable RX2 2, Cond.initialized RX2, Cond.fieldLink RX5 36 "WarmProbes" "pad" "LWarmProbes$Pad;", Cond.fieldLink RX5 40 "WarmProbes" "slots" "[LWarmProbes$Board;", Cond.arrayClass .boolean, Cond.fieldLink RX5 44 "WarmProbes" "isSaved" "[Z", Cond.instanceMethod yX0_init]
def wsX5_init_r2 : List Cond := [Cond.code yX0_init cX0_init 1 none, Cond.methodLink RX0 3 objectInit, Cond.arrayClass .int, Cond.fieldLink RX0 9 "WarmProbes$Board" "settings" "[I", Cond.fieldLink RX0 15 "WarmProbes$Board" "nets" "[I", Cond.fieldLink RX0 18 "WarmProbes$Board" "fed" "[I", Cond.fieldLink RX0 21 "WarmProbes$Board" "touches" "I", Cond.fieldLink RX0 25 "WarmProbes$Board" "touchPlaces" "[I", Cond.fieldLink RX0 28 "WarmProbes$Board" "touchOthers" "[I", Cond.fieldLink RX0 31 "WarmProbes$Board" "steps" "I", Cond.arrayClass .float, Cond.fieldLink RX0 34 "WarmProbes$Board" "warmth" "[F", Cond.fieldLink RX0 38 "WarmProbes$Board" "nextWarmth" "[F", Cond.fieldLink RX0 41 "WarmProbes$Board" "readings" "I", Cond.fieldLink RX0 44 "WarmProbes$Board" "readingPlaces" "[I", Cond.fieldLink RX0 47 "WarmProbes$Board" "readingReads" "[I", Cond.fieldLink RX0 50 "WarmProbes$Board" "readingSteps" "[I", Cond.methodLink RX0 56 arraycopyName, Cond.native arraycopyName, Cond.static arraycopyName, Cond.initialized "java/lang/System", Cond.instanceMethod yX4_init, Cond.code yX4_init cX4_init 1 none, Cond.methodLink RX4 3 objectInit]
def wsX5_init_r3 : List Cond := [Cond.classLink RX4 9 RX1, Cond.instantiable RX1 3, Cond.initialized RX1, Cond.fieldLink RX4 12 "WarmProbes$Suspicion" "lone" "LWarmProbes$Lone;", Cond.fieldLink RX4 18 "WarmProbes$Suspicion" "reads" "[I", Cond.instanceMethod yX1_init, Cond.code yX1_init cX1_init 1 none, Cond.methodLink RX1 3 objectInit, Cond.fieldLink RX1 9 "WarmProbes$Lone" "settings" "[I", Cond.classLink RX1 15 "[F", Cond.fieldLink RX1 17 "WarmProbes$Lone" "fields" "[[F", Cond.fieldLink RX1 21 "WarmProbes$Lone" "steps" "[I", Cond.instanceMethod yX3_init, Cond.code yX3_init cX3_init 2 none, Cond.methodLink RX3 3 objectInit, Cond.classLink RX3 9 RX0, Cond.fieldLink RX3 11 "WarmProbes$Past" "states" "[LWarmProbes$Board;", Cond.fieldLink RX3 17 "WarmProbes$Past" "size" "I", Cond.instanceMethod yX2_init, Cond.code yX2_init cX2_init 1 none, Cond.methodLink RX2 3 objectInit, Cond.fieldLink RX2 9 "WarmProbes$Pad" "codes" "[I", Cond.fieldLink RX2 15 "WarmProbes$Pad" "length" "I"]
def wsX5_init : List Cond := .code yX5_init cX5_init 2 none :: ((wsX5_init_r1 ++ (wsX5_init_r2 ++ wsX5_init_r3)) ++ wsX00 ++ wsX50 ++ wsX40 ++ wsX30 ++ wsX20 ++ wsX10)
def wsX5_set_r1 : List Cond := [Cond.fieldLink RX5 29 "WarmProbes" "past" "LWarmProbes$Past;", Cond.fieldLink RX5 10 "WarmProbes" "board" "LWarmProbes$Board;", Cond.instanceMethod yX3_prepare, Cond.initialized RX3, Cond.selects RX3 yX3_prepare yX3_prepare, Cond.code yX3_prepare cX3_prepare 2 none, Cond.fieldLink RX3 11 "WarmProbes$Past" "states" "[LWarmProbes$Board;", Cond.fieldLink RX3 17 "WarmProbes$Past" "size" "I", Cond.instanceMethod yX0_takeOver, Cond.initialized RX0, Cond.selects RX0 yX0_takeOver yX0_takeOver, Cond.code yX0_takeOver cX0_takeOver 2 none, Cond.fieldLink RX0 9 "WarmProbes$Board" "settings" "[I", Cond.methodLink RX0 56 arraycopyName, Cond.native arraycopyName, Cond.static arraycopyName, Cond.initialized "java/lang/System", Cond.fieldLink RX0 15 "WarmProbes$Board" "nets" "[I", Cond.fieldLink RX0 18 "WarmProbes$Board" "fed" "[I", Cond.fieldLink RX0 21 "WarmProbes$Board" "touches" "I", Cond.fieldLink RX0 25 "WarmProbes$Board" "touchPlaces" "[I", Cond.fieldLink RX0 28 "WarmProbes$Board" "touchOthers" "[I", Cond.fieldLink RX0 31 "WarmProbes$Board" "steps" "I", Cond.fieldLink RX0 34 "WarmProbes$Board" "warmth" "[F"]
def wsX5_set_r2 : List Cond := [Cond.fieldLink RX0 41 "WarmProbes$Board" "readings" "I", Cond.fieldLink RX0 44 "WarmProbes$Board" "readingPlaces" "[I", Cond.fieldLink RX0 47 "WarmProbes$Board" "readingReads" "[I", Cond.fieldLink RX0 50 "WarmProbes$Board" "readingSteps" "[I", Cond.instanceMethod yX0_change, Cond.selects RX0 yX0_change yX0_change, Cond.code yX0_change cX0_change 4 (some .int), Cond.methodLink RX0 68 yX0_beginRun, Cond.instanceMethod yX0_beginRun, Cond.selects RX0 yX0_beginRun yX0_beginRun, Cond.code yX0_beginRun cX0_beginRun 2 none, Cond.instanceMethod yX3_kept, Cond.selects RX3 yX3_kept yX3_kept, Cond.code yX3_kept cX3_kept 4 (some .int)]
def wsX5_set : List Cond := .code yX5_set cX5_set 3 (some .int) :: ((wsX5_set_r1 ++ wsX5_set_r2) ++ wsX50 ++ wsX30 ++ wsX00)
def wsX5_track_r1 : List Cond := [Cond.fieldLink RX5 29 "WarmProbes" "past" "LWarmProbes$Past;", Cond.fieldLink RX5 10 "WarmProbes" "board" "LWarmProbes$Board;", Cond.instanceMethod yX3_prepare, Cond.initialized RX3, Cond.selects RX3 yX3_prepare yX3_prepare, Cond.code yX3_prepare cX3_prepare 2 none, Cond.fieldLink RX3 11 "WarmProbes$Past" "states" "[LWarmProbes$Board;", Cond.fieldLink RX3 17 "WarmProbes$Past" "size" "I", Cond.instanceMethod yX0_takeOver, Cond.initialized RX0, Cond.selects RX0 yX0_takeOver yX0_takeOver, Cond.code yX0_takeOver cX0_takeOver 2 none, Cond.fieldLink RX0 9 "WarmProbes$Board" "settings" "[I", Cond.methodLink RX0 56 arraycopyName, Cond.native arraycopyName, Cond.static arraycopyName, Cond.initialized "java/lang/System", Cond.fieldLink RX0 15 "WarmProbes$Board" "nets" "[I", Cond.fieldLink RX0 18 "WarmProbes$Board" "fed" "[I", Cond.fieldLink RX0 21 "WarmProbes$Board" "touches" "I", Cond.fieldLink RX0 25 "WarmProbes$Board" "touchPlaces" "[I", Cond.fieldLink RX0 28 "WarmProbes$Board" "touchOthers" "[I", Cond.fieldLink RX0 31 "WarmProbes$Board" "steps" "I", Cond.fieldLink RX0 34 "WarmProbes$Board" "warmth" "[F"]
def wsX5_track_r2 : List Cond := [Cond.fieldLink RX0 41 "WarmProbes$Board" "readings" "I", Cond.fieldLink RX0 44 "WarmProbes$Board" "readingPlaces" "[I", Cond.fieldLink RX0 47 "WarmProbes$Board" "readingReads" "[I", Cond.fieldLink RX0 50 "WarmProbes$Board" "readingSteps" "[I", Cond.instanceMethod yX0_lay, Cond.selects RX0 yX0_lay yX0_lay, Cond.code yX0_lay cX0_lay 6 (some .int), Cond.static yX5_placeOf, Cond.initialized RX5, Cond.code yX5_placeOf cX5_placeOf 2 (some .int), Cond.static yX5_isNet, Cond.code yX5_isNet cX5_isNet 1 (some .boolean), Cond.methodLink RX0 79 yX0_isNeededByTouch, Cond.instanceMethod yX0_isNeededByTouch, Cond.selects RX0 yX0_isNeededByTouch yX0_isNeededByTouch, Cond.code yX0_isNeededByTouch cX0_isNeededByTouch 3 (some .boolean), Cond.static yX5_areNeighbours, Cond.code yX5_areNeighbours cX5_areNeighbours 3 (some .boolean), Cond.methodLink RX5 253 yX5_neighbourOf, Cond.static yX5_neighbourOf, Cond.code yX5_neighbourOf cX5_neighbourOf 2 (some .int), Cond.methodLink RX0 68 yX0_beginRun, Cond.instanceMethod yX0_beginRun, Cond.selects RX0 yX0_beginRun yX0_beginRun]
def wsX5_track_r3 : List Cond := [Cond.code yX0_beginRun cX0_beginRun 2 none, Cond.instanceMethod yX3_kept, Cond.selects RX3 yX3_kept yX3_kept, Cond.code yX3_kept cX3_kept 4 (some .int)]
def wsX5_track : List Cond := .code yX5_track cX5_track 4 (some .int) :: ((wsX5_track_r1 ++ (wsX5_track_r2 ++ wsX5_track_r3)) ++ wsX50 ++ wsX30 ++ wsX00)
def wsX5_touch_r1 : List Cond := [Cond.fieldLink RX5 29 "WarmProbes" "past" "LWarmProbes$Past;", Cond.fieldLink RX5 10 "WarmProbes" "board" "LWarmProbes$Board;", Cond.instanceMethod yX3_prepare, Cond.initialized RX3, Cond.selects RX3 yX3_prepare yX3_prepare, Cond.code yX3_prepare cX3_prepare 2 none, Cond.fieldLink RX3 11 "WarmProbes$Past" "states" "[LWarmProbes$Board;", Cond.fieldLink RX3 17 "WarmProbes$Past" "size" "I", Cond.instanceMethod yX0_takeOver, Cond.initialized RX0, Cond.selects RX0 yX0_takeOver yX0_takeOver, Cond.code yX0_takeOver cX0_takeOver 2 none, Cond.fieldLink RX0 9 "WarmProbes$Board" "settings" "[I", Cond.methodLink RX0 56 arraycopyName, Cond.native arraycopyName, Cond.static arraycopyName, Cond.initialized "java/lang/System", Cond.fieldLink RX0 15 "WarmProbes$Board" "nets" "[I", Cond.fieldLink RX0 18 "WarmProbes$Board" "fed" "[I", Cond.fieldLink RX0 21 "WarmProbes$Board" "touches" "I", Cond.fieldLink RX0 25 "WarmProbes$Board" "touchPlaces" "[I", Cond.fieldLink RX0 28 "WarmProbes$Board" "touchOthers" "[I", Cond.fieldLink RX0 31 "WarmProbes$Board" "steps" "I", Cond.fieldLink RX0 34 "WarmProbes$Board" "warmth" "[F"]
def wsX5_touch_r2 : List Cond := [Cond.fieldLink RX0 41 "WarmProbes$Board" "readings" "I", Cond.fieldLink RX0 44 "WarmProbes$Board" "readingPlaces" "[I", Cond.fieldLink RX0 47 "WarmProbes$Board" "readingReads" "[I", Cond.fieldLink RX0 50 "WarmProbes$Board" "readingSteps" "[I", Cond.instanceMethod yX0_join, Cond.selects RX0 yX0_join yX0_join, Cond.code yX0_join cX0_join 5 (some .int), Cond.static yX5_placeOf, Cond.initialized RX5, Cond.code yX5_placeOf cX5_placeOf 2 (some .int), Cond.static yX5_isNet, Cond.code yX5_isNet cX5_isNet 1 (some .boolean), Cond.methodLink RX0 86 yX0_touchAt, Cond.instanceMethod yX0_touchAt, Cond.selects RX0 yX0_touchAt yX0_touchAt, Cond.code yX0_touchAt cX0_touchAt 3 (some .int), Cond.methodLink RX0 90 yX0_hasNeighbourOf, Cond.instanceMethod yX0_hasNeighbourOf, Cond.selects RX0 yX0_hasNeighbourOf yX0_hasNeighbourOf, Cond.code yX0_hasNeighbourOf cX0_hasNeighbourOf 5 (some .boolean), Cond.static yX5_neighbourOf, Cond.code yX5_neighbourOf cX5_neighbourOf 2 (some .int), Cond.methodLink RX0 68 yX0_beginRun, Cond.instanceMethod yX0_beginRun]
def wsX5_touch_r3 : List Cond := [Cond.selects RX0 yX0_beginRun yX0_beginRun, Cond.code yX0_beginRun cX0_beginRun 2 none, Cond.instanceMethod yX3_kept, Cond.selects RX3 yX3_kept yX3_kept, Cond.code yX3_kept cX3_kept 4 (some .int)]
def wsX5_touch : List Cond := .code yX5_touch cX5_touch 4 (some .int) :: ((wsX5_touch_r1 ++ (wsX5_touch_r2 ++ wsX5_touch_r3)) ++ wsX50 ++ wsX30 ++ wsX00)
def wsX5_mend_r1 : List Cond := [Cond.fieldLink RX5 29 "WarmProbes" "past" "LWarmProbes$Past;", Cond.fieldLink RX5 10 "WarmProbes" "board" "LWarmProbes$Board;", Cond.instanceMethod yX3_prepare, Cond.initialized RX3, Cond.selects RX3 yX3_prepare yX3_prepare, Cond.code yX3_prepare cX3_prepare 2 none, Cond.fieldLink RX3 11 "WarmProbes$Past" "states" "[LWarmProbes$Board;", Cond.fieldLink RX3 17 "WarmProbes$Past" "size" "I", Cond.instanceMethod yX0_takeOver, Cond.initialized RX0, Cond.selects RX0 yX0_takeOver yX0_takeOver, Cond.code yX0_takeOver cX0_takeOver 2 none, Cond.fieldLink RX0 9 "WarmProbes$Board" "settings" "[I", Cond.methodLink RX0 56 arraycopyName, Cond.native arraycopyName, Cond.static arraycopyName, Cond.initialized "java/lang/System", Cond.fieldLink RX0 15 "WarmProbes$Board" "nets" "[I", Cond.fieldLink RX0 18 "WarmProbes$Board" "fed" "[I", Cond.fieldLink RX0 21 "WarmProbes$Board" "touches" "I", Cond.fieldLink RX0 25 "WarmProbes$Board" "touchPlaces" "[I", Cond.fieldLink RX0 28 "WarmProbes$Board" "touchOthers" "[I", Cond.fieldLink RX0 31 "WarmProbes$Board" "steps" "I", Cond.fieldLink RX0 34 "WarmProbes$Board" "warmth" "[F"]
def wsX5_mend_r2 : List Cond := [Cond.fieldLink RX0 41 "WarmProbes$Board" "readings" "I", Cond.fieldLink RX0 44 "WarmProbes$Board" "readingPlaces" "[I", Cond.fieldLink RX0 47 "WarmProbes$Board" "readingReads" "[I", Cond.fieldLink RX0 50 "WarmProbes$Board" "readingSteps" "[I", Cond.instanceMethod yX0_part, Cond.selects RX0 yX0_part yX0_part, Cond.code yX0_part cX0_part 3 (some .int), Cond.methodLink RX0 68 yX0_beginRun, Cond.instanceMethod yX0_beginRun, Cond.selects RX0 yX0_beginRun yX0_beginRun, Cond.code yX0_beginRun cX0_beginRun 2 none, Cond.instanceMethod yX3_kept, Cond.selects RX3 yX3_kept yX3_kept, Cond.code yX3_kept cX3_kept 4 (some .int)]
def wsX5_mend : List Cond := .code yX5_mend cX5_mend 2 (some .int) :: ((wsX5_mend_r1 ++ wsX5_mend_r2) ++ wsX50 ++ wsX30 ++ wsX00)
def wsX5_feed_r1 : List Cond := [Cond.fieldLink RX5 29 "WarmProbes" "past" "LWarmProbes$Past;", Cond.fieldLink RX5 10 "WarmProbes" "board" "LWarmProbes$Board;", Cond.instanceMethod yX3_prepare, Cond.initialized RX3, Cond.selects RX3 yX3_prepare yX3_prepare, Cond.code yX3_prepare cX3_prepare 2 none, Cond.fieldLink RX3 11 "WarmProbes$Past" "states" "[LWarmProbes$Board;", Cond.fieldLink RX3 17 "WarmProbes$Past" "size" "I", Cond.instanceMethod yX0_takeOver, Cond.initialized RX0, Cond.selects RX0 yX0_takeOver yX0_takeOver, Cond.code yX0_takeOver cX0_takeOver 2 none, Cond.fieldLink RX0 9 "WarmProbes$Board" "settings" "[I", Cond.methodLink RX0 56 arraycopyName, Cond.native arraycopyName, Cond.static arraycopyName, Cond.initialized "java/lang/System", Cond.fieldLink RX0 15 "WarmProbes$Board" "nets" "[I", Cond.fieldLink RX0 18 "WarmProbes$Board" "fed" "[I", Cond.fieldLink RX0 21 "WarmProbes$Board" "touches" "I", Cond.fieldLink RX0 25 "WarmProbes$Board" "touchPlaces" "[I", Cond.fieldLink RX0 28 "WarmProbes$Board" "touchOthers" "[I", Cond.fieldLink RX0 31 "WarmProbes$Board" "steps" "I", Cond.fieldLink RX0 34 "WarmProbes$Board" "warmth" "[F"]
def wsX5_feed_r2 : List Cond := [Cond.fieldLink RX0 41 "WarmProbes$Board" "readings" "I", Cond.fieldLink RX0 44 "WarmProbes$Board" "readingPlaces" "[I", Cond.fieldLink RX0 47 "WarmProbes$Board" "readingReads" "[I", Cond.fieldLink RX0 50 "WarmProbes$Board" "readingSteps" "[I", Cond.instanceMethod yX0_turnPair, Cond.selects RX0 yX0_turnPair yX0_turnPair, Cond.code yX0_turnPair cX0_turnPair 3 (some .int), Cond.static yX5_isNet, Cond.initialized RX5, Cond.code yX5_isNet cX5_isNet 1 (some .boolean), Cond.methodLink RX0 68 yX0_beginRun, Cond.instanceMethod yX0_beginRun, Cond.selects RX0 yX0_beginRun yX0_beginRun, Cond.code yX0_beginRun cX0_beginRun 2 none, Cond.methodLink RX0 96 yX0_isFed, Cond.instanceMethod yX0_isFed, Cond.selects RX0 yX0_isFed yX0_isFed, Cond.code yX0_isFed cX0_isFed 3 (some .boolean), Cond.instanceMethod yX3_kept, Cond.selects RX3 yX3_kept yX3_kept, Cond.code yX3_kept cX3_kept 4 (some .int)]
def wsX5_feed : List Cond := .code yX5_feed cX5_feed 3 (some .int) :: ((wsX5_feed_r1 ++ wsX5_feed_r2) ++ wsX50 ++ wsX30 ++ wsX00)
def wsX5_cool_r1 : List Cond := [Cond.fieldLink RX5 29 "WarmProbes" "past" "LWarmProbes$Past;", Cond.fieldLink RX5 10 "WarmProbes" "board" "LWarmProbes$Board;", Cond.instanceMethod yX3_prepare, Cond.initialized RX3, Cond.selects RX3 yX3_prepare yX3_prepare, Cond.code yX3_prepare cX3_prepare 2 none, Cond.fieldLink RX3 11 "WarmProbes$Past" "states" "[LWarmProbes$Board;", Cond.fieldLink RX3 17 "WarmProbes$Past" "size" "I", Cond.instanceMethod yX0_takeOver, Cond.initialized RX0, Cond.selects RX0 yX0_takeOver yX0_takeOver, Cond.code yX0_takeOver cX0_takeOver 2 none, Cond.fieldLink RX0 9 "WarmProbes$Board" "settings" "[I", Cond.methodLink RX0 56 arraycopyName, Cond.native arraycopyName, Cond.static arraycopyName, Cond.initialized "java/lang/System", Cond.fieldLink RX0 15 "WarmProbes$Board" "nets" "[I", Cond.fieldLink RX0 18 "WarmProbes$Board" "fed" "[I", Cond.fieldLink RX0 21 "WarmProbes$Board" "touches" "I", Cond.fieldLink RX0 25 "WarmProbes$Board" "touchPlaces" "[I", Cond.fieldLink RX0 28 "WarmProbes$Board" "touchOthers" "[I", Cond.fieldLink RX0 31 "WarmProbes$Board" "steps" "I", Cond.fieldLink RX0 34 "WarmProbes$Board" "warmth" "[F"]
def wsX5_cool_r2 : List Cond := [Cond.fieldLink RX0 41 "WarmProbes$Board" "readings" "I", Cond.fieldLink RX0 44 "WarmProbes$Board" "readingPlaces" "[I", Cond.fieldLink RX0 47 "WarmProbes$Board" "readingReads" "[I", Cond.fieldLink RX0 50 "WarmProbes$Board" "readingSteps" "[I", Cond.instanceMethod yX0_beginRun, Cond.selects RX0 yX0_beginRun yX0_beginRun, Cond.code yX0_beginRun cX0_beginRun 2 none, Cond.instanceMethod yX3_kept, Cond.selects RX3 yX3_kept yX3_kept, Cond.code yX3_kept cX3_kept 4 (some .int)]
def wsX5_cool : List Cond := .code yX5_cool cX5_cool 2 (some .int) :: ((wsX5_cool_r1 ++ wsX5_cool_r2) ++ wsX50 ++ wsX00 ++ wsX30)
def wsX5_warm_r1 : List Cond := [Cond.fieldLink RX5 29 "WarmProbes" "past" "LWarmProbes$Past;", Cond.fieldLink RX5 10 "WarmProbes" "board" "LWarmProbes$Board;", Cond.instanceMethod yX3_prepare, Cond.initialized RX3, Cond.selects RX3 yX3_prepare yX3_prepare, Cond.code yX3_prepare cX3_prepare 2 none, Cond.fieldLink RX3 11 "WarmProbes$Past" "states" "[LWarmProbes$Board;", Cond.fieldLink RX3 17 "WarmProbes$Past" "size" "I", Cond.instanceMethod yX0_takeOver, Cond.initialized RX0, Cond.selects RX0 yX0_takeOver yX0_takeOver, Cond.code yX0_takeOver cX0_takeOver 2 none, Cond.fieldLink RX0 9 "WarmProbes$Board" "settings" "[I", Cond.methodLink RX0 56 arraycopyName, Cond.native arraycopyName, Cond.static arraycopyName, Cond.initialized "java/lang/System", Cond.fieldLink RX0 15 "WarmProbes$Board" "nets" "[I", Cond.fieldLink RX0 18 "WarmProbes$Board" "fed" "[I", Cond.fieldLink RX0 21 "WarmProbes$Board" "touches" "I", Cond.fieldLink RX0 25 "WarmProbes$Board" "touchPlaces" "[I", Cond.fieldLink RX0 28 "WarmProbes$Board" "touchOthers" "[I", Cond.fieldLink RX0 31 "WarmProbes$Board" "steps" "I", Cond.fieldLink RX0 34 "WarmProbes$Board" "warmth" "[F"]
def wsX5_warm_r2 : List Cond := [Cond.fieldLink RX0 41 "WarmProbes$Board" "readings" "I", Cond.fieldLink RX0 44 "WarmProbes$Board" "readingPlaces" "[I", Cond.fieldLink RX0 47 "WarmProbes$Board" "readingReads" "[I", Cond.fieldLink RX0 50 "WarmProbes$Board" "readingSteps" "[I", Cond.instanceMethod yX0_letPass, Cond.selects RX0 yX0_letPass yX0_letPass, Cond.code yX0_letPass cX0_letPass 5 (some .int), Cond.methodLink RX0 99 yX0_heated, Cond.instanceMethod yX0_heated, Cond.selects RX0 yX0_heated yX0_heated, Cond.code yX0_heated cX0_heated 4 (some .long), Cond.methodLink RX0 115 yX0_isLive, Cond.instanceMethod yX0_isLive, Cond.selects RX0 yX0_isLive yX0_isLive, Cond.code yX0_isLive cX0_isLive 2 (some .boolean), Cond.methodLink RX0 96 yX0_isFed, Cond.instanceMethod yX0_isFed, Cond.selects RX0 yX0_isFed yX0_isFed, Cond.code yX0_isFed cX0_isFed 3 (some .boolean), Cond.methodLink RX0 103 yX0_passOne, Cond.instanceMethod yX0_passOne, Cond.selects RX0 yX0_passOne yX0_passOne, Cond.code yX0_passOne cX0_passOne 3 none, Cond.fieldLink RX0 38 "WarmProbes$Board" "nextWarmth" "[F"]
def wsX5_warm_r3 : List Cond := [Cond.static yX5_step, Cond.initialized RX5, Cond.code yX5_step cX5_step 15 none, Cond.constantFloat RX5 259 (1120403456), Cond.methodLink RX5 260 yX5_isIn, Cond.static yX5_isIn, Cond.code yX5_isIn cX5_isIn 3 (some .boolean), Cond.instanceMethod yX3_kept, Cond.selects RX3 yX3_kept yX3_kept, Cond.code yX3_kept cX3_kept 4 (some .int)]
def wsX5_warm : List Cond := .code yX5_warm cX5_warm 2 (some .int) :: ((wsX5_warm_r1 ++ (wsX5_warm_r2 ++ wsX5_warm_r3)) ++ wsX50 ++ wsX30 ++ wsX00)
def wsX5_probe_r1 : List Cond := [Cond.fieldLink RX5 29 "WarmProbes" "past" "LWarmProbes$Past;", Cond.fieldLink RX5 10 "WarmProbes" "board" "LWarmProbes$Board;", Cond.instanceMethod yX3_prepare, Cond.initialized RX3, Cond.selects RX3 yX3_prepare yX3_prepare, Cond.code yX3_prepare cX3_prepare 2 none, Cond.fieldLink RX3 11 "WarmProbes$Past" "states" "[LWarmProbes$Board;", Cond.fieldLink RX3 17 "WarmProbes$Past" "size" "I", Cond.instanceMethod yX0_takeOver, Cond.initialized RX0, Cond.selects RX0 yX0_takeOver yX0_takeOver, Cond.code yX0_takeOver cX0_takeOver 2 none, Cond.fieldLink RX0 9 "WarmProbes$Board" "settings" "[I", Cond.methodLink RX0 56 arraycopyName, Cond.native arraycopyName, Cond.static arraycopyName, Cond.initialized "java/lang/System", Cond.fieldLink RX0 15 "WarmProbes$Board" "nets" "[I", Cond.fieldLink RX0 18 "WarmProbes$Board" "fed" "[I", Cond.fieldLink RX0 21 "WarmProbes$Board" "touches" "I", Cond.fieldLink RX0 25 "WarmProbes$Board" "touchPlaces" "[I", Cond.fieldLink RX0 28 "WarmProbes$Board" "touchOthers" "[I", Cond.fieldLink RX0 31 "WarmProbes$Board" "steps" "I", Cond.fieldLink RX0 34 "WarmProbes$Board" "warmth" "[F"]
def wsX5_probe_r2 : List Cond := [Cond.fieldLink RX0 41 "WarmProbes$Board" "readings" "I", Cond.fieldLink RX0 44 "WarmProbes$Board" "readingPlaces" "[I", Cond.fieldLink RX0 47 "WarmProbes$Board" "readingReads" "[I", Cond.fieldLink RX0 50 "WarmProbes$Board" "readingSteps" "[I", Cond.instanceMethod yX0_measure, Cond.selects RX0 yX0_measure yX0_measure, Cond.code yX0_measure cX0_measure 5 (some .int), Cond.static yX5_placeOf, Cond.initialized RX5, Cond.code yX5_placeOf cX5_placeOf 2 (some .int), Cond.static yX5_readOf, Cond.code yX5_readOf cX5_readOf 1 (some .int), Cond.constantFloat RX5 258 (1092616192), Cond.instanceMethod yX3_kept, Cond.selects RX3 yX3_kept yX3_kept, Cond.code yX3_kept cX3_kept 4 (some .int)]
def wsX5_probe : List Cond := .code yX5_probe cX5_probe 3 (some .int) :: ((wsX5_probe_r1 ++ wsX5_probe_r2) ++ wsX50 ++ wsX30 ++ wsX00)
def wsX5_bitsOfFloat : List Cond := .code yX5_bitsOfFloat cX5_bitsOfFloat 4 (some .int) :: ([.constantFloat RX5 264 (1258291200), .constant RX5 265 (8388608)])
def wsX5_at_r1 : List Cond := [Cond.fieldLink RX5 10 "WarmProbes" "board" "LWarmProbes$Board;", Cond.fieldLink RX5 22 "WarmProbes" "suspicion" "LWarmProbes$Suspicion;", Cond.methodLink RX5 86 yX5_placeOf, Cond.static yX5_placeOf, Cond.initialized RX5, Cond.code yX5_placeOf cX5_placeOf 2 (some .int), Cond.methodLink RX5 97 yX5_bitsOfFloat, Cond.static yX5_bitsOfFloat, Cond.code yX5_bitsOfFloat cX5_bitsOfFloat 4 (some .int), Cond.constantFloat RX5 264 (1258291200), Cond.constant RX5 265 (8388608), Cond.methodLink RX5 101 yX5_readOf, Cond.static yX5_readOf, Cond.code yX5_readOf cX5_readOf 1 (some .int), Cond.constantFloat RX5 258 (1092616192), Cond.instanceMethod yX0_isSuspect, Cond.initialized RX0, Cond.selects RX0 yX0_isSuspect yX0_isSuspect, Cond.code yX0_isSuspect cX0_isSuspect 4 (some .boolean), Cond.fieldLink RX0 15 "WarmProbes$Board" "nets" "[I", Cond.static yX5_neighbourOf, Cond.code yX5_neighbourOf cX5_neighbourOf 2 (some .int), Cond.methodLink RX0 96 yX0_isFed, Cond.instanceMethod yX0_isFed]
def wsX5_at_r2 : List Cond := [Cond.selects RX0 yX0_isFed yX0_isFed, Cond.code yX0_isFed cX0_isFed 3 (some .boolean), Cond.fieldLink RX0 18 "WarmProbes$Board" "fed" "[I", Cond.instanceMethod yX4_couldBe, Cond.initialized RX4, Cond.selects RX4 yX4_couldBe yX4_couldBe, Cond.code yX4_couldBe cX4_couldBe 3 (some .boolean), Cond.methodLink RX4 28 yX4_fits, Cond.instanceMethod yX4_fits, Cond.selects RX4 yX4_fits yX4_fits, Cond.code yX4_fits cX4_fits 6 (some .boolean), Cond.fieldLink RX4 12 "WarmProbes$Suspicion" "lone" "LWarmProbes$Lone;", Cond.methodLink RX4 81 Lib.Math.abs.name, Cond.static Lib.Math.abs.name, Cond.initialized "java/lang/Math", Cond.code Lib.Math.abs.name Lib.Math.abs.code 1 (some .int), Cond.instanceMethod yX1_follow, Cond.initialized RX1, Cond.selects RX1 yX1_follow yX1_follow, Cond.code yX1_follow cX1_follow 3 none, Cond.fieldLink RX1 9 "WarmProbes$Lone" "settings" "[I", Cond.methodLink RX1 24 arraycopyName, Cond.native arraycopyName, Cond.static arraycopyName]
def wsX5_at_r3 : List Cond := [Cond.initialized "java/lang/System", Cond.fieldLink RX1 21 "WarmProbes$Lone" "steps" "[I", Cond.instanceMethod yX1_warmthBy, Cond.selects RX1 yX1_warmthBy yX1_warmthBy, Cond.code yX1_warmthBy cX1_warmthBy 6 (some .float), Cond.fieldLink RX1 17 "WarmProbes$Lone" "fields" "[[F", Cond.arrayClass .float, Cond.static yX5_step, Cond.code yX5_step cX5_step 15 none, Cond.constantFloat RX5 259 (1120403456), Cond.methodLink RX5 260 yX5_isIn, Cond.static yX5_isIn, Cond.code yX5_isIn cX5_isIn 3 (some .boolean), Cond.instanceMethod yX4_couldBeOneOfTwo, Cond.selects RX4 yX4_couldBeOneOfTwo yX4_couldBeOneOfTwo, Cond.code yX4_couldBeOneOfTwo cX4_couldBeOneOfTwo 4 (some .boolean), Cond.methodLink RX4 44 Lib.Math.min.name, Cond.static Lib.Math.min.name, Cond.code Lib.Math.min.name Lib.Math.min.code 2 (some .int), Cond.methodLink RX4 50 Lib.Math.max.name, Cond.static Lib.Math.max.name, Cond.code Lib.Math.max.name Lib.Math.max.code 2 (some .int), Cond.instanceMethod yX0_touchAt, Cond.selects RX0 yX0_touchAt yX0_touchAt]
def wsX5_at_r4 : List Cond := [Cond.code yX0_touchAt cX0_touchAt 3 (some .int), Cond.fieldLink RX0 21 "WarmProbes$Board" "touches" "I", Cond.fieldLink RX0 25 "WarmProbes$Board" "touchPlaces" "[I"]
def wsX5_at : List Cond := .code yX5_at cX5_at 5 (some .int) :: ((wsX5_at_r1 ++ (wsX5_at_r2 ++ (wsX5_at_r3 ++ wsX5_at_r4))) ++ wsX50 ++ wsX00 ++ wsX40 ++ wsX10)
def wsX5_columnsOf : List Cond := .code yX5_columnsOf cX5_columnsOf 3 (some .int) :: ([.constantLong RX5 256 (255)])
def wsX5_row_r1 : List Cond := [Cond.fieldLink RX5 10 "WarmProbes" "board" "LWarmProbes$Board;", Cond.fieldLink RX5 22 "WarmProbes" "suspicion" "LWarmProbes$Suspicion;", Cond.instanceMethod yX0_tracked, Cond.initialized RX0, Cond.selects RX0 yX0_tracked yX0_tracked, Cond.code yX0_tracked cX0_tracked 4 (some .long), Cond.fieldLink RX0 15 "WarmProbes$Board" "nets" "[I", Cond.methodLink RX5 122 yX5_columnsOf, Cond.static yX5_columnsOf, Cond.initialized RX5, Cond.code yX5_columnsOf cX5_columnsOf 3 (some .int), Cond.constantLong RX5 256 (255), Cond.instanceMethod yX0_suspects, Cond.selects RX0 yX0_suspects yX0_suspects, Cond.code yX0_suspects cX0_suspects 4 (some .long), Cond.methodLink RX0 118 yX0_isSuspect, Cond.instanceMethod yX0_isSuspect, Cond.selects RX0 yX0_isSuspect yX0_isSuspect, Cond.code yX0_isSuspect cX0_isSuspect 4 (some .boolean), Cond.static yX5_neighbourOf, Cond.code yX5_neighbourOf cX5_neighbourOf 2 (some .int), Cond.methodLink RX0 96 yX0_isFed, Cond.instanceMethod yX0_isFed, Cond.selects RX0 yX0_isFed yX0_isFed]
def wsX5_row_r2 : List Cond := [Cond.code yX0_isFed cX0_isFed 3 (some .boolean), Cond.fieldLink RX0 18 "WarmProbes$Board" "fed" "[I", Cond.instanceMethod yX4_fitting, Cond.initialized RX4, Cond.selects RX4 yX4_fitting yX4_fitting, Cond.code yX4_fitting cX4_fitting 5 (some .long), Cond.methodLink RX4 32 yX4_couldBe, Cond.instanceMethod yX4_couldBe, Cond.selects RX4 yX4_couldBe yX4_couldBe, Cond.code yX4_couldBe cX4_couldBe 3 (some .boolean), Cond.methodLink RX4 28 yX4_fits, Cond.instanceMethod yX4_fits, Cond.selects RX4 yX4_fits yX4_fits, Cond.code yX4_fits cX4_fits 6 (some .boolean), Cond.fieldLink RX4 12 "WarmProbes$Suspicion" "lone" "LWarmProbes$Lone;", Cond.methodLink RX4 81 Lib.Math.abs.name, Cond.static Lib.Math.abs.name, Cond.initialized "java/lang/Math", Cond.code Lib.Math.abs.name Lib.Math.abs.code 1 (some .int), Cond.instanceMethod yX1_follow, Cond.initialized RX1, Cond.selects RX1 yX1_follow yX1_follow, Cond.code yX1_follow cX1_follow 3 none, Cond.fieldLink RX1 9 "WarmProbes$Lone" "settings" "[I"]
def wsX5_row_r3 : List Cond := [Cond.methodLink RX1 24 arraycopyName, Cond.native arraycopyName, Cond.static arraycopyName, Cond.initialized "java/lang/System", Cond.fieldLink RX1 21 "WarmProbes$Lone" "steps" "[I", Cond.instanceMethod yX1_warmthBy, Cond.selects RX1 yX1_warmthBy yX1_warmthBy, Cond.code yX1_warmthBy cX1_warmthBy 6 (some .float), Cond.fieldLink RX1 17 "WarmProbes$Lone" "fields" "[[F", Cond.arrayClass .float, Cond.static yX5_step, Cond.code yX5_step cX5_step 15 none, Cond.constantFloat RX5 259 (1120403456), Cond.methodLink RX5 260 yX5_isIn, Cond.static yX5_isIn, Cond.code yX5_isIn cX5_isIn 3 (some .boolean), Cond.static yX5_readOf, Cond.code yX5_readOf cX5_readOf 1 (some .int), Cond.constantFloat RX5 258 (1092616192)]
def wsX5_row : List Cond := .code yX5_row cX5_row 3 (some .int) :: ((wsX5_row_r1 ++ (wsX5_row_r2 ++ wsX5_row_r3)) ++ wsX50 ++ wsX00 ++ wsX40 ++ wsX10)
def wsX5_ofTouch : List Cond := .code yX5_ofTouch cX5_ofTouch 3 (some .int) :: ([.fieldLink RX5 10 "WarmProbes" "board" "LWarmProbes$Board;", .instanceMethod yX0_isLive, .initialized RX0, .selects RX0 yX0_isLive yX0_isLive, .code yX0_isLive cX0_isLive 2 (some .boolean), .fieldLink RX0 15 "WarmProbes$Board" "nets" "[I", .fieldLink RX0 25 "WarmProbes$Board" "touchPlaces" "[I", .fieldLink RX0 28 "WarmProbes$Board" "touchOthers" "[I", .methodLink RX0 96 yX0_isFed, .instanceMethod yX0_isFed, .selects RX0 yX0_isFed yX0_isFed, .code yX0_isFed cX0_isFed 3 (some .boolean), .fieldLink RX0 18 "WarmProbes$Board" "fed" "[I"] ++ wsX50 ++ wsX00)
def wsX5_reading : List Cond := .code yX5_reading cX5_reading 3 (some .int) :: ([.fieldLink RX5 10 "WarmProbes" "board" "LWarmProbes$Board;"] ++ wsX50 ++ wsX00)
def wsX5_ofNet : List Cond := .code yX5_ofNet cX5_ofNet 3 (some .int) :: ([.fieldLink RX5 10 "WarmProbes" "board" "LWarmProbes$Board;", .methodLink RX5 157 yX5_isNet, .static yX5_isNet, .initialized RX5, .code yX5_isNet cX5_isNet 1 (some .boolean), .instanceMethod yX0_placesOf, .initialized RX0, .selects RX0 yX0_placesOf yX0_placesOf, .code yX0_placesOf cX0_placesOf 4 (some .int), .fieldLink RX0 15 "WarmProbes$Board" "nets" "[I", .instanceMethod yX0_warmthOf, .selects RX0 yX0_warmthOf yX0_warmthOf, .code yX0_warmthOf cX0_warmthOf 4 (some .float), .fieldLink RX0 34 "WarmProbes$Board" "warmth" "[F", .methodLink RX5 97 yX5_bitsOfFloat, .static yX5_bitsOfFloat, .code yX5_bitsOfFloat cX5_bitsOfFloat 4 (some .int), .constantFloat RX5 264 (1258291200), .constant RX5 265 (8388608)] ++ wsX50 ++ wsX00)
def wsJ13_bitCount_95d88 : List Cond := .code yJ13_bitCount_95d88 cJ13_bitCount_95d88 2 (some .int) :: ([.constantLong RJ13 314 (6148914691236517205), .constantLong RJ13 316 (3689348814741910323), .constantLong RJ13 318 (1085102592571150095)])
def wsX5_count_r1 : List Cond := [Cond.fieldLink RX5 10 "WarmProbes" "board" "LWarmProbes$Board;", Cond.fieldLink RX5 22 "WarmProbes" "suspicion" "LWarmProbes$Suspicion;", Cond.fieldLink RX5 36 "WarmProbes" "pad" "LWarmProbes$Pad;", Cond.fieldLink RX5 29 "WarmProbes" "past" "LWarmProbes$Past;", Cond.instanceMethod yX0_heated, Cond.initialized RX0, Cond.selects RX0 yX0_heated yX0_heated, Cond.code yX0_heated cX0_heated 4 (some .long), Cond.fieldLink RX0 21 "WarmProbes$Board" "touches" "I", Cond.fieldLink RX0 25 "WarmProbes$Board" "touchPlaces" "[I", Cond.methodLink RX0 115 yX0_isLive, Cond.instanceMethod yX0_isLive, Cond.selects RX0 yX0_isLive yX0_isLive, Cond.code yX0_isLive cX0_isLive 2 (some .boolean), Cond.fieldLink RX0 15 "WarmProbes$Board" "nets" "[I", Cond.fieldLink RX0 28 "WarmProbes$Board" "touchOthers" "[I", Cond.methodLink RX0 96 yX0_isFed, Cond.instanceMethod yX0_isFed, Cond.selects RX0 yX0_isFed yX0_isFed, Cond.code yX0_isFed cX0_isFed 3 (some .boolean), Cond.fieldLink RX0 18 "WarmProbes$Board" "fed" "[I", Cond.methodLink RX5 173 yJ13_bitCount_95d88, Cond.static yJ13_bitCount_95d88, Cond.initialized RJ13]
def wsX5_count_r2 : List Cond := [Cond.code yJ13_bitCount_95d88 cJ13_bitCount_95d88 2 (some .int), Cond.constantLong RJ13 314 (6148914691236517205), Cond.constantLong RJ13 316 (3689348814741910323), Cond.constantLong RJ13 318 (1085102592571150095), Cond.instanceMethod yX0_tracked, Cond.selects RX0 yX0_tracked yX0_tracked, Cond.code yX0_tracked cX0_tracked 4 (some .long), Cond.instanceMethod yX0_suspects, Cond.selects RX0 yX0_suspects yX0_suspects, Cond.code yX0_suspects cX0_suspects 4 (some .long), Cond.methodLink RX0 118 yX0_isSuspect, Cond.instanceMethod yX0_isSuspect, Cond.selects RX0 yX0_isSuspect yX0_isSuspect, Cond.code yX0_isSuspect cX0_isSuspect 4 (some .boolean), Cond.static yX5_neighbourOf, Cond.initialized RX5, Cond.code yX5_neighbourOf cX5_neighbourOf 2 (some .int), Cond.instanceMethod yX4_fitting, Cond.initialized RX4, Cond.selects RX4 yX4_fitting yX4_fitting, Cond.code yX4_fitting cX4_fitting 5 (some .long), Cond.methodLink RX4 32 yX4_couldBe, Cond.instanceMethod yX4_couldBe, Cond.selects RX4 yX4_couldBe yX4_couldBe]
def wsX5_count_r3 : List Cond := [Cond.code yX4_couldBe cX4_couldBe 3 (some .boolean), Cond.methodLink RX4 28 yX4_fits, Cond.instanceMethod yX4_fits, Cond.selects RX4 yX4_fits yX4_fits, Cond.code yX4_fits cX4_fits 6 (some .boolean), Cond.fieldLink RX4 12 "WarmProbes$Suspicion" "lone" "LWarmProbes$Lone;", Cond.methodLink RX4 81 Lib.Math.abs.name, Cond.static Lib.Math.abs.name, Cond.initialized "java/lang/Math", Cond.code Lib.Math.abs.name Lib.Math.abs.code 1 (some .int), Cond.instanceMethod yX1_follow, Cond.initialized RX1, Cond.selects RX1 yX1_follow yX1_follow, Cond.code yX1_follow cX1_follow 3 none, Cond.fieldLink RX1 9 "WarmProbes$Lone" "settings" "[I", Cond.methodLink RX1 24 arraycopyName, Cond.native arraycopyName, Cond.static arraycopyName, Cond.initialized "java/lang/System", Cond.fieldLink RX1 21 "WarmProbes$Lone" "steps" "[I", Cond.instanceMethod yX1_warmthBy, Cond.selects RX1 yX1_warmthBy yX1_warmthBy, Cond.code yX1_warmthBy cX1_warmthBy 6 (some .float), Cond.fieldLink RX1 17 "WarmProbes$Lone" "fields" "[[F"]
def wsX5_count_r4 : List Cond := [Cond.arrayClass .float, Cond.static yX5_step, Cond.code yX5_step cX5_step 15 none, Cond.constantFloat RX5 259 (1120403456), Cond.methodLink RX5 260 yX5_isIn, Cond.static yX5_isIn, Cond.code yX5_isIn cX5_isIn 3 (some .boolean), Cond.static yX5_readOf, Cond.code yX5_readOf cX5_readOf 1 (some .int), Cond.constantFloat RX5 258 (1092616192), Cond.instanceMethod yX4_pairs, Cond.selects RX4 yX4_pairs yX4_pairs, Cond.code yX4_pairs cX4_pairs 7 (some .int), Cond.instanceMethod yX0_warmest, Cond.selects RX0 yX0_warmest yX0_warmest, Cond.code yX0_warmest cX0_warmest 3 (some .int), Cond.fieldLink RX0 34 "WarmProbes$Board" "warmth" "[F"]
def wsX5_count : List Cond := .code yX5_count cX5_count 2 (some .int) :: ((wsX5_count_r1 ++ (wsX5_count_r2 ++ (wsX5_count_r3 ++ wsX5_count_r4))) ++ wsX50 ++ wsX00 ++ wsX20 ++ wsX30 ++ wsX40 ++ wsX10)
def wsX5_wouldRead_r1 : List Cond := [Cond.fieldLink RX5 10 "WarmProbes" "board" "LWarmProbes$Board;", Cond.fieldLink RX5 22 "WarmProbes" "suspicion" "LWarmProbes$Suspicion;", Cond.methodLink RX5 86 yX5_placeOf, Cond.static yX5_placeOf, Cond.initialized RX5, Cond.code yX5_placeOf cX5_placeOf 2 (some .int), Cond.instanceMethod yX0_isSuspect, Cond.initialized RX0, Cond.selects RX0 yX0_isSuspect yX0_isSuspect, Cond.code yX0_isSuspect cX0_isSuspect 4 (some .boolean), Cond.fieldLink RX0 15 "WarmProbes$Board" "nets" "[I", Cond.static yX5_neighbourOf, Cond.code yX5_neighbourOf cX5_neighbourOf 2 (some .int), Cond.methodLink RX0 96 yX0_isFed, Cond.instanceMethod yX0_isFed, Cond.selects RX0 yX0_isFed yX0_isFed, Cond.code yX0_isFed cX0_isFed 3 (some .boolean), Cond.fieldLink RX0 18 "WarmProbes$Board" "fed" "[I", Cond.instanceMethod yX4_readBy, Cond.initialized RX4, Cond.selects RX4 yX4_readBy yX4_readBy, Cond.code yX4_readBy cX4_readBy 4 (some .int), Cond.fieldLink RX4 12 "WarmProbes$Suspicion" "lone" "LWarmProbes$Lone;", Cond.instanceMethod yX1_follow]
def wsX5_wouldRead_r2 : List Cond := [Cond.initialized RX1, Cond.selects RX1 yX1_follow yX1_follow, Cond.code yX1_follow cX1_follow 3 none, Cond.fieldLink RX1 9 "WarmProbes$Lone" "settings" "[I", Cond.methodLink RX1 24 arraycopyName, Cond.native arraycopyName, Cond.static arraycopyName, Cond.initialized "java/lang/System", Cond.fieldLink RX1 21 "WarmProbes$Lone" "steps" "[I", Cond.instanceMethod yX1_warmthBy, Cond.selects RX1 yX1_warmthBy yX1_warmthBy, Cond.code yX1_warmthBy cX1_warmthBy 6 (some .float), Cond.fieldLink RX1 17 "WarmProbes$Lone" "fields" "[[F", Cond.arrayClass .float, Cond.static yX5_step, Cond.code yX5_step cX5_step 15 none, Cond.constantFloat RX5 259 (1120403456), Cond.methodLink RX5 260 yX5_isIn, Cond.static yX5_isIn, Cond.code yX5_isIn cX5_isIn 3 (some .boolean), Cond.static yX5_readOf, Cond.code yX5_readOf cX5_readOf 1 (some .int), Cond.constantFloat RX5 258 (1092616192)]
def wsX5_wouldRead : List Cond := .code yX5_wouldRead cX5_wouldRead 7 (some .int) :: ((wsX5_wouldRead_r1 ++ wsX5_wouldRead_r2) ++ wsX50 ++ wsX00 ++ wsX40 ++ wsX10)
def wsJ9_abs_0f7a4 : List Cond := .code yJ9_abs_0f7a4 cJ9_abs_0f7a4 1 (some .int) :: ([])
def wsJ9_max_7cf53 : List Cond := .code yJ9_max_7cf53 cJ9_max_7cf53 2 (some .int) :: ([])
def wsJ9_min_7cf53 : List Cond := .code yJ9_min_7cf53 cJ9_min_7cf53 2 (some .int) :: ([])
def wsL_cell : List Cond := .code yL_cell cL_cell 2 (some .int) :: ([.constant RL 7 (1033861975), .constant RL 8 (684254885)])
def wsL_low : List Cond := .code yL_low cL_low 2 (some .int) :: ([.constant RL 9 (2147483647)])
def wsL_net : List Cond := .code yL_net cL_net 3 (some .int) :: ([])
def wsL_beside : List Cond := .code yL_beside cL_beside 3 (some .int) :: ([.methodLink RL 10 yL_net, .static yL_net, .initialized RL, .code yL_net cL_net 3 (some .int)])
def wsL_near : List Cond := .code yL_near cL_near 4 (some .boolean) :: ([])
def wsL_fed : List Cond := .code yL_fed cL_fed 3 (some .boolean) :: ([])
def wsL_suspect : List Cond := .code yL_suspect cL_suspect 5 (some .boolean) :: ([.methodLink RL 16 yL_beside, .static yL_beside, .initialized RL, .code yL_beside cL_beside 3 (some .int), .methodLink RL 10 yL_net, .static yL_net, .code yL_net cL_net 3 (some .int), .methodLink RL 19 yL_fed, .static yL_fed, .code yL_fed cL_fed 3 (some .boolean)])
def wsL_touch : List Cond := .code yL_touch cL_touch 4 (some .int) :: ([])
def wsL_live : List Cond := .code yL_live cL_live 6 (some .int) :: ([.methodLink RL 19 yL_fed, .static yL_fed, .initialized RL, .code yL_fed cL_fed 3 (some .boolean)])
def wsL_same_r1 : List Cond := [Cond.arrayClass .int, Cond.methodLink RL 25 yL_live, Cond.static yL_live, Cond.initialized RL, Cond.code yL_live cL_live 6 (some .int), Cond.methodLink RL 19 yL_fed, Cond.static yL_fed, Cond.code yL_fed cL_fed 3 (some .boolean), Cond.methodLink RL 29 yL_suspect, Cond.static yL_suspect, Cond.code yL_suspect cL_suspect 5 (some .boolean), Cond.methodLink RL 16 yL_beside, Cond.static yL_beside, Cond.code yL_beside cL_beside 3 (some .int), Cond.methodLink RL 10 yL_net, Cond.static yL_net, Cond.code yL_net cL_net 3 (some .int), Cond.methodLink RL 33 yX5_at, Cond.instanceMethod yX5_at, Cond.selects RX5 yX5_at yX5_at, Cond.initialized RX5, Cond.code yX5_at cX5_at 5 (some .int), Cond.fieldLink RX5 10 "WarmProbes" "board" "LWarmProbes$Board;", Cond.fieldLink RX5 22 "WarmProbes" "suspicion" "LWarmProbes$Suspicion;"]
def wsL_same_r2 : List Cond := [Cond.methodLink RX5 86 yX5_placeOf, Cond.static yX5_placeOf, Cond.code yX5_placeOf cX5_placeOf 2 (some .int), Cond.methodLink RX5 97 yX5_bitsOfFloat, Cond.static yX5_bitsOfFloat, Cond.code yX5_bitsOfFloat cX5_bitsOfFloat 4 (some .int), Cond.constantFloat RX5 264 (1258291200), Cond.constant RX5 265 (8388608), Cond.methodLink RX5 101 yX5_readOf, Cond.static yX5_readOf, Cond.code yX5_readOf cX5_readOf 1 (some .int), Cond.constantFloat RX5 258 (1092616192), Cond.instanceMethod yX0_isSuspect, Cond.initialized RX0, Cond.selects RX0 yX0_isSuspect yX0_isSuspect, Cond.code yX0_isSuspect cX0_isSuspect 4 (some .boolean), Cond.fieldLink RX0 15 "WarmProbes$Board" "nets" "[I", Cond.static yX5_neighbourOf, Cond.code yX5_neighbourOf cX5_neighbourOf 2 (some .int), Cond.methodLink RX0 96 yX0_isFed, Cond.instanceMethod yX0_isFed, Cond.selects RX0 yX0_isFed yX0_isFed, Cond.code yX0_isFed cX0_isFed 3 (some .boolean), Cond.fieldLink RX0 18 "WarmProbes$Board" "fed" "[I"]
def wsL_same_r3 : List Cond := [Cond.instanceMethod yX4_couldBe, Cond.initialized RX4, Cond.selects RX4 yX4_couldBe yX4_couldBe, Cond.code yX4_couldBe cX4_couldBe 3 (some .boolean), Cond.methodLink RX4 28 yX4_fits, Cond.instanceMethod yX4_fits, Cond.selects RX4 yX4_fits yX4_fits, Cond.code yX4_fits cX4_fits 6 (some .boolean), Cond.fieldLink RX4 12 "WarmProbes$Suspicion" "lone" "LWarmProbes$Lone;", Cond.methodLink RX4 81 Lib.Math.abs.name, Cond.static Lib.Math.abs.name, Cond.initialized "java/lang/Math", Cond.code Lib.Math.abs.name Lib.Math.abs.code 1 (some .int), Cond.instanceMethod yX1_follow, Cond.initialized RX1, Cond.selects RX1 yX1_follow yX1_follow, Cond.code yX1_follow cX1_follow 3 none, Cond.fieldLink RX1 9 "WarmProbes$Lone" "settings" "[I", Cond.methodLink RX1 24 arraycopyName, Cond.native arraycopyName, Cond.static arraycopyName, Cond.initialized "java/lang/System", Cond.fieldLink RX1 21 "WarmProbes$Lone" "steps" "[I", Cond.instanceMethod yX1_warmthBy]
def wsL_same_r4 : List Cond := [Cond.selects RX1 yX1_warmthBy yX1_warmthBy, Cond.code yX1_warmthBy cX1_warmthBy 6 (some .float), Cond.fieldLink RX1 17 "WarmProbes$Lone" "fields" "[[F", Cond.arrayClass .float, Cond.static yX5_step, Cond.code yX5_step cX5_step 15 none, Cond.constantFloat RX5 259 (1120403456), Cond.methodLink RX5 260 yX5_isIn, Cond.static yX5_isIn, Cond.code yX5_isIn cX5_isIn 3 (some .boolean), Cond.instanceMethod yX4_couldBeOneOfTwo, Cond.selects RX4 yX4_couldBeOneOfTwo yX4_couldBeOneOfTwo, Cond.code yX4_couldBeOneOfTwo cX4_couldBeOneOfTwo 4 (some .boolean), Cond.methodLink RX4 44 Lib.Math.min.name, Cond.static Lib.Math.min.name, Cond.code Lib.Math.min.name Lib.Math.min.code 2 (some .int), Cond.methodLink RX4 50 Lib.Math.max.name, Cond.static Lib.Math.max.name, Cond.code Lib.Math.max.name Lib.Math.max.code 2 (some .int), Cond.instanceMethod yX0_touchAt, Cond.selects RX0 yX0_touchAt yX0_touchAt, Cond.code yX0_touchAt cX0_touchAt 3 (some .int), Cond.fieldLink RX0 21 "WarmProbes$Board" "touches" "I", Cond.fieldLink RX0 25 "WarmProbes$Board" "touchPlaces" "[I"]
def wsL_same_r5 : List Cond := [Cond.methodLink RL 37 yL_touch, Cond.static yL_touch, Cond.code yL_touch cL_touch 4 (some .int), Cond.methodLink RL 41 yX5_row, Cond.instanceMethod yX5_row, Cond.selects RX5 yX5_row yX5_row, Cond.code yX5_row cX5_row 3 (some .int), Cond.instanceMethod yX0_tracked, Cond.selects RX0 yX0_tracked yX0_tracked, Cond.code yX0_tracked cX0_tracked 4 (some .long), Cond.methodLink RX5 122 yX5_columnsOf, Cond.static yX5_columnsOf, Cond.code yX5_columnsOf cX5_columnsOf 3 (some .int), Cond.constantLong RX5 256 (255), Cond.instanceMethod yX0_suspects, Cond.selects RX0 yX0_suspects yX0_suspects, Cond.code yX0_suspects cX0_suspects 4 (some .long), Cond.methodLink RX0 118 yX0_isSuspect, Cond.instanceMethod yX4_fitting, Cond.selects RX4 yX4_fitting yX4_fitting, Cond.code yX4_fitting cX4_fitting 5 (some .long), Cond.methodLink RX4 32 yX4_couldBe, Cond.methodLink RL 45 yX5_ofTouch, Cond.instanceMethod yX5_ofTouch]
def wsL_same_r6 : List Cond := [Cond.selects RX5 yX5_ofTouch yX5_ofTouch, Cond.code yX5_ofTouch cX5_ofTouch 3 (some .int), Cond.instanceMethod yX0_isLive, Cond.selects RX0 yX0_isLive yX0_isLive, Cond.code yX0_isLive cX0_isLive 2 (some .boolean), Cond.fieldLink RX0 28 "WarmProbes$Board" "touchOthers" "[I", Cond.methodLink RL 48 yX5_reading, Cond.instanceMethod yX5_reading, Cond.selects RX5 yX5_reading yX5_reading, Cond.code yX5_reading cX5_reading 3 (some .int), Cond.methodLink RL 51 yX5_ofNet, Cond.instanceMethod yX5_ofNet, Cond.selects RX5 yX5_ofNet yX5_ofNet, Cond.code yX5_ofNet cX5_ofNet 3 (some .int), Cond.methodLink RX5 157 yX5_isNet, Cond.static yX5_isNet, Cond.code yX5_isNet cX5_isNet 1 (some .boolean), Cond.instanceMethod yX0_placesOf, Cond.selects RX0 yX0_placesOf yX0_placesOf, Cond.code yX0_placesOf cX0_placesOf 4 (some .int), Cond.instanceMethod yX0_warmthOf, Cond.selects RX0 yX0_warmthOf yX0_warmthOf, Cond.code yX0_warmthOf cX0_warmthOf 4 (some .float), Cond.fieldLink RX0 34 "WarmProbes$Board" "warmth" "[F"]
def wsL_same_r7 : List Cond := [Cond.methodLink RL 54 yX5_count, Cond.instanceMethod yX5_count, Cond.selects RX5 yX5_count yX5_count, Cond.code yX5_count cX5_count 2 (some .int), Cond.fieldLink RX5 36 "WarmProbes" "pad" "LWarmProbes$Pad;", Cond.fieldLink RX5 29 "WarmProbes" "past" "LWarmProbes$Past;", Cond.instanceMethod yX0_heated, Cond.selects RX0 yX0_heated yX0_heated, Cond.code yX0_heated cX0_heated 4 (some .long), Cond.methodLink RX0 115 yX0_isLive, Cond.methodLink RX5 173 yJ13_bitCount_95d88, Cond.static yJ13_bitCount_95d88, Cond.initialized RJ13, Cond.code yJ13_bitCount_95d88 cJ13_bitCount_95d88 2 (some .int), Cond.constantLong RJ13 314 (6148914691236517205), Cond.constantLong RJ13 316 (3689348814741910323), Cond.constantLong RJ13 318 (1085102592571150095), Cond.instanceMethod yX4_pairs, Cond.selects RX4 yX4_pairs yX4_pairs, Cond.code yX4_pairs cX4_pairs 7 (some .int), Cond.instanceMethod yX0_warmest, Cond.selects RX0 yX0_warmest yX0_warmest, Cond.code yX0_warmest cX0_warmest 3 (some .int)]
def wsL_same : List Cond := .code yL_same cL_same 24 (some .boolean) :: ((wsL_same_r1 ++ (wsL_same_r2 ++ (wsL_same_r3 ++ (wsL_same_r4 ++ (wsL_same_r5 ++ (wsL_same_r6 ++ wsL_same_r7)))))) ++ wsX50 ++ wsX00 ++ wsX40 ++ wsX10 ++ wsX20 ++ wsX30)
def wsL_law_r1 : List Cond := [Cond.classLink RL 23 RX5, Cond.instantiable RX5 7, Cond.initialized RX5, Cond.arrayClass .int, Cond.constantLong RL 59 (-1), Cond.methodLink RL 58 yX5_init, Cond.instanceMethod yX5_init, Cond.code yX5_init cX5_init 2 none, Cond.methodLink RX5 1 objectInit, Cond.instanceMethod objectInit, Cond.code objectInit ⟨#[0xb1]⟩ 1 none, Cond.classLink RX5 7 RX0, Cond.instantiable RX0 13, Cond.initialized RX0, Cond.fieldLink RX5 10 "WarmProbes" "board" "LWarmProbes$Board;", Cond.fieldLink RX5 16 "WarmProbes" "ahead" "LWarmProbes$Board;", Cond.classLink RX5 19 RX4, Cond.instantiable RX4 2, Cond.initialized RX4, Cond.fieldLink RX5 22 "WarmProbes" "suspicion" "LWarmProbes$Suspicion;", Cond.classLink RX5 26 RX3, Cond.instantiable RX3 2, Cond.initialized RX3, Cond.fieldLink RX5 29 "WarmProbes" "past" "LWarmProbes$Past;"]
def wsL_law_r2 : List Cond := [Cond.classLink RX5 33 RX2, Cond.instantiable RX2 2, Cond.initialized RX2, Cond.fieldLink RX5 36 "WarmProbes" "pad" "LWarmProbes$Pad;", Cond.fieldLink RX5 40 "WarmProbes" "slots" "[LWarmProbes$Board;", Cond.arrayClass .boolean, Cond.fieldLink RX5 44 "WarmProbes" "isSaved" "[Z", Cond.instanceMethod yX0_init, Cond.code yX0_init cX0_init 1 none, Cond.methodLink RX0 3 objectInit, Cond.fieldLink RX0 9 "WarmProbes$Board" "settings" "[I", Cond.fieldLink RX0 15 "WarmProbes$Board" "nets" "[I", Cond.fieldLink RX0 18 "WarmProbes$Board" "fed" "[I", Cond.fieldLink RX0 21 "WarmProbes$Board" "touches" "I", Cond.fieldLink RX0 25 "WarmProbes$Board" "touchPlaces" "[I", Cond.fieldLink RX0 28 "WarmProbes$Board" "touchOthers" "[I", Cond.fieldLink RX0 31 "WarmProbes$Board" "steps" "I", Cond.arrayClass .float, Cond.fieldLink RX0 34 "WarmProbes$Board" "warmth" "[F", Cond.fieldLink RX0 38 "WarmProbes$Board" "nextWarmth" "[F", Cond.fieldLink RX0 41 "WarmProbes$Board" "readings" "I", Cond.fieldLink RX0 44 "WarmProbes$Board" "readingPlaces" "[I", Cond.fieldLink RX0 47 "WarmProbes$Board" "readingReads" "[I", Cond.fieldLink RX0 50 "WarmProbes$Board" "readingSteps" "[I"]
def wsL_law_r3 : List Cond := [Cond.methodLink RX0 56 arraycopyName, Cond.native arraycopyName, Cond.static arraycopyName, Cond.initialized "java/lang/System", Cond.instanceMethod yX4_init, Cond.code yX4_init cX4_init 1 none, Cond.methodLink RX4 3 objectInit, Cond.classLink RX4 9 RX1, Cond.instantiable RX1 3, Cond.initialized RX1, Cond.fieldLink RX4 12 "WarmProbes$Suspicion" "lone" "LWarmProbes$Lone;", Cond.fieldLink RX4 18 "WarmProbes$Suspicion" "reads" "[I", Cond.instanceMethod yX1_init, Cond.code yX1_init cX1_init 1 none, Cond.methodLink RX1 3 objectInit, Cond.fieldLink RX1 9 "WarmProbes$Lone" "settings" "[I", Cond.classLink RX1 15 "[F", Cond.fieldLink RX1 17 "WarmProbes$Lone" "fields" "[[F", Cond.fieldLink RX1 21 "WarmProbes$Lone" "steps" "[I", Cond.instanceMethod yX3_init, Cond.code yX3_init cX3_init 2 none, Cond.methodLink RX3 3 objectInit, Cond.classLink RX3 9 RX0, Cond.fieldLink RX3 11 "WarmProbes$Past" "states" "[LWarmProbes$Board;"]
def wsL_law_r4 : List Cond := [Cond.fieldLink RX3 17 "WarmProbes$Past" "size" "I", Cond.instanceMethod yX2_init, Cond.code yX2_init cX2_init 1 none, Cond.methodLink RX2 3 objectInit, Cond.fieldLink RX2 9 "WarmProbes$Pad" "codes" "[I", Cond.fieldLink RX2 15 "WarmProbes$Pad" "length" "I", Cond.methodLink RL 61 yL_cell, Cond.static yL_cell, Cond.initialized RL, Cond.code yL_cell cL_cell 2 (some .int), Cond.constant RL 7 (1033861975), Cond.constant RL 8 (684254885), Cond.methodLink RL 65 yL_low, Cond.static yL_low, Cond.code yL_low cL_low 2 (some .int), Cond.constant RL 9 (2147483647), Cond.methodLink RL 37 yL_touch, Cond.static yL_touch, Cond.code yL_touch cL_touch 4 (some .int), Cond.methodLink RL 68 yL_near, Cond.static yL_near, Cond.code yL_near cL_near 4 (some .boolean), Cond.methodLink RL 72 yX5_track, Cond.instanceMethod yX5_track]
def wsL_law_r5 : List Cond := [Cond.selects RX5 yX5_track yX5_track, Cond.code yX5_track cX5_track 4 (some .int), Cond.instanceMethod yX3_prepare, Cond.selects RX3 yX3_prepare yX3_prepare, Cond.code yX3_prepare cX3_prepare 2 none, Cond.instanceMethod yX0_takeOver, Cond.selects RX0 yX0_takeOver yX0_takeOver, Cond.code yX0_takeOver cX0_takeOver 2 none, Cond.instanceMethod yX0_lay, Cond.selects RX0 yX0_lay yX0_lay, Cond.code yX0_lay cX0_lay 6 (some .int), Cond.static yX5_placeOf, Cond.code yX5_placeOf cX5_placeOf 2 (some .int), Cond.static yX5_isNet, Cond.code yX5_isNet cX5_isNet 1 (some .boolean), Cond.methodLink RX0 79 yX0_isNeededByTouch, Cond.instanceMethod yX0_isNeededByTouch, Cond.selects RX0 yX0_isNeededByTouch yX0_isNeededByTouch, Cond.code yX0_isNeededByTouch cX0_isNeededByTouch 3 (some .boolean), Cond.static yX5_areNeighbours, Cond.code yX5_areNeighbours cX5_areNeighbours 3 (some .boolean), Cond.methodLink RX5 253 yX5_neighbourOf, Cond.static yX5_neighbourOf, Cond.code yX5_neighbourOf cX5_neighbourOf 2 (some .int)]
def wsL_law_r6 : List Cond := [Cond.methodLink RX0 68 yX0_beginRun, Cond.instanceMethod yX0_beginRun, Cond.selects RX0 yX0_beginRun yX0_beginRun, Cond.code yX0_beginRun cX0_beginRun 2 none, Cond.instanceMethod yX3_kept, Cond.selects RX3 yX3_kept yX3_kept, Cond.code yX3_kept cX3_kept 4 (some .int), Cond.methodLink RL 75 yX5_feed, Cond.instanceMethod yX5_feed, Cond.selects RX5 yX5_feed yX5_feed, Cond.code yX5_feed cX5_feed 3 (some .int), Cond.instanceMethod yX0_turnPair, Cond.selects RX0 yX0_turnPair yX0_turnPair, Cond.code yX0_turnPair cX0_turnPair 3 (some .int), Cond.methodLink RX0 96 yX0_isFed, Cond.instanceMethod yX0_isFed, Cond.selects RX0 yX0_isFed yX0_isFed, Cond.code yX0_isFed cX0_isFed 3 (some .boolean), Cond.methodLink RL 19 yL_fed, Cond.static yL_fed, Cond.code yL_fed cL_fed 3 (some .boolean), Cond.methodLink RL 16 yL_beside, Cond.static yL_beside, Cond.code yL_beside cL_beside 3 (some .int)]
def wsL_law_r7 : List Cond := [Cond.methodLink RL 10 yL_net, Cond.static yL_net, Cond.code yL_net cL_net 3 (some .int), Cond.methodLink RL 78 yX5_touch, Cond.instanceMethod yX5_touch, Cond.selects RX5 yX5_touch yX5_touch, Cond.code yX5_touch cX5_touch 4 (some .int), Cond.instanceMethod yX0_join, Cond.selects RX0 yX0_join yX0_join, Cond.code yX0_join cX0_join 5 (some .int), Cond.methodLink RX0 86 yX0_touchAt, Cond.instanceMethod yX0_touchAt, Cond.selects RX0 yX0_touchAt yX0_touchAt, Cond.code yX0_touchAt cX0_touchAt 3 (some .int), Cond.methodLink RX0 90 yX0_hasNeighbourOf, Cond.instanceMethod yX0_hasNeighbourOf, Cond.selects RX0 yX0_hasNeighbourOf yX0_hasNeighbourOf, Cond.code yX0_hasNeighbourOf cX0_hasNeighbourOf 5 (some .boolean), Cond.methodLink RL 80 yX5_mend, Cond.instanceMethod yX5_mend, Cond.selects RX5 yX5_mend yX5_mend, Cond.code yX5_mend cX5_mend 2 (some .int), Cond.instanceMethod yX0_part, Cond.selects RX0 yX0_part yX0_part]
def wsL_law_r8 : List Cond := [Cond.code yX0_part cX0_part 3 (some .int), Cond.methodLink RL 83 yX5_warm, Cond.instanceMethod yX5_warm, Cond.selects RX5 yX5_warm yX5_warm, Cond.code yX5_warm cX5_warm 2 (some .int), Cond.instanceMethod yX0_letPass, Cond.selects RX0 yX0_letPass yX0_letPass, Cond.code yX0_letPass cX0_letPass 5 (some .int), Cond.methodLink RX0 99 yX0_heated, Cond.instanceMethod yX0_heated, Cond.selects RX0 yX0_heated yX0_heated, Cond.code yX0_heated cX0_heated 4 (some .long), Cond.methodLink RX0 115 yX0_isLive, Cond.instanceMethod yX0_isLive, Cond.selects RX0 yX0_isLive yX0_isLive, Cond.code yX0_isLive cX0_isLive 2 (some .boolean), Cond.methodLink RX0 103 yX0_passOne, Cond.instanceMethod yX0_passOne, Cond.selects RX0 yX0_passOne yX0_passOne, Cond.code yX0_passOne cX0_passOne 3 none, Cond.static yX5_step, Cond.code yX5_step cX5_step 15 none, Cond.constantFloat RX5 259 (1120403456), Cond.methodLink RX5 260 yX5_isIn]
def wsL_law_r9 : List Cond := [Cond.static yX5_isIn, Cond.code yX5_isIn cX5_isIn 3 (some .boolean), Cond.methodLink RL 33 yX5_at, Cond.instanceMethod yX5_at, Cond.selects RX5 yX5_at yX5_at, Cond.code yX5_at cX5_at 5 (some .int), Cond.methodLink RX5 86 yX5_placeOf, Cond.methodLink RX5 97 yX5_bitsOfFloat, Cond.static yX5_bitsOfFloat, Cond.code yX5_bitsOfFloat cX5_bitsOfFloat 4 (some .int), Cond.constantFloat RX5 264 (1258291200), Cond.constant RX5 265 (8388608), Cond.methodLink RX5 101 yX5_readOf, Cond.static yX5_readOf, Cond.code yX5_readOf cX5_readOf 1 (some .int), Cond.constantFloat RX5 258 (1092616192), Cond.instanceMethod yX0_isSuspect, Cond.selects RX0 yX0_isSuspect yX0_isSuspect, Cond.code yX0_isSuspect cX0_isSuspect 4 (some .boolean), Cond.instanceMethod yX4_couldBe, Cond.selects RX4 yX4_couldBe yX4_couldBe, Cond.code yX4_couldBe cX4_couldBe 3 (some .boolean), Cond.methodLink RX4 28 yX4_fits, Cond.instanceMethod yX4_fits]
def wsL_law_r10 : List Cond := [Cond.selects RX4 yX4_fits yX4_fits, Cond.code yX4_fits cX4_fits 6 (some .boolean), Cond.methodLink RX4 81 Lib.Math.abs.name, Cond.static Lib.Math.abs.name, Cond.initialized "java/lang/Math", Cond.code Lib.Math.abs.name Lib.Math.abs.code 1 (some .int), Cond.instanceMethod yX1_follow, Cond.selects RX1 yX1_follow yX1_follow, Cond.code yX1_follow cX1_follow 3 none, Cond.methodLink RX1 24 arraycopyName, Cond.instanceMethod yX1_warmthBy, Cond.selects RX1 yX1_warmthBy yX1_warmthBy, Cond.code yX1_warmthBy cX1_warmthBy 6 (some .float), Cond.instanceMethod yX4_couldBeOneOfTwo, Cond.selects RX4 yX4_couldBeOneOfTwo yX4_couldBeOneOfTwo, Cond.code yX4_couldBeOneOfTwo cX4_couldBeOneOfTwo 4 (some .boolean), Cond.methodLink RX4 44 Lib.Math.min.name, Cond.static Lib.Math.min.name, Cond.code Lib.Math.min.name Lib.Math.min.code 2 (some .int), Cond.methodLink RX4 50 Lib.Math.max.name, Cond.static Lib.Math.max.name, Cond.code Lib.Math.max.name Lib.Math.max.code 2 (some .int), Cond.methodLink RL 86 yX5_probe, Cond.instanceMethod yX5_probe]
def wsL_law_r11 : List Cond := [Cond.selects RX5 yX5_probe yX5_probe, Cond.code yX5_probe cX5_probe 3 (some .int), Cond.instanceMethod yX0_measure, Cond.selects RX0 yX0_measure yX0_measure, Cond.code yX0_measure cX0_measure 5 (some .int), Cond.methodLink RL 29 yL_suspect, Cond.static yL_suspect, Cond.code yL_suspect cL_suspect 5 (some .boolean), Cond.methodLink RL 89 yX5_wouldRead, Cond.instanceMethod yX5_wouldRead, Cond.selects RX5 yX5_wouldRead yX5_wouldRead, Cond.code yX5_wouldRead cX5_wouldRead 7 (some .int), Cond.instanceMethod yX4_readBy, Cond.selects RX4 yX4_readBy yX4_readBy, Cond.code yX4_readBy cX4_readBy 4 (some .int), Cond.methodLink RL 25 yL_live, Cond.static yL_live, Cond.code yL_live cL_live 6 (some .int), Cond.methodLink RL 93 yX5_set, Cond.instanceMethod yX5_set, Cond.selects RX5 yX5_set yX5_set, Cond.code yX5_set cX5_set 3 (some .int), Cond.instanceMethod yX0_change, Cond.selects RX0 yX0_change yX0_change]
def wsL_law_r12 : List Cond := [Cond.code yX0_change cX0_change 4 (some .int), Cond.methodLink RL 96 yX5_cool, Cond.instanceMethod yX5_cool, Cond.selects RX5 yX5_cool yX5_cool, Cond.code yX5_cool cX5_cool 2 (some .int), Cond.methodLink RL 100 yL_same, Cond.static yL_same, Cond.code yL_same cL_same 24 (some .boolean), Cond.methodLink RL 41 yX5_row, Cond.instanceMethod yX5_row, Cond.selects RX5 yX5_row yX5_row, Cond.code yX5_row cX5_row 3 (some .int), Cond.instanceMethod yX0_tracked, Cond.selects RX0 yX0_tracked yX0_tracked, Cond.code yX0_tracked cX0_tracked 4 (some .long), Cond.methodLink RX5 122 yX5_columnsOf, Cond.static yX5_columnsOf, Cond.code yX5_columnsOf cX5_columnsOf 3 (some .int), Cond.constantLong RX5 256 (255), Cond.instanceMethod yX0_suspects, Cond.selects RX0 yX0_suspects yX0_suspects, Cond.code yX0_suspects cX0_suspects 4 (some .long), Cond.methodLink RX0 118 yX0_isSuspect, Cond.instanceMethod yX4_fitting]
def wsL_law_r13 : List Cond := [Cond.selects RX4 yX4_fitting yX4_fitting, Cond.code yX4_fitting cX4_fitting 5 (some .long), Cond.methodLink RX4 32 yX4_couldBe, Cond.methodLink RL 45 yX5_ofTouch, Cond.instanceMethod yX5_ofTouch, Cond.selects RX5 yX5_ofTouch yX5_ofTouch, Cond.code yX5_ofTouch cX5_ofTouch 3 (some .int), Cond.methodLink RL 48 yX5_reading, Cond.instanceMethod yX5_reading, Cond.selects RX5 yX5_reading yX5_reading, Cond.code yX5_reading cX5_reading 3 (some .int), Cond.methodLink RL 51 yX5_ofNet, Cond.instanceMethod yX5_ofNet, Cond.selects RX5 yX5_ofNet yX5_ofNet, Cond.code yX5_ofNet cX5_ofNet 3 (some .int), Cond.methodLink RX5 157 yX5_isNet, Cond.instanceMethod yX0_placesOf, Cond.selects RX0 yX0_placesOf yX0_placesOf, Cond.code yX0_placesOf cX0_placesOf 4 (some .int), Cond.instanceMethod yX0_warmthOf, Cond.selects RX0 yX0_warmthOf yX0_warmthOf, Cond.code yX0_warmthOf cX0_warmthOf 4 (some .float), Cond.methodLink RL 54 yX5_count, Cond.instanceMethod yX5_count]
def wsL_law_r14 : List Cond := [Cond.selects RX5 yX5_count yX5_count, Cond.code yX5_count cX5_count 2 (some .int), Cond.methodLink RX5 173 yJ13_bitCount_95d88, Cond.static yJ13_bitCount_95d88, Cond.initialized RJ13, Cond.code yJ13_bitCount_95d88 cJ13_bitCount_95d88 2 (some .int), Cond.constantLong RJ13 314 (6148914691236517205), Cond.constantLong RJ13 316 (3689348814741910323), Cond.constantLong RJ13 318 (1085102592571150095), Cond.instanceMethod yX4_pairs, Cond.selects RX4 yX4_pairs yX4_pairs, Cond.code yX4_pairs cX4_pairs 7 (some .int), Cond.instanceMethod yX0_warmest, Cond.selects RX0 yX0_warmest yX0_warmest, Cond.code yX0_warmest cX0_warmest 3 (some .int)]
def wsL_law : List Cond := (wsL_law_r1 ++ (wsL_law_r2 ++ (wsL_law_r3 ++ (wsL_law_r4 ++ (wsL_law_r5 ++ (wsL_law_r6 ++ (wsL_law_r7 ++ (wsL_law_r8 ++ (wsL_law_r9 ++ (wsL_law_r10 ++ (wsL_law_r11 ++ (wsL_law_r12 ++ (wsL_law_r13 ++ wsL_law_r14))))))))))))) ++ wsX50 ++ wsX00 ++ wsX40 ++ wsX30 ++ wsX20 ++ wsX10 ++ ([] : List Cond)
/-- words by their places -/
theorem wx_pl {ws big : List Cond} (ps : List Nat) (hp : ws = ps.filterMap (fun i => big[i]?)) : ∀ w ∈ ws, w ∈ big := by
  intro w hw
  rw [hp] at hw
  obtain ⟨i, -, hi⟩ := List.mem_filterMap.mp hw
  exact List.mem_of_getElem? hi
theorem wx_am {a b : List Cond} {big : List Cond} (ha : ∀ w ∈ a, w ∈ big) (hb : ∀ w ∈ b, w ∈ big) : ∀ w ∈ a ++ b, w ∈ big := fun w h => (List.mem_append.mp h).elim (ha w) (hb w)
set_option maxRecDepth 20000 in
theorem wsL_law_in_1 : ∀ w ∈ wsL_law_r1, w ∈ lw_tbl := wx_pl [42, 43, 33, 119, 494, 44, 45, 46, 47, 48, 49, 50, 51, 34, 183, 184, 121, 122, 36, 185, 152, 153, 38, 186] (by decide +kernel)
set_option maxRecDepth 20000 in
theorem wsL_law_in_2 : ∀ w ∈ wsL_law_r2, w ∈ lw_tbl := wx_pl [169, 170, 39, 187, 188, 205, 189, 53, 54, 55, 61, 64, 66, 68, 70, 72, 74, 120, 77, 79, 80, 83, 86, 89] (by decide +kernel)
set_option maxRecDepth 20000 in
theorem wsL_law_in_3 : ∀ w ∈ wsL_law_r3, w ∈ lw_tbl := wx_pl [58, 60, 59, 35, 124, 125, 126, 127, 128, 37, 145, 146, 130, 131, 132, 135, 133, 136, 137, 155, 156, 157, 158, 161] (by decide +kernel)
set_option maxRecDepth 20000 in
theorem wsL_law_in_4 : ∀ w ∈ wsL_law_r4, w ∈ lw_tbl := wx_pl [162, 172, 173, 174, 175, 176, 396, 397, 32, 398, 399, 400, 401, 402, 403, 404, 420, 421, 422, 411, 412, 413, 234, 235] (by decide +kernel)
set_option maxRecDepth 20000 in
theorem wsL_law_in_5 : ∀ w ∈ wsL_law_r5, w ∈ lw_tbl := wx_pl [236, 237, 212, 0, 213, 216, 1, 217, 240, 5, 241, 243, 244, 246, 247, 248, 250, 6, 251, 253, 254, 255, 256, 257] (by decide +kernel)
set_option maxRecDepth 20000 in
theorem wsL_law_in_6 : ∀ w ∈ wsL_law_r6, w ∈ lw_tbl := wx_pl [226, 228, 3, 229, 232, 4, 233, 283, 284, 285, 286, 289, 11, 290, 291, 293, 12, 294, 414, 415, 416, 405, 406, 407] (by decide +kernel)
set_option maxRecDepth 20000 in
theorem wsL_law_in_7 : ∀ w ∈ wsL_law_r7, w ∈ lw_tbl := wx_pl [408, 409, 410, 258, 259, 260, 261, 264, 7, 265, 266, 268, 8, 269, 270, 272, 9, 273, 275, 276, 277, 278, 281, 10] (by decide +kernel)
set_option maxRecDepth 20000 in
theorem wsL_law_in_8 : ∀ w ∈ wsL_law_r8, w ∈ lw_tbl := wx_pl [282, 300, 301, 302, 303, 306, 13, 307, 308, 310, 14, 311, 312, 314, 15, 315, 316, 318, 16, 319, 321, 322, 323, 324] (by decide +kernel)
set_option maxRecDepth 20000 in
theorem wsL_law_in_9 : ∀ w ∈ wsL_law_r9, w ∈ lw_tbl := wx_pl [325, 326, 339, 340, 341, 342, 343, 344, 345, 346, 347, 348, 349, 336, 337, 338, 352, 18, 353, 356, 19, 357, 359, 361] (by decide +kernel)
set_option maxRecDepth 20000 in
theorem wsL_law_in_10 : ∀ w ∈ wsL_law_r10, w ∈ lw_tbl := wx_pl [20, 362, 374, 375, 40, 376, 365, 21, 366, 367, 370, 22, 371, 379, 23, 380, 381, 382, 383, 384, 385, 386, 327, 328] (by decide +kernel)
set_option maxRecDepth 20000 in
theorem wsL_law_in_11 : ∀ w ∈ wsL_law_r11, w ∈ lw_tbl := wx_pl [329, 330, 333, 17, 334, 417, 418, 419, 388, 389, 390, 391, 394, 24, 395, 423, 424, 425, 206, 207, 208, 209, 220, 2] (by decide +kernel)
theorem wsL_same_tbl : Cond.code yL_same cL_same 24 (some .boolean) ∈ lw_tbl := List.mem_of_getElem? (i := 428) rfl
set_option maxRecDepth 20000 in
theorem wsL_law_in_12a : ∀ w ∈ ([Cond.code yX0_change cX0_change 4 (some .int), Cond.methodLink RL 96 yX5_cool, Cond.instanceMethod yX5_cool, Cond.selects RX5 yX5_cool yX5_cool, Cond.code yX5_cool cX5_cool 2 (some .int), Cond.methodLink RL 100 yL_same, Cond.static yL_same] : List Cond), w ∈ lw_tbl := wx_pl [221, 295, 296, 297, 298, 426, 427] (by decide +kernel)
set_option maxRecDepth 20000 in
theorem wsL_law_in_12b : ∀ w ∈ ([Cond.methodLink RL 41 yX5_row, Cond.instanceMethod yX5_row, Cond.selects RX5 yX5_row yX5_row, Cond.code yX5_row cX5_row 3 (some .int), Cond.instanceMethod yX0_tracked, Cond.selects RX0 yX0_tracked yX0_tracked, Cond.code yX0_tracked cX0_tracked 4 (some .long), Cond.methodLink RX5 122 yX5_columnsOf, Cond.static yX5_columnsOf, Cond.code yX5_columnsOf cX5_columnsOf 3 (some .int), Cond.constantLong RX5 256 (255), Cond.instanceMethod yX0_suspects, Cond.selects RX0 yX0_suspects yX0_suspects, Cond.code yX0_suspects cX0_suspects 4 (some .long), Cond.methodLink RX0 118 yX0_isSuspect, Cond.instanceMethod yX4_fitting] : List Cond), w ∈ lw_tbl := wx_pl [429, 430, 431, 432, 435, 25, 436, 437, 438, 439, 440, 443, 26, 444, 445, 448] (by decide +kernel)
theorem wsL_law_in_12 : ∀ w ∈ wsL_law_r12, w ∈ lw_tbl := wx_am (a := [Cond.code yX0_change cX0_change 4 (some .int), Cond.methodLink RL 96 yX5_cool, Cond.instanceMethod yX5_cool, Cond.selects RX5 yX5_cool yX5_cool, Cond.code yX5_cool cX5_cool 2 (some .int), Cond.methodLink RL 100 yL_same, Cond.static yL_same]) wsL_law_in_12a (wx_am (a := [Cond.code yL_same cL_same 24 (some .boolean)]) (fun w hw => by rw [List.mem_singleton] at hw; rw [hw]; exact wsL_same_tbl) wsL_law_in_12b)
set_option maxRecDepth 20000 in
theorem wsL_law_in_13 : ∀ w ∈ wsL_law_r13, w ∈ lw_tbl := wx_pl [27, 449, 450, 451, 452, 453, 454, 456, 457, 458, 459, 460, 461, 462, 463, 464, 467, 28, 468, 471, 29, 472, 473, 474] (by decide +kernel)
set_option maxRecDepth 20000 in
theorem wsL_law_in_14 : ∀ w ∈ wsL_law_r14, w ∈ lw_tbl := wx_pl [475, 476, 478, 479, 41, 480, 481, 482, 483, 486, 30, 487, 492, 31, 493] (by decide +kernel)
set_option maxRecDepth 20000 in
theorem wsL_law_in_c0 : ∀ w ∈ wsX00, w ∈ lw_tbl := wx_pl [92, 94, 96, 98, 100, 102, 104, 106, 108, 110, 112, 114, 116] (by decide +kernel)
set_option maxRecDepth 20000 in
theorem wsL_law_in_c1 : ∀ w ∈ wsX10, w ∈ lw_tbl := wx_pl [138, 140, 142] (by decide +kernel)
set_option maxRecDepth 20000 in
theorem wsL_law_in_c2 : ∀ w ∈ wsX20, w ∈ lw_tbl := wx_pl [178, 180] (by decide +kernel)
set_option maxRecDepth 20000 in
theorem wsL_law_in_c3 : ∀ w ∈ wsX30, w ∈ lw_tbl := wx_pl [164, 166] (by decide +kernel)
set_option maxRecDepth 20000 in
theorem wsL_law_in_c4 : ∀ w ∈ wsX40, w ∈ lw_tbl := wx_pl [147, 149] (by decide +kernel)
set_option maxRecDepth 20000 in
theorem wsL_law_in_c5 : ∀ w ∈ wsX50, w ∈ lw_tbl := wx_pl [190, 192, 194, 196, 198, 200, 202] (by decide +kernel)
theorem wsL_law_in : ∀ w ∈ wsL_law, w ∈ lw_tbl := by
  unfold wsL_law
  exact wx_am (wx_am (wx_am (wx_am (wx_am (wx_am (wx_am (wx_am wsL_law_in_1 (wx_am wsL_law_in_2 (wx_am wsL_law_in_3 (wx_am wsL_law_in_4 (wx_am wsL_law_in_5 (wx_am wsL_law_in_6 (wx_am wsL_law_in_7 (wx_am wsL_law_in_8 (wx_am wsL_law_in_9 (wx_am wsL_law_in_10 (wx_am wsL_law_in_11 (wx_am wsL_law_in_12 (wx_am wsL_law_in_13 wsL_law_in_14))))))))))))) wsL_law_in_c5) wsL_law_in_c0) wsL_law_in_c4) wsL_law_in_c3) wsL_law_in_c2) wsL_law_in_c1) (fun _ h => absurd h List.not_mem_nil)
theorem inlX0 : ∀ w ∈ wsX00, w ∈ wsL_law := fun _ h => List.mem_append_left _ (List.mem_append_left _ (List.mem_append_left _ (List.mem_append_left _ (List.mem_append_left _ (List.mem_append_right _ h)))))
theorem inX0 : ∀ w ∈ wsX00, w ∈ lw_tbl := fun w h => wsL_law_in w (inlX0 w h)
theorem inlX1 : ∀ w ∈ wsX10, w ∈ wsL_law := fun _ h => List.mem_append_left _ (List.mem_append_right _ h)
theorem inX1 : ∀ w ∈ wsX10, w ∈ lw_tbl := fun w h => wsL_law_in w (inlX1 w h)
theorem inlX2 : ∀ w ∈ wsX20, w ∈ wsL_law := fun _ h => List.mem_append_left _ (List.mem_append_left _ (List.mem_append_right _ h))
theorem inX2 : ∀ w ∈ wsX20, w ∈ lw_tbl := fun w h => wsL_law_in w (inlX2 w h)
theorem inlX3 : ∀ w ∈ wsX30, w ∈ wsL_law := fun _ h => List.mem_append_left _ (List.mem_append_left _ (List.mem_append_left _ (List.mem_append_right _ h)))
theorem inX3 : ∀ w ∈ wsX30, w ∈ lw_tbl := fun w h => wsL_law_in w (inlX3 w h)
theorem inlX4 : ∀ w ∈ wsX40, w ∈ wsL_law := fun _ h => List.mem_append_left _ (List.mem_append_left _ (List.mem_append_left _ (List.mem_append_left _ (List.mem_append_right _ h))))
theorem inX4 : ∀ w ∈ wsX40, w ∈ lw_tbl := fun w h => wsL_law_in w (inlX4 w h)
theorem inlX5 : ∀ w ∈ wsX50, w ∈ wsL_law := fun _ h => List.mem_append_left _ (List.mem_append_left _ (List.mem_append_left _ (List.mem_append_left _ (List.mem_append_left _ (List.mem_append_left _ (List.mem_append_right _ h))))))
theorem inX5 : ∀ w ∈ wsX50, w ∈ lw_tbl := fun w h => wsL_law_in w (inlX5 w h)
theorem inX6 : ∀ w ∈ wsX60, w ∈ lw_tbl := by decide +kernel
theorem inJ13 : ∀ w ∈ wsJ130, w ∈ lw_tbl := by decide +kernel
theorem inJ9 : ∀ w ∈ wsJ90, w ∈ lw_tbl := by decide +kernel
theorem inJ10 : ∀ w ∈ wsJ100, w ∈ lw_tbl := by decide +kernel
theorem dX0_init_0 : decode cX0_init 0 = .ok (.aload_n 0, 1) := by decide +kernel
theorem dX0_init_1 : decode cX0_init 1 = .ok (.invokespecial 3, 3) := by decide +kernel
theorem dX0_init_4 : decode cX0_init 4 = .ok (.aload_n 0, 1) := by decide +kernel
theorem dX0_init_5 : decode cX0_init 5 = .ok (.iconst 4, 1) := by decide +kernel
theorem dX0_init_6 : decode cX0_init 6 = .ok (.newarray .int, 2) := by decide +kernel
theorem dX0_init_8 : decode cX0_init 8 = .ok (.putfield 9, 3) := by decide +kernel
theorem dX0_init_11 : decode cX0_init 11 = .ok (.aload_n 0, 1) := by decide +kernel
theorem dX0_init_12 : decode cX0_init 12 = .ok (.bipush 64, 2) := by decide +kernel
theorem dX0_init_14 : decode cX0_init 14 = .ok (.newarray .int, 2) := by decide +kernel
theorem dX0_init_16 : decode cX0_init 16 = .ok (.putfield 15, 3) := by decide +kernel
theorem dX0_init_19 : decode cX0_init 19 = .ok (.aload_n 0, 1) := by decide +kernel
theorem dX0_init_20 : decode cX0_init 20 = .ok (.bipush 8, 2) := by decide +kernel
theorem dX0_init_22 : decode cX0_init 22 = .ok (.newarray .int, 2) := by decide +kernel
theorem dX0_init_24 : decode cX0_init 24 = .ok (.putfield 18, 3) := by decide +kernel
theorem dX0_init_27 : decode cX0_init 27 = .ok (.aload_n 0, 1) := by decide +kernel
theorem dX0_init_28 : decode cX0_init 28 = .ok (.iconst 0, 1) := by decide +kernel
theorem dX0_init_29 : decode cX0_init 29 = .ok (.putfield 21, 3) := by decide +kernel
theorem dX0_init_32 : decode cX0_init 32 = .ok (.aload_n 0, 1) := by decide +kernel
theorem dX0_init_33 : decode cX0_init 33 = .ok (.iconst 3, 1) := by decide +kernel
theorem dX0_init_34 : decode cX0_init 34 = .ok (.newarray .int, 2) := by decide +kernel
theorem dX0_init_36 : decode cX0_init 36 = .ok (.putfield 25, 3) := by decide +kernel
theorem dX0_init_39 : decode cX0_init 39 = .ok (.aload_n 0, 1) := by decide +kernel
theorem dX0_init_40 : decode cX0_init 40 = .ok (.iconst 3, 1) := by decide +kernel
theorem dX0_init_41 : decode cX0_init 41 = .ok (.newarray .int, 2) := by decide +kernel
theorem dX0_init_43 : decode cX0_init 43 = .ok (.putfield 28, 3) := by decide +kernel
theorem dX0_init_46 : decode cX0_init 46 = .ok (.aload_n 0, 1) := by decide +kernel
theorem dX0_init_47 : decode cX0_init 47 = .ok (.iconst 0, 1) := by decide +kernel
theorem dX0_init_48 : decode cX0_init 48 = .ok (.putfield 31, 3) := by decide +kernel
theorem dX0_init_51 : decode cX0_init 51 = .ok (.aload_n 0, 1) := by decide +kernel
theorem dX0_init_52 : decode cX0_init 52 = .ok (.bipush 64, 2) := by decide +kernel
theorem dX0_init_54 : decode cX0_init 54 = .ok (.newarray .float, 2) := by decide +kernel
theorem dX0_init_56 : decode cX0_init 56 = .ok (.putfield 34, 3) := by decide +kernel
theorem dX0_init_59 : decode cX0_init 59 = .ok (.aload_n 0, 1) := by decide +kernel
theorem dX0_init_60 : decode cX0_init 60 = .ok (.bipush 64, 2) := by decide +kernel
theorem dX0_init_62 : decode cX0_init 62 = .ok (.newarray .float, 2) := by decide +kernel
theorem dX0_init_64 : decode cX0_init 64 = .ok (.putfield 38, 3) := by decide +kernel
theorem dX0_init_67 : decode cX0_init 67 = .ok (.aload_n 0, 1) := by decide +kernel
theorem dX0_init_68 : decode cX0_init 68 = .ok (.iconst 0, 1) := by decide +kernel
theorem dX0_init_69 : decode cX0_init 69 = .ok (.putfield 41, 3) := by decide +kernel
theorem dX0_init_72 : decode cX0_init 72 = .ok (.aload_n 0, 1) := by decide +kernel
theorem dX0_init_73 : decode cX0_init 73 = .ok (.bipush 8, 2) := by decide +kernel
theorem dX0_init_75 : decode cX0_init 75 = .ok (.newarray .int, 2) := by decide +kernel
theorem dX0_init_77 : decode cX0_init 77 = .ok (.putfield 44, 3) := by decide +kernel
theorem dX0_init_80 : decode cX0_init 80 = .ok (.aload_n 0, 1) := by decide +kernel
theorem dX0_init_81 : decode cX0_init 81 = .ok (.bipush 8, 2) := by decide +kernel
theorem dX0_init_83 : decode cX0_init 83 = .ok (.newarray .int, 2) := by decide +kernel
theorem dX0_init_85 : decode cX0_init 85 = .ok (.putfield 47, 3) := by decide +kernel
theorem dX0_init_88 : decode cX0_init 88 = .ok (.aload_n 0, 1) := by decide +kernel
theorem dX0_init_89 : decode cX0_init 89 = .ok (.bipush 8, 2) := by decide +kernel
theorem dX0_init_91 : decode cX0_init 91 = .ok (.newarray .int, 2) := by decide +kernel
theorem dX0_init_93 : decode cX0_init 93 = .ok (.putfield 50, 3) := by decide +kernel
theorem dX0_init_96 : decode cX0_init 96 = .ok (.getstatic 53, 3) := by decide +kernel
theorem dX0_init_99 : decode cX0_init 99 = .ok (.iconst 0, 1) := by decide +kernel
theorem dX0_init_100 : decode cX0_init 100 = .ok (.aload_n 0, 1) := by decide +kernel
theorem dX0_init_101 : decode cX0_init 101 = .ok (.getfield 9, 3) := by decide +kernel
theorem dX0_init_104 : decode cX0_init 104 = .ok (.iconst 0, 1) := by decide +kernel
theorem dX0_init_105 : decode cX0_init 105 = .ok (.iconst 4, 1) := by decide +kernel
theorem dX0_init_106 : decode cX0_init 106 = .ok (.invokestatic 56, 3) := by decide +kernel
theorem dX0_init_109 : decode cX0_init 109 = .ok (.return_, 1) := by decide +kernel
theorem dX0_takeOver_0 : decode cX0_takeOver 0 = .ok (.aload_n 1, 1) := by decide +kernel
theorem dX0_takeOver_1 : decode cX0_takeOver 1 = .ok (.getfield 9, 3) := by decide +kernel
theorem dX0_takeOver_4 : decode cX0_takeOver 4 = .ok (.iconst 0, 1) := by decide +kernel
theorem dX0_takeOver_5 : decode cX0_takeOver 5 = .ok (.aload_n 0, 1) := by decide +kernel
theorem dX0_takeOver_6 : decode cX0_takeOver 6 = .ok (.getfield 9, 3) := by decide +kernel
theorem dX0_takeOver_9 : decode cX0_takeOver 9 = .ok (.iconst 0, 1) := by decide +kernel
theorem dX0_takeOver_10 : decode cX0_takeOver 10 = .ok (.iconst 4, 1) := by decide +kernel
theorem dX0_takeOver_11 : decode cX0_takeOver 11 = .ok (.invokestatic 56, 3) := by decide +kernel
theorem dX0_takeOver_14 : decode cX0_takeOver 14 = .ok (.aload_n 1, 1) := by decide +kernel
theorem dX0_takeOver_15 : decode cX0_takeOver 15 = .ok (.getfield 15, 3) := by decide +kernel
theorem dX0_takeOver_18 : decode cX0_takeOver 18 = .ok (.iconst 0, 1) := by decide +kernel
theorem dX0_takeOver_19 : decode cX0_takeOver 19 = .ok (.aload_n 0, 1) := by decide +kernel
theorem dX0_takeOver_20 : decode cX0_takeOver 20 = .ok (.getfield 15, 3) := by decide +kernel
theorem dX0_takeOver_23 : decode cX0_takeOver 23 = .ok (.iconst 0, 1) := by decide +kernel
theorem dX0_takeOver_24 : decode cX0_takeOver 24 = .ok (.bipush 64, 2) := by decide +kernel
theorem dX0_takeOver_26 : decode cX0_takeOver 26 = .ok (.invokestatic 56, 3) := by decide +kernel
theorem dX0_takeOver_29 : decode cX0_takeOver 29 = .ok (.aload_n 1, 1) := by decide +kernel
theorem dX0_takeOver_30 : decode cX0_takeOver 30 = .ok (.getfield 18, 3) := by decide +kernel
theorem dX0_takeOver_33 : decode cX0_takeOver 33 = .ok (.iconst 0, 1) := by decide +kernel
theorem dX0_takeOver_34 : decode cX0_takeOver 34 = .ok (.aload_n 0, 1) := by decide +kernel
theorem dX0_takeOver_35 : decode cX0_takeOver 35 = .ok (.getfield 18, 3) := by decide +kernel
theorem dX0_takeOver_38 : decode cX0_takeOver 38 = .ok (.iconst 0, 1) := by decide +kernel
theorem dX0_takeOver_39 : decode cX0_takeOver 39 = .ok (.bipush 8, 2) := by decide +kernel
theorem dX0_takeOver_41 : decode cX0_takeOver 41 = .ok (.invokestatic 56, 3) := by decide +kernel
theorem dX0_takeOver_44 : decode cX0_takeOver 44 = .ok (.aload_n 0, 1) := by decide +kernel
theorem dX0_takeOver_45 : decode cX0_takeOver 45 = .ok (.aload_n 1, 1) := by decide +kernel
theorem dX0_takeOver_46 : decode cX0_takeOver 46 = .ok (.getfield 21, 3) := by decide +kernel
theorem dX0_takeOver_49 : decode cX0_takeOver 49 = .ok (.putfield 21, 3) := by decide +kernel
theorem dX0_takeOver_52 : decode cX0_takeOver 52 = .ok (.aload_n 1, 1) := by decide +kernel
theorem dX0_takeOver_53 : decode cX0_takeOver 53 = .ok (.getfield 25, 3) := by decide +kernel
theorem dX0_takeOver_56 : decode cX0_takeOver 56 = .ok (.iconst 0, 1) := by decide +kernel
theorem dX0_takeOver_57 : decode cX0_takeOver 57 = .ok (.aload_n 0, 1) := by decide +kernel
theorem dX0_takeOver_58 : decode cX0_takeOver 58 = .ok (.getfield 25, 3) := by decide +kernel
theorem dX0_takeOver_61 : decode cX0_takeOver 61 = .ok (.iconst 0, 1) := by decide +kernel
theorem dX0_takeOver_62 : decode cX0_takeOver 62 = .ok (.iconst 3, 1) := by decide +kernel
theorem dX0_takeOver_63 : decode cX0_takeOver 63 = .ok (.invokestatic 56, 3) := by decide +kernel
theorem dX0_takeOver_66 : decode cX0_takeOver 66 = .ok (.aload_n 1, 1) := by decide +kernel
theorem dX0_takeOver_67 : decode cX0_takeOver 67 = .ok (.getfield 28, 3) := by decide +kernel
theorem dX0_takeOver_70 : decode cX0_takeOver 70 = .ok (.iconst 0, 1) := by decide +kernel
theorem dX0_takeOver_71 : decode cX0_takeOver 71 = .ok (.aload_n 0, 1) := by decide +kernel
theorem dX0_takeOver_72 : decode cX0_takeOver 72 = .ok (.getfield 28, 3) := by decide +kernel
theorem dX0_takeOver_75 : decode cX0_takeOver 75 = .ok (.iconst 0, 1) := by decide +kernel
theorem dX0_takeOver_76 : decode cX0_takeOver 76 = .ok (.iconst 3, 1) := by decide +kernel
theorem dX0_takeOver_77 : decode cX0_takeOver 77 = .ok (.invokestatic 56, 3) := by decide +kernel
theorem dX0_takeOver_80 : decode cX0_takeOver 80 = .ok (.aload_n 0, 1) := by decide +kernel
theorem dX0_takeOver_81 : decode cX0_takeOver 81 = .ok (.aload_n 1, 1) := by decide +kernel
theorem dX0_takeOver_82 : decode cX0_takeOver 82 = .ok (.getfield 31, 3) := by decide +kernel
theorem dX0_takeOver_85 : decode cX0_takeOver 85 = .ok (.putfield 31, 3) := by decide +kernel
theorem dX0_takeOver_88 : decode cX0_takeOver 88 = .ok (.aload_n 1, 1) := by decide +kernel
theorem dX0_takeOver_89 : decode cX0_takeOver 89 = .ok (.getfield 34, 3) := by decide +kernel
theorem dX0_takeOver_92 : decode cX0_takeOver 92 = .ok (.iconst 0, 1) := by decide +kernel
theorem dX0_takeOver_93 : decode cX0_takeOver 93 = .ok (.aload_n 0, 1) := by decide +kernel
theorem dX0_takeOver_94 : decode cX0_takeOver 94 = .ok (.getfield 34, 3) := by decide +kernel
theorem dX0_takeOver_97 : decode cX0_takeOver 97 = .ok (.iconst 0, 1) := by decide +kernel
theorem dX0_takeOver_98 : decode cX0_takeOver 98 = .ok (.bipush 64, 2) := by decide +kernel
theorem dX0_takeOver_100 : decode cX0_takeOver 100 = .ok (.invokestatic 56, 3) := by decide +kernel
theorem dX0_takeOver_103 : decode cX0_takeOver 103 = .ok (.aload_n 0, 1) := by decide +kernel
theorem dX0_takeOver_104 : decode cX0_takeOver 104 = .ok (.aload_n 1, 1) := by decide +kernel
theorem dX0_takeOver_105 : decode cX0_takeOver 105 = .ok (.getfield 41, 3) := by decide +kernel
theorem dX0_takeOver_108 : decode cX0_takeOver 108 = .ok (.putfield 41, 3) := by decide +kernel
theorem dX0_takeOver_111 : decode cX0_takeOver 111 = .ok (.aload_n 1, 1) := by decide +kernel
theorem dX0_takeOver_112 : decode cX0_takeOver 112 = .ok (.getfield 44, 3) := by decide +kernel
theorem dX0_takeOver_115 : decode cX0_takeOver 115 = .ok (.iconst 0, 1) := by decide +kernel
theorem dX0_takeOver_116 : decode cX0_takeOver 116 = .ok (.aload_n 0, 1) := by decide +kernel
theorem dX0_takeOver_117 : decode cX0_takeOver 117 = .ok (.getfield 44, 3) := by decide +kernel
theorem dX0_takeOver_120 : decode cX0_takeOver 120 = .ok (.iconst 0, 1) := by decide +kernel
theorem dX0_takeOver_121 : decode cX0_takeOver 121 = .ok (.bipush 8, 2) := by decide +kernel
theorem dX0_takeOver_123 : decode cX0_takeOver 123 = .ok (.invokestatic 56, 3) := by decide +kernel
theorem dX0_takeOver_126 : decode cX0_takeOver 126 = .ok (.aload_n 1, 1) := by decide +kernel
theorem dX0_takeOver_127 : decode cX0_takeOver 127 = .ok (.getfield 47, 3) := by decide +kernel
theorem dX0_takeOver_130 : decode cX0_takeOver 130 = .ok (.iconst 0, 1) := by decide +kernel
theorem dX0_takeOver_131 : decode cX0_takeOver 131 = .ok (.aload_n 0, 1) := by decide +kernel
theorem dX0_takeOver_132 : decode cX0_takeOver 132 = .ok (.getfield 47, 3) := by decide +kernel
theorem dX0_takeOver_135 : decode cX0_takeOver 135 = .ok (.iconst 0, 1) := by decide +kernel
theorem dX0_takeOver_136 : decode cX0_takeOver 136 = .ok (.bipush 8, 2) := by decide +kernel
theorem dX0_takeOver_138 : decode cX0_takeOver 138 = .ok (.invokestatic 56, 3) := by decide +kernel
theorem dX0_takeOver_141 : decode cX0_takeOver 141 = .ok (.aload_n 1, 1) := by decide +kernel
theorem dX0_takeOver_142 : decode cX0_takeOver 142 = .ok (.getfield 50, 3) := by decide +kernel
theorem dX0_takeOver_145 : decode cX0_takeOver 145 = .ok (.iconst 0, 1) := by decide +kernel
theorem dX0_takeOver_146 : decode cX0_takeOver 146 = .ok (.aload_n 0, 1) := by decide +kernel
theorem dX0_takeOver_147 : decode cX0_takeOver 147 = .ok (.getfield 50, 3) := by decide +kernel
theorem dX0_takeOver_150 : decode cX0_takeOver 150 = .ok (.iconst 0, 1) := by decide +kernel
theorem dX0_takeOver_151 : decode cX0_takeOver 151 = .ok (.bipush 8, 2) := by decide +kernel
theorem dX0_takeOver_153 : decode cX0_takeOver 153 = .ok (.invokestatic 56, 3) := by decide +kernel
theorem dX0_takeOver_156 : decode cX0_takeOver 156 = .ok (.return_, 1) := by decide +kernel
theorem dX0_beginRun_0 : decode cX0_beginRun 0 = .ok (.aload_n 0, 1) := by decide +kernel
theorem dX0_beginRun_1 : decode cX0_beginRun 1 = .ok (.iconst 0, 1) := by decide +kernel
theorem dX0_beginRun_2 : decode cX0_beginRun 2 = .ok (.putfield 31, 3) := by decide +kernel
theorem dX0_beginRun_5 : decode cX0_beginRun 5 = .ok (.aload_n 0, 1) := by decide +kernel
theorem dX0_beginRun_6 : decode cX0_beginRun 6 = .ok (.iconst 0, 1) := by decide +kernel
theorem dX0_beginRun_7 : decode cX0_beginRun 7 = .ok (.putfield 41, 3) := by decide +kernel
theorem dX0_beginRun_10 : decode cX0_beginRun 10 = .ok (.iconst 0, 1) := by decide +kernel
theorem dX0_beginRun_11 : decode cX0_beginRun 11 = .ok (.istore_n 1, 1) := by decide +kernel
theorem dX0_beginRun_12 : decode cX0_beginRun 12 = .ok (.iload_n 1, 1) := by decide +kernel
theorem dX0_beginRun_13 : decode cX0_beginRun 13 = .ok (.bipush 64, 2) := by decide +kernel
theorem dX0_beginRun_15 : decode cX0_beginRun 15 = .ok (.if_icmp .ge 16, 3) := by decide +kernel
theorem dX0_beginRun_18 : decode cX0_beginRun 18 = .ok (.aload_n 0, 1) := by decide +kernel
theorem dX0_beginRun_19 : decode cX0_beginRun 19 = .ok (.getfield 34, 3) := by decide +kernel
theorem dX0_beginRun_22 : decode cX0_beginRun 22 = .ok (.iload_n 1, 1) := by decide +kernel
theorem dX0_beginRun_23 : decode cX0_beginRun 23 = .ok (.fconst 0, 1) := by decide +kernel
theorem dX0_beginRun_24 : decode cX0_beginRun 24 = .ok (.fastore, 1) := by decide +kernel
theorem dX0_beginRun_25 : decode cX0_beginRun 25 = .ok (.iinc 1 1, 3) := by decide +kernel
theorem dX0_beginRun_28 : decode cX0_beginRun 28 = .ok (.goto (-16), 3) := by decide +kernel
theorem dX0_beginRun_31 : decode cX0_beginRun 31 = .ok (.return_, 1) := by decide +kernel
set_option maxRecDepth 20000 in
theorem ggX0_change_X0_beginRun : GoodIn wsX0_change wsX0_beginRun := goodIn_r _ [6, 7, 8, 9, 10, 11, 12, 13, 14, 15, 16, 17, 18, 19, 20, 21, 22] (by decide +kernel) (by decide +kernel)
set_option maxRecDepth 20000 in
theorem gX0_change_X0_beginRun : GoodIn wsX0_change (wsV RX0 68 RX0 yX0_beginRun wsX0_beginRun) := goodIn_app (goodIn_of _ (by decide +kernel)) ggX0_change_X0_beginRun
theorem dX0_change_0 : decode cX0_change 0 = .ok (.iload_n 1, 1) := by decide +kernel
theorem dX0_change_1 : decode cX0_change 1 = .ok (.ifCond .lt 8, 3) := by decide +kernel
theorem dX0_change_4 : decode cX0_change 4 = .ok (.iload_n 1, 1) := by decide +kernel
theorem dX0_change_5 : decode cX0_change 5 = .ok (.iconst 4, 1) := by decide +kernel
theorem dX0_change_6 : decode cX0_change 6 = .ok (.if_icmp .lt 6, 3) := by decide +kernel
theorem dX0_change_9 : decode cX0_change 9 = .ok (.bipush (-2), 2) := by decide +kernel
theorem dX0_change_11 : decode cX0_change 11 = .ok (.ireturn, 1) := by decide +kernel
theorem dX0_change_12 : decode cX0_change 12 = .ok (.iload_n 2, 1) := by decide +kernel
theorem dX0_change_13 : decode cX0_change 13 = .ok (.getstatic 62, 3) := by decide +kernel
theorem dX0_change_16 : decode cX0_change 16 = .ok (.iload_n 1, 1) := by decide +kernel
theorem dX0_change_17 : decode cX0_change 17 = .ok (.iaload, 1) := by decide +kernel
theorem dX0_change_18 : decode cX0_change 18 = .ok (.if_icmp .lt 12, 3) := by decide +kernel
theorem dX0_change_21 : decode cX0_change 21 = .ok (.iload_n 2, 1) := by decide +kernel
theorem dX0_change_22 : decode cX0_change 22 = .ok (.getstatic 65, 3) := by decide +kernel
theorem dX0_change_25 : decode cX0_change 25 = .ok (.iload_n 1, 1) := by decide +kernel
theorem dX0_change_26 : decode cX0_change 26 = .ok (.iaload, 1) := by decide +kernel
theorem dX0_change_27 : decode cX0_change 27 = .ok (.if_icmp .le 6, 3) := by decide +kernel
theorem dX0_change_30 : decode cX0_change 30 = .ok (.bipush (-2), 2) := by decide +kernel
theorem dX0_change_32 : decode cX0_change 32 = .ok (.ireturn, 1) := by decide +kernel
theorem dX0_change_33 : decode cX0_change 33 = .ok (.aload_n 0, 1) := by decide +kernel
theorem dX0_change_34 : decode cX0_change 34 = .ok (.getfield 9, 3) := by decide +kernel
theorem dX0_change_37 : decode cX0_change 37 = .ok (.iload_n 1, 1) := by decide +kernel
theorem dX0_change_38 : decode cX0_change 38 = .ok (.iaload, 1) := by decide +kernel
theorem dX0_change_39 : decode cX0_change 39 = .ok (.istore_n 3, 1) := by decide +kernel
theorem dX0_change_40 : decode cX0_change 40 = .ok (.aload_n 0, 1) := by decide +kernel
theorem dX0_change_41 : decode cX0_change 41 = .ok (.getfield 9, 3) := by decide +kernel
theorem dX0_change_44 : decode cX0_change 44 = .ok (.iload_n 1, 1) := by decide +kernel
theorem dX0_change_45 : decode cX0_change 45 = .ok (.iload_n 2, 1) := by decide +kernel
theorem dX0_change_46 : decode cX0_change 46 = .ok (.iastore, 1) := by decide +kernel
theorem dX0_change_47 : decode cX0_change 47 = .ok (.iload_n 1, 1) := by decide +kernel
theorem dX0_change_48 : decode cX0_change 48 = .ok (.iconst 3, 1) := by decide +kernel
theorem dX0_change_49 : decode cX0_change 49 = .ok (.if_icmp .eq 7, 3) := by decide +kernel
theorem dX0_change_52 : decode cX0_change 52 = .ok (.aload_n 0, 1) := by decide +kernel
theorem dX0_change_53 : decode cX0_change 53 = .ok (.invokevirtual 68, 3) := by decide +kernel
theorem dX0_change_56 : decode cX0_change 56 = .ok (.iload_n 3, 1) := by decide +kernel
theorem dX0_change_57 : decode cX0_change 57 = .ok (.ireturn, 1) := by decide +kernel
set_option maxRecDepth 20000 in
theorem ggX0_lay_X5_placeOf : GoodIn wsX0_lay wsX5_placeOf := goodIn_r _ [4] (by decide +kernel) (by decide +kernel)
set_option maxRecDepth 20000 in
theorem gX0_lay_X5_placeOf_n71 : GoodIn wsX0_lay (wsX5_placeOf) := ggX0_lay_X5_placeOf
set_option maxRecDepth 20000 in
theorem ggX0_lay_X5_isNet : GoodIn wsX0_lay wsX5_isNet := goodIn_r _ [6] (by decide +kernel) (by decide +kernel)
set_option maxRecDepth 20000 in
theorem gX0_lay_X5_isNet_n75 : GoodIn wsX0_lay (wsX5_isNet) := ggX0_lay_X5_isNet
set_option maxRecDepth 20000 in
theorem ggX0_lay_X0_isNeededByTouch : GoodIn wsX0_lay wsX0_isNeededByTouch := goodIn_r _ [11, 12, 13, 14, 1, 15, 3, 16, 17, 18, 19, 27, 28, 29, 30, 31, 32, 33, 34, 35, 36, 37, 38, 39] (by decide +kernel) (by decide +kernel)
set_option maxRecDepth 20000 in
theorem gX0_lay_X0_isNeededByTouch : GoodIn wsX0_lay (wsV RX0 79 RX0 yX0_isNeededByTouch wsX0_isNeededByTouch) := goodIn_app (goodIn_of _ (by decide +kernel)) ggX0_lay_X0_isNeededByTouch
set_option maxRecDepth 20000 in
theorem ggX0_lay_X0_beginRun : GoodIn wsX0_lay wsX0_beginRun := goodIn_r _ [23, 24, 25, 26, 27, 28, 29, 30, 31, 32, 33, 34, 35, 36, 37, 38, 39] (by decide +kernel) (by decide +kernel)
set_option maxRecDepth 20000 in
theorem gX0_lay_X0_beginRun : GoodIn wsX0_lay (wsV RX0 68 RX0 yX0_beginRun wsX0_beginRun) := goodIn_app (goodIn_of _ (by decide +kernel)) ggX0_lay_X0_beginRun
theorem dX0_lay_0 : decode cX0_lay 0 = .ok (.iload_n 1, 1) := by decide +kernel
theorem dX0_lay_1 : decode cX0_lay 1 = .ok (.iload_n 2, 1) := by decide +kernel
theorem dX0_lay_2 : decode cX0_lay 2 = .ok (.invokestatic 71, 3) := by decide +kernel
theorem dX0_lay_5 : decode cX0_lay 5 = .ok (.istore 4, 2) := by decide +kernel
theorem dX0_lay_7 : decode cX0_lay 7 = .ok (.iload 4, 2) := by decide +kernel
theorem dX0_lay_9 : decode cX0_lay 9 = .ok (.ifCond .ge 5, 3) := by decide +kernel
theorem dX0_lay_12 : decode cX0_lay 12 = .ok (.iconst (-1), 1) := by decide +kernel
theorem dX0_lay_13 : decode cX0_lay 13 = .ok (.ireturn, 1) := by decide +kernel
theorem dX0_lay_14 : decode cX0_lay 14 = .ok (.iload_n 3, 1) := by decide +kernel
theorem dX0_lay_15 : decode cX0_lay 15 = .ok (.ifCond .eq 13, 3) := by decide +kernel
theorem dX0_lay_18 : decode cX0_lay 18 = .ok (.iload_n 3, 1) := by decide +kernel
theorem dX0_lay_19 : decode cX0_lay 19 = .ok (.invokestatic 75, 3) := by decide +kernel
theorem dX0_lay_22 : decode cX0_lay 22 = .ok (.ifCond .ne 6, 3) := by decide +kernel
theorem dX0_lay_25 : decode cX0_lay 25 = .ok (.bipush (-2), 2) := by decide +kernel
theorem dX0_lay_27 : decode cX0_lay 27 = .ok (.ireturn, 1) := by decide +kernel
theorem dX0_lay_28 : decode cX0_lay 28 = .ok (.aload_n 0, 1) := by decide +kernel
theorem dX0_lay_29 : decode cX0_lay 29 = .ok (.iload 4, 2) := by decide +kernel
theorem dX0_lay_31 : decode cX0_lay 31 = .ok (.invokevirtual 79, 3) := by decide +kernel
theorem dX0_lay_34 : decode cX0_lay 34 = .ok (.ifCond .eq 6, 3) := by decide +kernel
theorem dX0_lay_37 : decode cX0_lay 37 = .ok (.bipush (-5), 2) := by decide +kernel
theorem dX0_lay_39 : decode cX0_lay 39 = .ok (.ireturn, 1) := by decide +kernel
theorem dX0_lay_40 : decode cX0_lay 40 = .ok (.aload_n 0, 1) := by decide +kernel
theorem dX0_lay_41 : decode cX0_lay 41 = .ok (.getfield 15, 3) := by decide +kernel
theorem dX0_lay_44 : decode cX0_lay 44 = .ok (.iload 4, 2) := by decide +kernel
theorem dX0_lay_46 : decode cX0_lay 46 = .ok (.iaload, 1) := by decide +kernel
theorem dX0_lay_47 : decode cX0_lay 47 = .ok (.istore 5, 2) := by decide +kernel
theorem dX0_lay_49 : decode cX0_lay 49 = .ok (.aload_n 0, 1) := by decide +kernel
theorem dX0_lay_50 : decode cX0_lay 50 = .ok (.getfield 15, 3) := by decide +kernel
theorem dX0_lay_53 : decode cX0_lay 53 = .ok (.iload 4, 2) := by decide +kernel
theorem dX0_lay_55 : decode cX0_lay 55 = .ok (.iload_n 3, 1) := by decide +kernel
theorem dX0_lay_56 : decode cX0_lay 56 = .ok (.iastore, 1) := by decide +kernel
theorem dX0_lay_57 : decode cX0_lay 57 = .ok (.aload_n 0, 1) := by decide +kernel
theorem dX0_lay_58 : decode cX0_lay 58 = .ok (.invokevirtual 68, 3) := by decide +kernel
theorem dX0_lay_61 : decode cX0_lay 61 = .ok (.iload 5, 2) := by decide +kernel
theorem dX0_lay_63 : decode cX0_lay 63 = .ok (.ireturn, 1) := by decide +kernel
set_option maxRecDepth 20000 in
theorem ggX0_isNeededByTouch_X5_areNeighbours : GoodIn wsX0_isNeededByTouch wsX5_areNeighbours := goodIn_r _ [7, 8, 9, 6, 10] (by decide +kernel) (by decide +kernel)
set_option maxRecDepth 20000 in
theorem gX0_isNeededByTouch_X5_areNeighbours_n82 : GoodIn wsX0_isNeededByTouch (wsX5_areNeighbours) := ggX0_isNeededByTouch_X5_areNeighbours
theorem dX0_isNeededByTouch_0 : decode cX0_isNeededByTouch 0 = .ok (.iconst 0, 1) := by decide +kernel
theorem dX0_isNeededByTouch_1 : decode cX0_isNeededByTouch 1 = .ok (.istore_n 2, 1) := by decide +kernel
theorem dX0_isNeededByTouch_2 : decode cX0_isNeededByTouch 2 = .ok (.iload_n 2, 1) := by decide +kernel
theorem dX0_isNeededByTouch_3 : decode cX0_isNeededByTouch 3 = .ok (.aload_n 0, 1) := by decide +kernel
theorem dX0_isNeededByTouch_4 : decode cX0_isNeededByTouch 4 = .ok (.getfield 21, 3) := by decide +kernel
theorem dX0_isNeededByTouch_7 : decode cX0_isNeededByTouch 7 = .ok (.if_icmp .ge 51, 3) := by decide +kernel
theorem dX0_isNeededByTouch_10 : decode cX0_isNeededByTouch 10 = .ok (.aload_n 0, 1) := by decide +kernel
theorem dX0_isNeededByTouch_11 : decode cX0_isNeededByTouch 11 = .ok (.getfield 25, 3) := by decide +kernel
theorem dX0_isNeededByTouch_14 : decode cX0_isNeededByTouch 14 = .ok (.iload_n 2, 1) := by decide +kernel
theorem dX0_isNeededByTouch_15 : decode cX0_isNeededByTouch 15 = .ok (.iaload, 1) := by decide +kernel
theorem dX0_isNeededByTouch_16 : decode cX0_isNeededByTouch 16 = .ok (.iload_n 1, 1) := by decide +kernel
theorem dX0_isNeededByTouch_17 : decode cX0_isNeededByTouch 17 = .ok (.if_icmp .ne 5, 3) := by decide +kernel
theorem dX0_isNeededByTouch_20 : decode cX0_isNeededByTouch 20 = .ok (.iconst 1, 1) := by decide +kernel
theorem dX0_isNeededByTouch_21 : decode cX0_isNeededByTouch 21 = .ok (.ireturn, 1) := by decide +kernel
theorem dX0_isNeededByTouch_22 : decode cX0_isNeededByTouch 22 = .ok (.aload_n 0, 1) := by decide +kernel
theorem dX0_isNeededByTouch_23 : decode cX0_isNeededByTouch 23 = .ok (.getfield 25, 3) := by decide +kernel
theorem dX0_isNeededByTouch_26 : decode cX0_isNeededByTouch 26 = .ok (.iload_n 2, 1) := by decide +kernel
theorem dX0_isNeededByTouch_27 : decode cX0_isNeededByTouch 27 = .ok (.iaload, 1) := by decide +kernel
theorem dX0_isNeededByTouch_28 : decode cX0_isNeededByTouch 28 = .ok (.iload_n 1, 1) := by decide +kernel
theorem dX0_isNeededByTouch_29 : decode cX0_isNeededByTouch 29 = .ok (.invokestatic 82, 3) := by decide +kernel
theorem dX0_isNeededByTouch_32 : decode cX0_isNeededByTouch 32 = .ok (.ifCond .eq 20, 3) := by decide +kernel
theorem dX0_isNeededByTouch_35 : decode cX0_isNeededByTouch 35 = .ok (.aload_n 0, 1) := by decide +kernel
theorem dX0_isNeededByTouch_36 : decode cX0_isNeededByTouch 36 = .ok (.getfield 28, 3) := by decide +kernel
theorem dX0_isNeededByTouch_39 : decode cX0_isNeededByTouch 39 = .ok (.iload_n 2, 1) := by decide +kernel
theorem dX0_isNeededByTouch_40 : decode cX0_isNeededByTouch 40 = .ok (.iaload, 1) := by decide +kernel
theorem dX0_isNeededByTouch_41 : decode cX0_isNeededByTouch 41 = .ok (.aload_n 0, 1) := by decide +kernel
theorem dX0_isNeededByTouch_42 : decode cX0_isNeededByTouch 42 = .ok (.getfield 15, 3) := by decide +kernel
theorem dX0_isNeededByTouch_45 : decode cX0_isNeededByTouch 45 = .ok (.iload_n 1, 1) := by decide +kernel
theorem dX0_isNeededByTouch_46 : decode cX0_isNeededByTouch 46 = .ok (.iaload, 1) := by decide +kernel
theorem dX0_isNeededByTouch_47 : decode cX0_isNeededByTouch 47 = .ok (.if_icmp .ne 5, 3) := by decide +kernel
theorem dX0_isNeededByTouch_50 : decode cX0_isNeededByTouch 50 = .ok (.iconst 1, 1) := by decide +kernel
theorem dX0_isNeededByTouch_51 : decode cX0_isNeededByTouch 51 = .ok (.ireturn, 1) := by decide +kernel
theorem dX0_isNeededByTouch_52 : decode cX0_isNeededByTouch 52 = .ok (.iinc 2 1, 3) := by decide +kernel
theorem dX0_isNeededByTouch_55 : decode cX0_isNeededByTouch 55 = .ok (.goto (-53), 3) := by decide +kernel
theorem dX0_isNeededByTouch_58 : decode cX0_isNeededByTouch 58 = .ok (.iconst 0, 1) := by decide +kernel
theorem dX0_isNeededByTouch_59 : decode cX0_isNeededByTouch 59 = .ok (.ireturn, 1) := by decide +kernel
set_option maxRecDepth 20000 in
theorem ggX0_join_X5_placeOf : GoodIn wsX0_join wsX5_placeOf := goodIn_r _ [7] (by decide +kernel) (by decide +kernel)
set_option maxRecDepth 20000 in
theorem gX0_join_X5_placeOf_n71 : GoodIn wsX0_join (wsX5_placeOf) := ggX0_join_X5_placeOf
set_option maxRecDepth 20000 in
theorem ggX0_join_X5_isNet : GoodIn wsX0_join wsX5_isNet := goodIn_r _ [9] (by decide +kernel) (by decide +kernel)
set_option maxRecDepth 20000 in
theorem gX0_join_X5_isNet_n75 : GoodIn wsX0_join (wsX5_isNet) := ggX0_join_X5_isNet
set_option maxRecDepth 20000 in
theorem ggX0_join_X0_touchAt : GoodIn wsX0_join wsX0_touchAt := goodIn_r _ [14, 2, 3, 28, 29, 30, 31, 32, 33, 34, 35, 36, 37, 38, 39, 40] (by decide +kernel) (by decide +kernel)
set_option maxRecDepth 20000 in
theorem gX0_join_X0_touchAt : GoodIn wsX0_join (wsV RX0 86 RX0 yX0_touchAt wsX0_touchAt) := goodIn_app (goodIn_of _ (by decide +kernel)) ggX0_join_X0_touchAt
set_option maxRecDepth 20000 in
theorem ggX0_join_X0_hasNeighbourOf : GoodIn wsX0_join wsX0_hasNeighbourOf := goodIn_r _ [18, 1, 19, 6, 20, 28, 29, 30, 31, 32, 33, 34, 35, 36, 37, 38, 39, 40] (by decide +kernel) (by decide +kernel)
set_option maxRecDepth 20000 in
theorem gX0_join_X0_hasNeighbourOf : GoodIn wsX0_join (wsV RX0 90 RX0 yX0_hasNeighbourOf wsX0_hasNeighbourOf) := goodIn_app (goodIn_of _ (by decide +kernel)) ggX0_join_X0_hasNeighbourOf
set_option maxRecDepth 20000 in
theorem ggX0_join_X0_beginRun : GoodIn wsX0_join wsX0_beginRun := goodIn_r _ [24, 25, 26, 27, 28, 29, 30, 31, 32, 33, 34, 35, 36, 37, 38, 39, 40] (by decide +kernel) (by decide +kernel)
set_option maxRecDepth 20000 in
theorem gX0_join_X0_beginRun : GoodIn wsX0_join (wsV RX0 68 RX0 yX0_beginRun wsX0_beginRun) := goodIn_app (goodIn_of _ (by decide +kernel)) ggX0_join_X0_beginRun
theorem dX0_join_0 : decode cX0_join 0 = .ok (.iload_n 1, 1) := by decide +kernel
theorem dX0_join_1 : decode cX0_join 1 = .ok (.iload_n 2, 1) := by decide +kernel
theorem dX0_join_2 : decode cX0_join 2 = .ok (.invokestatic 71, 3) := by decide +kernel
theorem dX0_join_5 : decode cX0_join 5 = .ok (.istore 4, 2) := by decide +kernel
theorem dX0_join_7 : decode cX0_join 7 = .ok (.iload 4, 2) := by decide +kernel
theorem dX0_join_9 : decode cX0_join 9 = .ok (.ifCond .ge 5, 3) := by decide +kernel
theorem dX0_join_12 : decode cX0_join 12 = .ok (.iconst (-1), 1) := by decide +kernel
theorem dX0_join_13 : decode cX0_join 13 = .ok (.ireturn, 1) := by decide +kernel
theorem dX0_join_14 : decode cX0_join 14 = .ok (.iload_n 3, 1) := by decide +kernel
theorem dX0_join_15 : decode cX0_join 15 = .ok (.invokestatic 75, 3) := by decide +kernel
theorem dX0_join_18 : decode cX0_join 18 = .ok (.ifCond .ne 6, 3) := by decide +kernel
theorem dX0_join_21 : decode cX0_join 21 = .ok (.bipush (-2), 2) := by decide +kernel
theorem dX0_join_23 : decode cX0_join 23 = .ok (.ireturn, 1) := by decide +kernel
theorem dX0_join_24 : decode cX0_join 24 = .ok (.aload_n 0, 1) := by decide +kernel
theorem dX0_join_25 : decode cX0_join 25 = .ok (.getfield 15, 3) := by decide +kernel
theorem dX0_join_28 : decode cX0_join 28 = .ok (.iload 4, 2) := by decide +kernel
theorem dX0_join_30 : decode cX0_join 30 = .ok (.iaload, 1) := by decide +kernel
theorem dX0_join_31 : decode cX0_join 31 = .ok (.ifCond .eq 35, 3) := by decide +kernel
theorem dX0_join_34 : decode cX0_join 34 = .ok (.aload_n 0, 1) := by decide +kernel
theorem dX0_join_35 : decode cX0_join 35 = .ok (.getfield 15, 3) := by decide +kernel
theorem dX0_join_38 : decode cX0_join 38 = .ok (.iload 4, 2) := by decide +kernel
theorem dX0_join_40 : decode cX0_join 40 = .ok (.iaload, 1) := by decide +kernel
theorem dX0_join_41 : decode cX0_join 41 = .ok (.iload_n 3, 1) := by decide +kernel
theorem dX0_join_42 : decode cX0_join 42 = .ok (.if_icmp .eq 24, 3) := by decide +kernel
theorem dX0_join_45 : decode cX0_join 45 = .ok (.aload_n 0, 1) := by decide +kernel
theorem dX0_join_46 : decode cX0_join 46 = .ok (.iload 4, 2) := by decide +kernel
theorem dX0_join_48 : decode cX0_join 48 = .ok (.invokevirtual 86, 3) := by decide +kernel
theorem dX0_join_51 : decode cX0_join 51 = .ok (.bipush (-6), 2) := by decide +kernel
theorem dX0_join_53 : decode cX0_join 53 = .ok (.if_icmp .ne 13, 3) := by decide +kernel
theorem dX0_join_56 : decode cX0_join 56 = .ok (.aload_n 0, 1) := by decide +kernel
theorem dX0_join_57 : decode cX0_join 57 = .ok (.iload 4, 2) := by decide +kernel
theorem dX0_join_59 : decode cX0_join 59 = .ok (.iload_n 3, 1) := by decide +kernel
theorem dX0_join_60 : decode cX0_join 60 = .ok (.invokevirtual 90, 3) := by decide +kernel
theorem dX0_join_63 : decode cX0_join 63 = .ok (.ifCond .ne 6, 3) := by decide +kernel
theorem dX0_join_66 : decode cX0_join 66 = .ok (.bipush (-5), 2) := by decide +kernel
theorem dX0_join_68 : decode cX0_join 68 = .ok (.ireturn, 1) := by decide +kernel
theorem dX0_join_69 : decode cX0_join 69 = .ok (.aload_n 0, 1) := by decide +kernel
theorem dX0_join_70 : decode cX0_join 70 = .ok (.getfield 21, 3) := by decide +kernel
theorem dX0_join_73 : decode cX0_join 73 = .ok (.iconst 3, 1) := by decide +kernel
theorem dX0_join_74 : decode cX0_join 74 = .ok (.if_icmp .lt 6, 3) := by decide +kernel
theorem dX0_join_77 : decode cX0_join 77 = .ok (.bipush (-4), 2) := by decide +kernel
theorem dX0_join_79 : decode cX0_join 79 = .ok (.ireturn, 1) := by decide +kernel
theorem dX0_join_80 : decode cX0_join 80 = .ok (.aload_n 0, 1) := by decide +kernel
theorem dX0_join_81 : decode cX0_join 81 = .ok (.getfield 25, 3) := by decide +kernel
theorem dX0_join_84 : decode cX0_join 84 = .ok (.aload_n 0, 1) := by decide +kernel
theorem dX0_join_85 : decode cX0_join 85 = .ok (.getfield 21, 3) := by decide +kernel
theorem dX0_join_88 : decode cX0_join 88 = .ok (.iload 4, 2) := by decide +kernel
theorem dX0_join_90 : decode cX0_join 90 = .ok (.iastore, 1) := by decide +kernel
theorem dX0_join_91 : decode cX0_join 91 = .ok (.aload_n 0, 1) := by decide +kernel
theorem dX0_join_92 : decode cX0_join 92 = .ok (.getfield 28, 3) := by decide +kernel
theorem dX0_join_95 : decode cX0_join 95 = .ok (.aload_n 0, 1) := by decide +kernel
theorem dX0_join_96 : decode cX0_join 96 = .ok (.getfield 21, 3) := by decide +kernel
theorem dX0_join_99 : decode cX0_join 99 = .ok (.iload_n 3, 1) := by decide +kernel
theorem dX0_join_100 : decode cX0_join 100 = .ok (.iastore, 1) := by decide +kernel
theorem dX0_join_101 : decode cX0_join 101 = .ok (.aload_n 0, 1) := by decide +kernel
theorem dX0_join_102 : decode cX0_join 102 = .ok (.dup, 1) := by decide +kernel
theorem dX0_join_103 : decode cX0_join 103 = .ok (.getfield 21, 3) := by decide +kernel
theorem dX0_join_106 : decode cX0_join 106 = .ok (.iconst 1, 1) := by decide +kernel
theorem dX0_join_107 : decode cX0_join 107 = .ok (.iadd, 1) := by decide +kernel
theorem dX0_join_108 : decode cX0_join 108 = .ok (.putfield 21, 3) := by decide +kernel
theorem dX0_join_111 : decode cX0_join 111 = .ok (.aload_n 0, 1) := by decide +kernel
theorem dX0_join_112 : decode cX0_join 112 = .ok (.invokevirtual 68, 3) := by decide +kernel
theorem dX0_join_115 : decode cX0_join 115 = .ok (.aload_n 0, 1) := by decide +kernel
theorem dX0_join_116 : decode cX0_join 116 = .ok (.getfield 21, 3) := by decide +kernel
theorem dX0_join_119 : decode cX0_join 119 = .ok (.iconst 1, 1) := by decide +kernel
theorem dX0_join_120 : decode cX0_join 120 = .ok (.isub, 1) := by decide +kernel
theorem dX0_join_121 : decode cX0_join 121 = .ok (.ireturn, 1) := by decide +kernel
set_option maxRecDepth 20000 in
theorem ggX0_hasNeighbourOf_X5_neighbourOf : GoodIn wsX0_hasNeighbourOf wsX5_neighbourOf := goodIn_r _ [4] (by decide +kernel) (by decide +kernel)
set_option maxRecDepth 20000 in
theorem gX0_hasNeighbourOf_X5_neighbourOf_n93 : GoodIn wsX0_hasNeighbourOf (wsX5_neighbourOf) := ggX0_hasNeighbourOf_X5_neighbourOf
theorem dX0_hasNeighbourOf_0 : decode cX0_hasNeighbourOf 0 = .ok (.iconst 0, 1) := by decide +kernel
theorem dX0_hasNeighbourOf_1 : decode cX0_hasNeighbourOf 1 = .ok (.istore_n 3, 1) := by decide +kernel
theorem dX0_hasNeighbourOf_2 : decode cX0_hasNeighbourOf 2 = .ok (.iload_n 3, 1) := by decide +kernel
theorem dX0_hasNeighbourOf_3 : decode cX0_hasNeighbourOf 3 = .ok (.iconst 4, 1) := by decide +kernel
theorem dX0_hasNeighbourOf_4 : decode cX0_hasNeighbourOf 4 = .ok (.if_icmp .ge 34, 3) := by decide +kernel
theorem dX0_hasNeighbourOf_7 : decode cX0_hasNeighbourOf 7 = .ok (.iload_n 1, 1) := by decide +kernel
theorem dX0_hasNeighbourOf_8 : decode cX0_hasNeighbourOf 8 = .ok (.iload_n 3, 1) := by decide +kernel
theorem dX0_hasNeighbourOf_9 : decode cX0_hasNeighbourOf 9 = .ok (.invokestatic 93, 3) := by decide +kernel
theorem dX0_hasNeighbourOf_12 : decode cX0_hasNeighbourOf 12 = .ok (.istore 4, 2) := by decide +kernel
theorem dX0_hasNeighbourOf_14 : decode cX0_hasNeighbourOf 14 = .ok (.iload 4, 2) := by decide +kernel
theorem dX0_hasNeighbourOf_16 : decode cX0_hasNeighbourOf 16 = .ok (.ifCond .lt 16, 3) := by decide +kernel
theorem dX0_hasNeighbourOf_19 : decode cX0_hasNeighbourOf 19 = .ok (.aload_n 0, 1) := by decide +kernel
theorem dX0_hasNeighbourOf_20 : decode cX0_hasNeighbourOf 20 = .ok (.getfield 15, 3) := by decide +kernel
theorem dX0_hasNeighbourOf_23 : decode cX0_hasNeighbourOf 23 = .ok (.iload 4, 2) := by decide +kernel
theorem dX0_hasNeighbourOf_25 : decode cX0_hasNeighbourOf 25 = .ok (.iaload, 1) := by decide +kernel
theorem dX0_hasNeighbourOf_26 : decode cX0_hasNeighbourOf 26 = .ok (.iload_n 2, 1) := by decide +kernel
theorem dX0_hasNeighbourOf_27 : decode cX0_hasNeighbourOf 27 = .ok (.if_icmp .ne 5, 3) := by decide +kernel
theorem dX0_hasNeighbourOf_30 : decode cX0_hasNeighbourOf 30 = .ok (.iconst 1, 1) := by decide +kernel
theorem dX0_hasNeighbourOf_31 : decode cX0_hasNeighbourOf 31 = .ok (.ireturn, 1) := by decide +kernel
theorem dX0_hasNeighbourOf_32 : decode cX0_hasNeighbourOf 32 = .ok (.iinc 3 1, 3) := by decide +kernel
theorem dX0_hasNeighbourOf_35 : decode cX0_hasNeighbourOf 35 = .ok (.goto (-33), 3) := by decide +kernel
theorem dX0_hasNeighbourOf_38 : decode cX0_hasNeighbourOf 38 = .ok (.iconst 0, 1) := by decide +kernel
theorem dX0_hasNeighbourOf_39 : decode cX0_hasNeighbourOf 39 = .ok (.ireturn, 1) := by decide +kernel
set_option maxRecDepth 20000 in
theorem ggX0_part_X0_beginRun : GoodIn wsX0_part wsX0_beginRun := goodIn_r _ [8, 9, 10, 11, 12, 13, 14, 15, 16, 17, 18, 19, 20, 21, 22, 23, 24] (by decide +kernel) (by decide +kernel)
set_option maxRecDepth 20000 in
theorem gX0_part_X0_beginRun : GoodIn wsX0_part (wsV RX0 68 RX0 yX0_beginRun wsX0_beginRun) := goodIn_app (goodIn_of _ (by decide +kernel)) ggX0_part_X0_beginRun
theorem dX0_part_0 : decode cX0_part 0 = .ok (.iload_n 1, 1) := by decide +kernel
theorem dX0_part_1 : decode cX0_part 1 = .ok (.ifCond .lt 11, 3) := by decide +kernel
theorem dX0_part_4 : decode cX0_part 4 = .ok (.iload_n 1, 1) := by decide +kernel
theorem dX0_part_5 : decode cX0_part 5 = .ok (.aload_n 0, 1) := by decide +kernel
theorem dX0_part_6 : decode cX0_part 6 = .ok (.getfield 21, 3) := by decide +kernel
theorem dX0_part_9 : decode cX0_part 9 = .ok (.if_icmp .lt 5, 3) := by decide +kernel
theorem dX0_part_12 : decode cX0_part 12 = .ok (.iconst (-1), 1) := by decide +kernel
theorem dX0_part_13 : decode cX0_part 13 = .ok (.ireturn, 1) := by decide +kernel
theorem dX0_part_14 : decode cX0_part 14 = .ok (.iload_n 1, 1) := by decide +kernel
theorem dX0_part_15 : decode cX0_part 15 = .ok (.istore_n 2, 1) := by decide +kernel
theorem dX0_part_16 : decode cX0_part 16 = .ok (.iload_n 2, 1) := by decide +kernel
theorem dX0_part_17 : decode cX0_part 17 = .ok (.aload_n 0, 1) := by decide +kernel
theorem dX0_part_18 : decode cX0_part 18 = .ok (.getfield 21, 3) := by decide +kernel
theorem dX0_part_21 : decode cX0_part 21 = .ok (.iconst 1, 1) := by decide +kernel
theorem dX0_part_22 : decode cX0_part 22 = .ok (.isub, 1) := by decide +kernel
theorem dX0_part_23 : decode cX0_part 23 = .ok (.if_icmp .ge 37, 3) := by decide +kernel
theorem dX0_part_26 : decode cX0_part 26 = .ok (.aload_n 0, 1) := by decide +kernel
theorem dX0_part_27 : decode cX0_part 27 = .ok (.getfield 25, 3) := by decide +kernel
theorem dX0_part_30 : decode cX0_part 30 = .ok (.iload_n 2, 1) := by decide +kernel
theorem dX0_part_31 : decode cX0_part 31 = .ok (.aload_n 0, 1) := by decide +kernel
theorem dX0_part_32 : decode cX0_part 32 = .ok (.getfield 25, 3) := by decide +kernel
theorem dX0_part_35 : decode cX0_part 35 = .ok (.iload_n 2, 1) := by decide +kernel
theorem dX0_part_36 : decode cX0_part 36 = .ok (.iconst 1, 1) := by decide +kernel
theorem dX0_part_37 : decode cX0_part 37 = .ok (.iadd, 1) := by decide +kernel
theorem dX0_part_38 : decode cX0_part 38 = .ok (.iaload, 1) := by decide +kernel
theorem dX0_part_39 : decode cX0_part 39 = .ok (.iastore, 1) := by decide +kernel
theorem dX0_part_40 : decode cX0_part 40 = .ok (.aload_n 0, 1) := by decide +kernel
theorem dX0_part_41 : decode cX0_part 41 = .ok (.getfield 28, 3) := by decide +kernel
theorem dX0_part_44 : decode cX0_part 44 = .ok (.iload_n 2, 1) := by decide +kernel
theorem dX0_part_45 : decode cX0_part 45 = .ok (.aload_n 0, 1) := by decide +kernel
theorem dX0_part_46 : decode cX0_part 46 = .ok (.getfield 28, 3) := by decide +kernel
theorem dX0_part_49 : decode cX0_part 49 = .ok (.iload_n 2, 1) := by decide +kernel
theorem dX0_part_50 : decode cX0_part 50 = .ok (.iconst 1, 1) := by decide +kernel
theorem dX0_part_51 : decode cX0_part 51 = .ok (.iadd, 1) := by decide +kernel
theorem dX0_part_52 : decode cX0_part 52 = .ok (.iaload, 1) := by decide +kernel
theorem dX0_part_53 : decode cX0_part 53 = .ok (.iastore, 1) := by decide +kernel
theorem dX0_part_54 : decode cX0_part 54 = .ok (.iinc 2 1, 3) := by decide +kernel
theorem dX0_part_57 : decode cX0_part 57 = .ok (.goto (-41), 3) := by decide +kernel
theorem dX0_part_60 : decode cX0_part 60 = .ok (.aload_n 0, 1) := by decide +kernel
theorem dX0_part_61 : decode cX0_part 61 = .ok (.dup, 1) := by decide +kernel
theorem dX0_part_62 : decode cX0_part 62 = .ok (.getfield 21, 3) := by decide +kernel
theorem dX0_part_65 : decode cX0_part 65 = .ok (.iconst 1, 1) := by decide +kernel
theorem dX0_part_66 : decode cX0_part 66 = .ok (.isub, 1) := by decide +kernel
theorem dX0_part_67 : decode cX0_part 67 = .ok (.putfield 21, 3) := by decide +kernel
theorem dX0_part_70 : decode cX0_part 70 = .ok (.aload_n 0, 1) := by decide +kernel
theorem dX0_part_71 : decode cX0_part 71 = .ok (.invokevirtual 68, 3) := by decide +kernel
theorem dX0_part_74 : decode cX0_part 74 = .ok (.aload_n 0, 1) := by decide +kernel
theorem dX0_part_75 : decode cX0_part 75 = .ok (.getfield 21, 3) := by decide +kernel
theorem dX0_part_78 : decode cX0_part 78 = .ok (.ireturn, 1) := by decide +kernel
set_option maxRecDepth 20000 in
theorem ggX0_turnPair_X5_isNet : GoodIn wsX0_turnPair wsX5_isNet := goodIn_r _ [4] (by decide +kernel) (by decide +kernel)
set_option maxRecDepth 20000 in
theorem gX0_turnPair_X5_isNet_n75 : GoodIn wsX0_turnPair (wsX5_isNet) := ggX0_turnPair_X5_isNet
set_option maxRecDepth 20000 in
theorem ggX0_turnPair_X0_beginRun : GoodIn wsX0_turnPair wsX0_beginRun := goodIn_r _ [9, 10, 11, 12, 17, 18, 19, 20, 21, 22, 23, 24, 25, 26, 27, 28, 29] (by decide +kernel) (by decide +kernel)
set_option maxRecDepth 20000 in
theorem gX0_turnPair_X0_beginRun : GoodIn wsX0_turnPair (wsV RX0 68 RX0 yX0_beginRun wsX0_beginRun) := goodIn_app (goodIn_of _ (by decide +kernel)) ggX0_turnPair_X0_beginRun
set_option maxRecDepth 20000 in
theorem ggX0_turnPair_X0_isFed : GoodIn wsX0_turnPair wsX0_isFed := goodIn_r _ [16, 1, 17, 18, 19, 20, 21, 22, 23, 24, 25, 26, 27, 28, 29] (by decide +kernel) (by decide +kernel)
set_option maxRecDepth 20000 in
theorem gX0_turnPair_X0_isFed : GoodIn wsX0_turnPair (wsV RX0 96 RX0 yX0_isFed wsX0_isFed) := goodIn_app (goodIn_of _ (by decide +kernel)) ggX0_turnPair_X0_isFed
theorem dX0_turnPair_0 : decode cX0_turnPair 0 = .ok (.iload_n 1, 1) := by decide +kernel
theorem dX0_turnPair_1 : decode cX0_turnPair 1 = .ok (.invokestatic 75, 3) := by decide +kernel
theorem dX0_turnPair_4 : decode cX0_turnPair 4 = .ok (.ifCond .eq 10, 3) := by decide +kernel
theorem dX0_turnPair_7 : decode cX0_turnPair 7 = .ok (.iload_n 2, 1) := by decide +kernel
theorem dX0_turnPair_8 : decode cX0_turnPair 8 = .ok (.invokestatic 75, 3) := by decide +kernel
theorem dX0_turnPair_11 : decode cX0_turnPair 11 = .ok (.ifCond .ne 5, 3) := by decide +kernel
