section
-- ===== PART A: goes FIRST, ahead of the names: the tables' words, and 'selects' of the private methods out of them =====
/-- a private method of a class that the tables say can be made, by its rows of tables_1 -/
def lw_okq (q : MethodName × Nat) : Prop := (q.1.cls ≠ "java/lang/invoke/MethodHandle" ∧ q.1.cls ≠ "java/lang/invoke/VarHandle") ∧ Cond.instantiable q.1.cls q.2 ∈ tables_1 ∧ Cond.privateMethod q.1 ∈ tables_1 ∧ Cond.instanceMethod q.1 ∈ tables_1
theorem lw_p0 : lw_okq (⟨"WarmProbes$Past", "prepare", "(LWarmProbes$Board;)V"⟩, 2) := ⟨⟨by decide +kernel, by decide +kernel⟩, List.mem_of_getElem? (i := 121) (by decide +kernel), List.mem_of_getElem? (i := 179) (by decide +kernel), List.mem_of_getElem? (i := 180) (by decide +kernel)⟩
theorem lw_p1 : lw_okq (⟨"WarmProbes$Board", "takeOver", "(LWarmProbes$Board;)V"⟩, 13) := ⟨⟨by decide +kernel, by decide +kernel⟩, List.mem_of_getElem? (i := 19) (by decide +kernel), List.mem_of_getElem? (i := 183) (by decide +kernel), List.mem_of_getElem? (i := 184) (by decide +kernel)⟩
theorem lw_p2 : lw_okq (⟨"WarmProbes$Board", "change", "(II)I"⟩, 13) := ⟨⟨by decide +kernel, by decide +kernel⟩, List.mem_of_getElem? (i := 19) (by decide +kernel), List.mem_of_getElem? (i := 187) (by decide +kernel), List.mem_of_getElem? (i := 188) (by decide +kernel)⟩
theorem lw_p3 : lw_okq (⟨"WarmProbes$Board", "beginRun", "()V"⟩, 13) := ⟨⟨by decide +kernel, by decide +kernel⟩, List.mem_of_getElem? (i := 19) (by decide +kernel), List.mem_of_getElem? (i := 195) (by decide +kernel), List.mem_of_getElem? (i := 196) (by decide +kernel)⟩
theorem lw_p4 : lw_okq (⟨"WarmProbes$Past", "kept", "(I)I"⟩, 2) := ⟨⟨by decide +kernel, by decide +kernel⟩, List.mem_of_getElem? (i := 121) (by decide +kernel), List.mem_of_getElem? (i := 199) (by decide +kernel), List.mem_of_getElem? (i := 200) (by decide +kernel)⟩
theorem lw_p5 : lw_okq (⟨"WarmProbes$Board", "lay", "(III)I"⟩, 13) := ⟨⟨by decide +kernel, by decide +kernel⟩, List.mem_of_getElem? (i := 19) (by decide +kernel), List.mem_of_getElem? (i := 207) (by decide +kernel), List.mem_of_getElem? (i := 208) (by decide +kernel)⟩
theorem lw_p6 : lw_okq (⟨"WarmProbes$Board", "isNeededByTouch", "(I)Z"⟩, 13) := ⟨⟨by decide +kernel, by decide +kernel⟩, List.mem_of_getElem? (i := 19) (by decide +kernel), List.mem_of_getElem? (i := 217) (by decide +kernel), List.mem_of_getElem? (i := 218) (by decide +kernel)⟩
theorem lw_p7 : lw_okq (⟨"WarmProbes$Board", "join", "(III)I"⟩, 13) := ⟨⟨by decide +kernel, by decide +kernel⟩, List.mem_of_getElem? (i := 19) (by decide +kernel), List.mem_of_getElem? (i := 231) (by decide +kernel), List.mem_of_getElem? (i := 232) (by decide +kernel)⟩
theorem lw_p8 : lw_okq (⟨"WarmProbes$Board", "touchAt", "(I)I"⟩, 13) := ⟨⟨by decide +kernel, by decide +kernel⟩, List.mem_of_getElem? (i := 19) (by decide +kernel), List.mem_of_getElem? (i := 235) (by decide +kernel), List.mem_of_getElem? (i := 236) (by decide +kernel)⟩
theorem lw_p9 : lw_okq (⟨"WarmProbes$Board", "hasNeighbourOf", "(II)Z"⟩, 13) := ⟨⟨by decide +kernel, by decide +kernel⟩, List.mem_of_getElem? (i := 19) (by decide +kernel), List.mem_of_getElem? (i := 239) (by decide +kernel), List.mem_of_getElem? (i := 240) (by decide +kernel)⟩
theorem lw_p10 : lw_okq (⟨"WarmProbes$Board", "part", "(I)I"⟩, 13) := ⟨⟨by decide +kernel, by decide +kernel⟩, List.mem_of_getElem? (i := 19) (by decide +kernel), List.mem_of_getElem? (i := 248) (by decide +kernel), List.mem_of_getElem? (i := 249) (by decide +kernel)⟩
theorem lw_p11 : lw_okq (⟨"WarmProbes$Board", "turnPair", "(II)I"⟩, 13) := ⟨⟨by decide +kernel, by decide +kernel⟩, List.mem_of_getElem? (i := 19) (by decide +kernel), List.mem_of_getElem? (i := 256) (by decide +kernel), List.mem_of_getElem? (i := 257) (by decide +kernel)⟩
theorem lw_p12 : lw_okq (⟨"WarmProbes$Board", "isFed", "(II)Z"⟩, 13) := ⟨⟨by decide +kernel, by decide +kernel⟩, List.mem_of_getElem? (i := 19) (by decide +kernel), List.mem_of_getElem? (i := 260) (by decide +kernel), List.mem_of_getElem? (i := 261) (by decide +kernel)⟩
theorem lw_p13 : lw_okq (⟨"WarmProbes$Board", "letPass", "(I)I"⟩, 13) := ⟨⟨by decide +kernel, by decide +kernel⟩, List.mem_of_getElem? (i := 19) (by decide +kernel), List.mem_of_getElem? (i := 273) (by decide +kernel), List.mem_of_getElem? (i := 274) (by decide +kernel)⟩
theorem lw_p14 : lw_okq (⟨"WarmProbes$Board", "heated", "()J"⟩, 13) := ⟨⟨by decide +kernel, by decide +kernel⟩, List.mem_of_getElem? (i := 19) (by decide +kernel), List.mem_of_getElem? (i := 277) (by decide +kernel), List.mem_of_getElem? (i := 278) (by decide +kernel)⟩
theorem lw_p15 : lw_okq (⟨"WarmProbes$Board", "isLive", "(I)Z"⟩, 13) := ⟨⟨by decide +kernel, by decide +kernel⟩, List.mem_of_getElem? (i := 19) (by decide +kernel), List.mem_of_getElem? (i := 281) (by decide +kernel), List.mem_of_getElem? (i := 282) (by decide +kernel)⟩
def lw_privs_1 : List (MethodName × Nat) := [(⟨"WarmProbes$Past", "prepare", "(LWarmProbes$Board;)V"⟩, 2), (⟨"WarmProbes$Board", "takeOver", "(LWarmProbes$Board;)V"⟩, 13), (⟨"WarmProbes$Board", "change", "(II)I"⟩, 13), (⟨"WarmProbes$Board", "beginRun", "()V"⟩, 13), (⟨"WarmProbes$Past", "kept", "(I)I"⟩, 2), (⟨"WarmProbes$Board", "lay", "(III)I"⟩, 13), (⟨"WarmProbes$Board", "isNeededByTouch", "(I)Z"⟩, 13), (⟨"WarmProbes$Board", "join", "(III)I"⟩, 13), (⟨"WarmProbes$Board", "touchAt", "(I)I"⟩, 13), (⟨"WarmProbes$Board", "hasNeighbourOf", "(II)Z"⟩, 13), (⟨"WarmProbes$Board", "part", "(I)I"⟩, 13), (⟨"WarmProbes$Board", "turnPair", "(II)I"⟩, 13), (⟨"WarmProbes$Board", "isFed", "(II)Z"⟩, 13), (⟨"WarmProbes$Board", "letPass", "(I)I"⟩, 13), (⟨"WarmProbes$Board", "heated", "()J"⟩, 13), (⟨"WarmProbes$Board", "isLive", "(I)Z"⟩, 13)]
theorem lw_r1 : ∀ q ∈ lw_privs_1, lw_okq q := List.forall_mem_cons.mpr ⟨lw_p0, List.forall_mem_cons.mpr ⟨lw_p1, List.forall_mem_cons.mpr ⟨lw_p2, List.forall_mem_cons.mpr ⟨lw_p3, List.forall_mem_cons.mpr ⟨lw_p4, List.forall_mem_cons.mpr ⟨lw_p5, List.forall_mem_cons.mpr ⟨lw_p6, List.forall_mem_cons.mpr ⟨lw_p7, List.forall_mem_cons.mpr ⟨lw_p8, List.forall_mem_cons.mpr ⟨lw_p9, List.forall_mem_cons.mpr ⟨lw_p10, List.forall_mem_cons.mpr ⟨lw_p11, List.forall_mem_cons.mpr ⟨lw_p12, List.forall_mem_cons.mpr ⟨lw_p13, List.forall_mem_cons.mpr ⟨lw_p14, List.forall_mem_cons.mpr ⟨lw_p15, fun _ h => absurd h List.not_mem_nil⟩⟩⟩⟩⟩⟩⟩⟩⟩⟩⟩⟩⟩⟩⟩⟩
theorem lw_p16 : lw_okq (⟨"WarmProbes$Board", "passOne", "(J)V"⟩, 13) := ⟨⟨by decide +kernel, by decide +kernel⟩, List.mem_of_getElem? (i := 19) (by decide +kernel), List.mem_of_getElem? (i := 285) (by decide +kernel), List.mem_of_getElem? (i := 286) (by decide +kernel)⟩
theorem lw_p17 : lw_okq (⟨"WarmProbes$Board", "measure", "(II)I"⟩, 13) := ⟨⟨by decide +kernel, by decide +kernel⟩, List.mem_of_getElem? (i := 19) (by decide +kernel), List.mem_of_getElem? (i := 300) (by decide +kernel), List.mem_of_getElem? (i := 301) (by decide +kernel)⟩
theorem lw_p18 : lw_okq (⟨"WarmProbes$Board", "isSuspect", "(I)Z"⟩, 13) := ⟨⟨by decide +kernel, by decide +kernel⟩, List.mem_of_getElem? (i := 19) (by decide +kernel), List.mem_of_getElem? (i := 319) (by decide +kernel), List.mem_of_getElem? (i := 320) (by decide +kernel)⟩
theorem lw_p19 : lw_okq (⟨"WarmProbes$Suspicion", "couldBe", "(LWarmProbes$Board;I)Z"⟩, 2) := ⟨⟨by decide +kernel, by decide +kernel⟩, List.mem_of_getElem? (i := 90) (by decide +kernel), List.mem_of_getElem? (i := 323) (by decide +kernel), List.mem_of_getElem? (i := 324) (by decide +kernel)⟩
theorem lw_p20 : lw_okq (⟨"WarmProbes$Suspicion", "fits", "(LWarmProbes$Board;II)Z"⟩, 2) := ⟨⟨by decide +kernel, by decide +kernel⟩, List.mem_of_getElem? (i := 90) (by decide +kernel), List.mem_of_getElem? (i := 328) (by decide +kernel), List.mem_of_getElem? (i := 329) (by decide +kernel)⟩
theorem lw_p21 : lw_okq (⟨"WarmProbes$Lone", "follow", "([I)V"⟩, 3) := ⟨⟨by decide +kernel, by decide +kernel⟩, List.mem_of_getElem? (i := 96) (by decide +kernel), List.mem_of_getElem? (i := 332) (by decide +kernel), List.mem_of_getElem? (i := 333) (by decide +kernel)⟩
theorem lw_p22 : lw_okq (⟨"WarmProbes$Lone", "warmthBy", "(III)F"⟩, 3) := ⟨⟨by decide +kernel, by decide +kernel⟩, List.mem_of_getElem? (i := 96) (by decide +kernel), List.mem_of_getElem? (i := 337) (by decide +kernel), List.mem_of_getElem? (i := 338) (by decide +kernel)⟩
theorem lw_p23 : lw_okq (⟨"WarmProbes$Suspicion", "couldBeOneOfTwo", "(LWarmProbes$Board;I)Z"⟩, 2) := ⟨⟨by decide +kernel, by decide +kernel⟩, List.mem_of_getElem? (i := 90) (by decide +kernel), List.mem_of_getElem? (i := 346) (by decide +kernel), List.mem_of_getElem? (i := 347) (by decide +kernel)⟩
theorem lw_p24 : lw_okq (⟨"WarmProbes$Suspicion", "readBy", "(LWarmProbes$Board;II)I"⟩, 2) := ⟨⟨by decide +kernel, by decide +kernel⟩, List.mem_of_getElem? (i := 90) (by decide +kernel), List.mem_of_getElem? (i := 361) (by decide +kernel), List.mem_of_getElem? (i := 362) (by decide +kernel)⟩
theorem lw_p25 : lw_okq (⟨"WarmProbes$Board", "tracked", "()J"⟩, 13) := ⟨⟨by decide +kernel, by decide +kernel⟩, List.mem_of_getElem? (i := 19) (by decide +kernel), List.mem_of_getElem? (i := 402) (by decide +kernel), List.mem_of_getElem? (i := 403) (by decide +kernel)⟩
theorem lw_p26 : lw_okq (⟨"WarmProbes$Board", "suspects", "()J"⟩, 13) := ⟨⟨by decide +kernel, by decide +kernel⟩, List.mem_of_getElem? (i := 19) (by decide +kernel), List.mem_of_getElem? (i := 410) (by decide +kernel), List.mem_of_getElem? (i := 411) (by decide +kernel)⟩
theorem lw_p27 : lw_okq (⟨"WarmProbes$Suspicion", "fitting", "(LWarmProbes$Board;)J"⟩, 2) := ⟨⟨by decide +kernel, by decide +kernel⟩, List.mem_of_getElem? (i := 90) (by decide +kernel), List.mem_of_getElem? (i := 415) (by decide +kernel), List.mem_of_getElem? (i := 416) (by decide +kernel)⟩
theorem lw_p28 : lw_okq (⟨"WarmProbes$Board", "placesOf", "(I)I"⟩, 13) := ⟨⟨by decide +kernel, by decide +kernel⟩, List.mem_of_getElem? (i := 19) (by decide +kernel), List.mem_of_getElem? (i := 434) (by decide +kernel), List.mem_of_getElem? (i := 435) (by decide +kernel)⟩
theorem lw_p29 : lw_okq (⟨"WarmProbes$Board", "warmthOf", "(I)F"⟩, 13) := ⟨⟨by decide +kernel, by decide +kernel⟩, List.mem_of_getElem? (i := 19) (by decide +kernel), List.mem_of_getElem? (i := 438) (by decide +kernel), List.mem_of_getElem? (i := 439) (by decide +kernel)⟩
theorem lw_p30 : lw_okq (⟨"WarmProbes$Suspicion", "pairs", "(LWarmProbes$Board;)I"⟩, 2) := ⟨⟨by decide +kernel, by decide +kernel⟩, List.mem_of_getElem? (i := 90) (by decide +kernel), List.mem_of_getElem? (i := 453) (by decide +kernel), List.mem_of_getElem? (i := 454) (by decide +kernel)⟩
theorem lw_p31 : lw_okq (⟨"WarmProbes$Board", "warmest", "()I"⟩, 13) := ⟨⟨by decide +kernel, by decide +kernel⟩, List.mem_of_getElem? (i := 19) (by decide +kernel), List.mem_of_getElem? (i := 459) (by decide +kernel), List.mem_of_getElem? (i := 460) (by decide +kernel)⟩
def lw_privs_2 : List (MethodName × Nat) := [(⟨"WarmProbes$Board", "passOne", "(J)V"⟩, 13), (⟨"WarmProbes$Board", "measure", "(II)I"⟩, 13), (⟨"WarmProbes$Board", "isSuspect", "(I)Z"⟩, 13), (⟨"WarmProbes$Suspicion", "couldBe", "(LWarmProbes$Board;I)Z"⟩, 2), (⟨"WarmProbes$Suspicion", "fits", "(LWarmProbes$Board;II)Z"⟩, 2), (⟨"WarmProbes$Lone", "follow", "([I)V"⟩, 3), (⟨"WarmProbes$Lone", "warmthBy", "(III)F"⟩, 3), (⟨"WarmProbes$Suspicion", "couldBeOneOfTwo", "(LWarmProbes$Board;I)Z"⟩, 2), (⟨"WarmProbes$Suspicion", "readBy", "(LWarmProbes$Board;II)I"⟩, 2), (⟨"WarmProbes$Board", "tracked", "()J"⟩, 13), (⟨"WarmProbes$Board", "suspects", "()J"⟩, 13), (⟨"WarmProbes$Suspicion", "fitting", "(LWarmProbes$Board;)J"⟩, 2), (⟨"WarmProbes$Board", "placesOf", "(I)I"⟩, 13), (⟨"WarmProbes$Board", "warmthOf", "(I)F"⟩, 13), (⟨"WarmProbes$Suspicion", "pairs", "(LWarmProbes$Board;)I"⟩, 2), (⟨"WarmProbes$Board", "warmest", "()I"⟩, 13)]
theorem lw_r2 : ∀ q ∈ lw_privs_2, lw_okq q := List.forall_mem_cons.mpr ⟨lw_p16, List.forall_mem_cons.mpr ⟨lw_p17, List.forall_mem_cons.mpr ⟨lw_p18, List.forall_mem_cons.mpr ⟨lw_p19, List.forall_mem_cons.mpr ⟨lw_p20, List.forall_mem_cons.mpr ⟨lw_p21, List.forall_mem_cons.mpr ⟨lw_p22, List.forall_mem_cons.mpr ⟨lw_p23, List.forall_mem_cons.mpr ⟨lw_p24, List.forall_mem_cons.mpr ⟨lw_p25, List.forall_mem_cons.mpr ⟨lw_p26, List.forall_mem_cons.mpr ⟨lw_p27, List.forall_mem_cons.mpr ⟨lw_p28, List.forall_mem_cons.mpr ⟨lw_p29, List.forall_mem_cons.mpr ⟨lw_p30, List.forall_mem_cons.mpr ⟨lw_p31, fun _ h => absurd h List.not_mem_nil⟩⟩⟩⟩⟩⟩⟩⟩⟩⟩⟩⟩⟩⟩⟩⟩
def lw_privs : List (MethodName × Nat) := lw_privs_1 ++ (lw_privs_2)
def lw_tbl : List Cond := k2_sels lw_privs ++ tables_1
theorem lw_privs_ok : ∀ q ∈ lw_privs, lw_okq q := by
  show ∀ q ∈ lw_privs_1 ++ (lw_privs_2), lw_okq q
  exact List.forall_mem_append.mpr ⟨lw_r1, lw_r2⟩
/-- the streams that the claim lets the run draw from -/
abbrev lw_cs : List Choice := [Jvm.Choice.named "NaN.bits"]
theorem lw_bits : nanBits ∈ lw_cs := by first | decide | exact List.mem_cons_self | simp [lw_cs, nanBits]
-- ===== end of PART A; then your names; then what follows =====
end
section
/-! ===== BEGIN words of one list among another's, by their places ===== -/
theorem goodIn_r {big : List Cond} (ws : List Cond) (ps : List Nat) (hp : ws = ps.filterMap (fun i => big[i]?)) (h : ws.all goodWord = true) : GoodIn big ws := by
  intro w hw
  have h1 := List.all_eq_true.mp h w hw
  rw [hp] at hw
  obtain ⟨i, -, hi⟩ := List.mem_filterMap.mp hw
  have hm : w ∈ big := by first | exact List.mem_of_getElem? hi | exact List.getElem?_mem hi
  exact ⟨hm, good_of_word h1⟩
theorem goodIn_app {big a b : List Cond} (ha : GoodIn big a) (hb : GoodIn big b) : GoodIn big (a ++ b) := fun w h => (List.mem_append.mp h).elim (ha w) (hb w)
theorem goodIn_ca {big a b : List Cond} {c : Cond} (ha : GoodIn big (c :: a)) (hb : GoodIn big b) : GoodIn big (c :: (a ++ b)) := fun w h => (List.mem_cons.mp h).elim (fun e => ha w (List.mem_cons.mpr (Or.inl e))) (fun h => (List.mem_append.mp h).elim (fun h => ha w (List.mem_cons.mpr (Or.inr h))) (hb w))
theorem goodIn_sub {big ws : List Cond} (hm : ∀ w ∈ ws, w ∈ big) (h : ws.all goodWord = true) : GoodIn big ws := fun w hw => ⟨hm w hw, good_of_word (List.all_eq_true.mp h w hw)⟩
/-! ===== END ===== -/

/-! ===== BEGIN printed: names, fields, word lists, decode rows ===== -/
def RX0 : String := "WarmProbes$Board"
def TX0 : u_T := fun k => match k with
  | 0 => ("WarmProbes$Board", "settings", "[I", true)
  | 1 => ("WarmProbes$Board", "nets", "[I", true)
  | 2 => ("WarmProbes$Board", "fed", "[I", true)
  | 3 => ("WarmProbes$Board", "touches", "I", false)
  | 4 => ("WarmProbes$Board", "touchPlaces", "[I", true)
  | 5 => ("WarmProbes$Board", "touchOthers", "[I", true)
  | 6 => ("WarmProbes$Board", "steps", "I", false)
  | 7 => ("WarmProbes$Board", "warmth", "[F", true)
  | 8 => ("WarmProbes$Board", "nextWarmth", "[F", true)
  | 9 => ("WarmProbes$Board", "readings", "I", false)
  | 10 => ("WarmProbes$Board", "readingPlaces", "[I", true)
  | 11 => ("WarmProbes$Board", "readingReads", "[I", true)
  | _ => ("WarmProbes$Board", "readingSteps", "[I", true)
def tyX0 : Nat → FieldType := fun k => match k with
  | 0 => .array .int
  | 1 => .array .int
  | 2 => .array .int
  | 3 => .int
  | 4 => .array .int
  | 5 => .array .int
  | 6 => .int
  | 7 => .array .float
  | 8 => .array .float
  | 9 => .int
  | 10 => .array .int
  | 11 => .array .int
  | _ => .array .int
abbrev wsX00 : List Cond := u_ws RX0 TX0 13
theorem nmX0 : ∀ a, a < 13 → ∀ b, b < 13 → a ≠ b → (TX0 a).2.1 ≠ (TX0 b).2.1 := by decide +kernel
theorem tyX0_ok : ∀ k, k < 13 → parseFieldDescriptor (TX0 k).2.2.1 = some (tyX0 k) := by decide +kernel
abbrev cX0_init : ByteArray := prog_2_method_1_code
def yX0_init : MethodName := ⟨RX0, "<init>", "()V"⟩
abbrev cX0_takeOver : ByteArray := prog_2_method_2_code
def yX0_takeOver : MethodName := ⟨RX0, "takeOver", "(LWarmProbes$Board;)V"⟩
abbrev cX0_beginRun : ByteArray := prog_2_method_3_code
def yX0_beginRun : MethodName := ⟨RX0, "beginRun", "()V"⟩
abbrev cX0_change : ByteArray := prog_2_method_4_code
def yX0_change : MethodName := ⟨RX0, "change", "(II)I"⟩
abbrev cX0_lay : ByteArray := prog_2_method_5_code
def yX0_lay : MethodName := ⟨RX0, "lay", "(III)I"⟩
abbrev cX0_isNeededByTouch : ByteArray := prog_2_method_6_code
def yX0_isNeededByTouch : MethodName := ⟨RX0, "isNeededByTouch", "(I)Z"⟩
abbrev cX0_join : ByteArray := prog_2_method_7_code
def yX0_join : MethodName := ⟨RX0, "join", "(III)I"⟩
abbrev cX0_hasNeighbourOf : ByteArray := prog_2_method_8_code
def yX0_hasNeighbourOf : MethodName := ⟨RX0, "hasNeighbourOf", "(II)Z"⟩
abbrev cX0_part : ByteArray := prog_2_method_9_code
def yX0_part : MethodName := ⟨RX0, "part", "(I)I"⟩
abbrev cX0_turnPair : ByteArray := prog_2_method_10_code
def yX0_turnPair : MethodName := ⟨RX0, "turnPair", "(II)I"⟩
abbrev cX0_isFed : ByteArray := prog_2_method_11_code
def yX0_isFed : MethodName := ⟨RX0, "isFed", "(II)Z"⟩
abbrev cX0_letPass : ByteArray := prog_2_method_12_code
def yX0_letPass : MethodName := ⟨RX0, "letPass", "(I)I"⟩
abbrev cX0_passOne : ByteArray := prog_2_method_13_code
def yX0_passOne : MethodName := ⟨RX0, "passOne", "(J)V"⟩
abbrev cX0_measure : ByteArray := prog_2_method_14_code
def yX0_measure : MethodName := ⟨RX0, "measure", "(II)I"⟩
abbrev cX0_touchAt : ByteArray := prog_2_method_15_code
def yX0_touchAt : MethodName := ⟨RX0, "touchAt", "(I)I"⟩
abbrev cX0_isLive : ByteArray := prog_2_method_16_code
def yX0_isLive : MethodName := ⟨RX0, "isLive", "(I)Z"⟩
abbrev cX0_heated : ByteArray := prog_2_method_17_code
def yX0_heated : MethodName := ⟨RX0, "heated", "()J"⟩
abbrev cX0_tracked : ByteArray := prog_2_method_18_code
def yX0_tracked : MethodName := ⟨RX0, "tracked", "()J"⟩
abbrev cX0_suspects : ByteArray := prog_2_method_19_code
def yX0_suspects : MethodName := ⟨RX0, "suspects", "()J"⟩
abbrev cX0_isSuspect : ByteArray := prog_2_method_20_code
def yX0_isSuspect : MethodName := ⟨RX0, "isSuspect", "(I)Z"⟩
abbrev cX0_placesOf : ByteArray := prog_2_method_21_code
def yX0_placesOf : MethodName := ⟨RX0, "placesOf", "(I)I"⟩
abbrev cX0_warmthOf : ByteArray := prog_2_method_22_code
def yX0_warmthOf : MethodName := ⟨RX0, "warmthOf", "(I)F"⟩
abbrev cX0_warmest : ByteArray := prog_2_method_23_code
def yX0_warmest : MethodName := ⟨RX0, "warmest", "()I"⟩
def RX1 : String := "WarmProbes$Lone"
def TX1 : u_T := fun k => match k with
  | 0 => ("WarmProbes$Lone", "settings", "[I", true)
  | 1 => ("WarmProbes$Lone", "fields", "[[F", true)
  | _ => ("WarmProbes$Lone", "steps", "[I", true)
def tyX1 : Nat → FieldType := fun k => match k with
  | 0 => .array .int
  | 1 => .array (.array .float)
  | _ => .array .int
abbrev wsX10 : List Cond := u_ws RX1 TX1 3
theorem nmX1 : ∀ a, a < 3 → ∀ b, b < 3 → a ≠ b → (TX1 a).2.1 ≠ (TX1 b).2.1 := by decide +kernel
theorem tyX1_ok : ∀ k, k < 3 → parseFieldDescriptor (TX1 k).2.2.1 = some (tyX1 k) := by decide +kernel
abbrev cX1_init : ByteArray := prog_3_method_1_code
def yX1_init : MethodName := ⟨RX1, "<init>", "()V"⟩
abbrev cX1_follow : ByteArray := prog_3_method_2_code
def yX1_follow : MethodName := ⟨RX1, "follow", "([I)V"⟩
abbrev cX1_warmthBy : ByteArray := prog_3_method_3_code
def yX1_warmthBy : MethodName := ⟨RX1, "warmthBy", "(III)F"⟩
def RX2 : String := "WarmProbes$Pad"
def TX2 : u_T := fun k => match k with
  | 0 => ("WarmProbes$Pad", "codes", "[I", true)
  | _ => ("WarmProbes$Pad", "length", "I", false)
def tyX2 : Nat → FieldType := fun k => match k with
  | 0 => .array .int
  | _ => .int
abbrev wsX20 : List Cond := u_ws RX2 TX2 2
theorem nmX2 : ∀ a, a < 2 → ∀ b, b < 2 → a ≠ b → (TX2 a).2.1 ≠ (TX2 b).2.1 := by decide +kernel
theorem tyX2_ok : ∀ k, k < 2 → parseFieldDescriptor (TX2 k).2.2.1 = some (tyX2 k) := by decide +kernel
abbrev cX2_init : ByteArray := prog_4_method_1_code
def yX2_init : MethodName := ⟨RX2, "<init>", "()V"⟩
def RX3 : String := "WarmProbes$Past"
def TX3 : u_T := fun k => match k with
  | 0 => ("WarmProbes$Past", "states", "[LWarmProbes$Board;", true)
  | _ => ("WarmProbes$Past", "size", "I", false)
def tyX3 : Nat → FieldType := fun k => match k with
  | 0 => .array (.object "WarmProbes$Board")
  | _ => .int
abbrev wsX30 : List Cond := u_ws RX3 TX3 2
theorem nmX3 : ∀ a, a < 2 → ∀ b, b < 2 → a ≠ b → (TX3 a).2.1 ≠ (TX3 b).2.1 := by decide +kernel
theorem tyX3_ok : ∀ k, k < 2 → parseFieldDescriptor (TX3 k).2.2.1 = some (tyX3 k) := by decide +kernel
abbrev cX3_init : ByteArray := prog_5_method_1_code
def yX3_init : MethodName := ⟨RX3, "<init>", "()V"⟩
abbrev cX3_prepare : ByteArray := prog_5_method_2_code
def yX3_prepare : MethodName := ⟨RX3, "prepare", "(LWarmProbes$Board;)V"⟩
abbrev cX3_kept : ByteArray := prog_5_method_3_code
def yX3_kept : MethodName := ⟨RX3, "kept", "(I)I"⟩
def RX4 : String := "WarmProbes$Suspicion"
def TX4 : u_T := fun k => match k with
  | 0 => ("WarmProbes$Suspicion", "lone", "LWarmProbes$Lone;", true)
  | _ => ("WarmProbes$Suspicion", "reads", "[I", true)
def tyX4 : Nat → FieldType := fun k => match k with
  | 0 => .object "WarmProbes$Lone"
  | _ => .array .int
abbrev wsX40 : List Cond := u_ws RX4 TX4 2
theorem nmX4 : ∀ a, a < 2 → ∀ b, b < 2 → a ≠ b → (TX4 a).2.1 ≠ (TX4 b).2.1 := by decide +kernel
theorem tyX4_ok : ∀ k, k < 2 → parseFieldDescriptor (TX4 k).2.2.1 = some (tyX4 k) := by decide +kernel
abbrev cX4_init : ByteArray := prog_6_method_1_code
def yX4_init : MethodName := ⟨RX4, "<init>", "()V"⟩
abbrev cX4_couldBe : ByteArray := prog_6_method_2_code
def yX4_couldBe : MethodName := ⟨RX4, "couldBe", "(LWarmProbes$Board;I)Z"⟩
abbrev cX4_fitting : ByteArray := prog_6_method_3_code
def yX4_fitting : MethodName := ⟨RX4, "fitting", "(LWarmProbes$Board;)J"⟩
abbrev cX4_pairs : ByteArray := prog_6_method_4_code
def yX4_pairs : MethodName := ⟨RX4, "pairs", "(LWarmProbes$Board;)I"⟩
abbrev cX4_couldBeOneOfTwo : ByteArray := prog_6_method_5_code
def yX4_couldBeOneOfTwo : MethodName := ⟨RX4, "couldBeOneOfTwo", "(LWarmProbes$Board;I)Z"⟩
abbrev cX4_fits : ByteArray := prog_6_method_6_code
def yX4_fits : MethodName := ⟨RX4, "fits", "(LWarmProbes$Board;II)Z"⟩
abbrev cX4_readBy : ByteArray := prog_6_method_7_code
def yX4_readBy : MethodName := ⟨RX4, "readBy", "(LWarmProbes$Board;II)I"⟩
def RX5 : String := "WarmProbes"
def TX5 : u_T := fun k => match k with
  | 0 => ("WarmProbes", "board", "LWarmProbes$Board;", true)
  | 1 => ("WarmProbes", "ahead", "LWarmProbes$Board;", true)
  | 2 => ("WarmProbes", "suspicion", "LWarmProbes$Suspicion;", true)
  | 3 => ("WarmProbes", "past", "LWarmProbes$Past;", true)
  | 4 => ("WarmProbes", "pad", "LWarmProbes$Pad;", true)
  | 5 => ("WarmProbes", "slots", "[LWarmProbes$Board;", true)
  | _ => ("WarmProbes", "isSaved", "[Z", true)
def tyX5 : Nat → FieldType := fun k => match k with
  | 0 => .object "WarmProbes$Board"
  | 1 => .object "WarmProbes$Board"
  | 2 => .object "WarmProbes$Suspicion"
  | 3 => .object "WarmProbes$Past"
  | 4 => .object "WarmProbes$Pad"
  | 5 => .array (.object "WarmProbes$Board")
  | _ => .array .boolean
abbrev wsX50 : List Cond := u_ws RX5 TX5 7
theorem nmX5 : ∀ a, a < 7 → ∀ b, b < 7 → a ≠ b → (TX5 a).2.1 ≠ (TX5 b).2.1 := by decide +kernel
theorem tyX5_ok : ∀ k, k < 7 → parseFieldDescriptor (TX5 k).2.2.1 = some (tyX5 k) := by decide +kernel
abbrev cX5_init : ByteArray := prog_1_method_1_code
def yX5_init : MethodName := ⟨RX5, "<init>", "()V"⟩
abbrev cX5_set : ByteArray := prog_1_method_2_code
def yX5_set : MethodName := ⟨RX5, "set", "(II)I"⟩
abbrev cX5_track : ByteArray := prog_1_method_3_code
def yX5_track : MethodName := ⟨RX5, "track", "(III)I"⟩
abbrev cX5_touch : ByteArray := prog_1_method_4_code
def yX5_touch : MethodName := ⟨RX5, "touch", "(III)I"⟩
abbrev cX5_mend : ByteArray := prog_1_method_5_code
def yX5_mend : MethodName := ⟨RX5, "mend", "(I)I"⟩
abbrev cX5_feed : ByteArray := prog_1_method_6_code
def yX5_feed : MethodName := ⟨RX5, "feed", "(II)I"⟩
abbrev cX5_cool : ByteArray := prog_1_method_7_code
def yX5_cool : MethodName := ⟨RX5, "cool", "()I"⟩
abbrev cX5_warm : ByteArray := prog_1_method_8_code
def yX5_warm : MethodName := ⟨RX5, "warm", "(I)I"⟩
abbrev cX5_probe : ByteArray := prog_1_method_9_code
def yX5_probe : MethodName := ⟨RX5, "probe", "(II)I"⟩
abbrev cX5_at : ByteArray := prog_1_method_10_code
def yX5_at : MethodName := ⟨RX5, "at", "(III)I"⟩
abbrev cX5_row : ByteArray := prog_1_method_11_code
def yX5_row : MethodName := ⟨RX5, "row", "(II)I"⟩
abbrev cX5_ofTouch : ByteArray := prog_1_method_12_code
def yX5_ofTouch : MethodName := ⟨RX5, "ofTouch", "(II)I"⟩
abbrev cX5_reading : ByteArray := prog_1_method_13_code
def yX5_reading : MethodName := ⟨RX5, "reading", "(II)I"⟩
abbrev cX5_ofNet : ByteArray := prog_1_method_14_code
def yX5_ofNet : MethodName := ⟨RX5, "ofNet", "(II)I"⟩
abbrev cX5_count : ByteArray := prog_1_method_15_code
def yX5_count : MethodName := ⟨RX5, "count", "(I)I"⟩
abbrev cX5_wouldRead : ByteArray := prog_1_method_19_code
def yX5_wouldRead : MethodName := ⟨RX5, "wouldRead", "(IIII)I"⟩
abbrev cX5_placeOf : ByteArray := prog_1_method_29_code
def yX5_placeOf : MethodName := ⟨RX5, "placeOf", "(II)I"⟩
abbrev cX5_neighbourOf : ByteArray := prog_1_method_30_code
def yX5_neighbourOf : MethodName := ⟨RX5, "neighbourOf", "(II)I"⟩
abbrev cX5_areNeighbours : ByteArray := prog_1_method_31_code
def yX5_areNeighbours : MethodName := ⟨RX5, "areNeighbours", "(II)Z"⟩
abbrev cX5_isNet : ByteArray := prog_1_method_32_code
def yX5_isNet : MethodName := ⟨RX5, "isNet", "(I)Z"⟩
abbrev cX5_isIn : ByteArray := prog_1_method_33_code
def yX5_isIn : MethodName := ⟨RX5, "isIn", "(JI)Z"⟩
abbrev cX5_columnsOf : ByteArray := prog_1_method_34_code
def yX5_columnsOf : MethodName := ⟨RX5, "columnsOf", "(JI)I"⟩
abbrev cX5_readOf : ByteArray := prog_1_method_35_code
def yX5_readOf : MethodName := ⟨RX5, "readOf", "(F)I"⟩
abbrev cX5_step : ByteArray := prog_1_method_36_code
def yX5_step : MethodName := ⟨RX5, "step", "([FI[FIJ[I)V"⟩
abbrev cX5_bitsOfFloat : ByteArray := prog_1_method_37_code
def yX5_bitsOfFloat : MethodName := ⟨RX5, "bitsOfFloat", "(F)I"⟩
def RX6 : String := "WarmProbesModel"
def TX6 : u_T := fun k => match k with
  | _ => ("", "", "", false)
def tyX6 : Nat → FieldType := fun k => match k with
  | _ => .int
abbrev wsX60 : List Cond := u_ws RX6 TX6 0
theorem nmX6 : ∀ a, a < 0 → ∀ b, b < 0 → a ≠ b → (TX6 a).2.1 ≠ (TX6 b).2.1 := by decide +kernel
theorem tyX6_ok : ∀ k, k < 0 → parseFieldDescriptor (TX6 k).2.2.1 = some (tyX6 k) := by decide +kernel
def RJ13 : String := "java/lang/Long"
def TJ13 : u_T := fun k => match k with
  | _ => ("", "", "", false)
def tyJ13 : Nat → FieldType := fun k => match k with
  | _ => .int
abbrev wsJ130 : List Cond := u_ws RJ13 TJ13 0
theorem nmJ13 : ∀ a, a < 0 → ∀ b, b < 0 → a ≠ b → (TJ13 a).2.1 ≠ (TJ13 b).2.1 := by decide +kernel
theorem tyJ13_ok : ∀ k, k < 0 → parseFieldDescriptor (TJ13 k).2.2.1 = some (tyJ13 k) := by decide +kernel
abbrev cJ13_bitCount_95d88 : ByteArray := prog_9_method_50_code
def yJ13_bitCount_95d88 : MethodName := ⟨RJ13, "bitCount", "(J)I"⟩
def RJ9 : String := "java/lang/Math"
def TJ9 : u_T := fun k => match k with
  | _ => ("", "", "", false)
def tyJ9 : Nat → FieldType := fun k => match k with
  | _ => .int
abbrev wsJ90 : List Cond := u_ws RJ9 TJ9 0
theorem nmJ9 : ∀ a, a < 0 → ∀ b, b < 0 → a ≠ b → (TJ9 a).2.1 ≠ (TJ9 b).2.1 := by decide +kernel
theorem tyJ9_ok : ∀ k, k < 0 → parseFieldDescriptor (TJ9 k).2.2.1 = some (tyJ9 k) := by decide +kernel
abbrev cJ9_abs_0f7a4 : ByteArray := prog_10_method_59_code
def yJ9_abs_0f7a4 : MethodName := ⟨RJ9, "abs", "(I)I"⟩
abbrev cJ9_max_7cf53 : ByteArray := prog_10_method_65_code
def yJ9_max_7cf53 : MethodName := ⟨RJ9, "max", "(II)I"⟩
abbrev cJ9_min_7cf53 : ByteArray := prog_10_method_69_code
def yJ9_min_7cf53 : MethodName := ⟨RJ9, "min", "(II)I"⟩
def RJ10 : String := "java/lang/System"
def TJ10 : u_T := fun k => match k with
  | _ => ("", "", "", false)
def tyJ10 : Nat → FieldType := fun k => match k with
  | _ => .int
abbrev wsJ100 : List Cond := u_ws RJ10 TJ10 0
theorem nmJ10 : ∀ a, a < 0 → ∀ b, b < 0 → a ≠ b → (TJ10 a).2.1 ≠ (TJ10 b).2.1 := by decide +kernel
theorem tyJ10_ok : ∀ k, k < 0 → parseFieldDescriptor (TJ10 k).2.2.1 = some (tyJ10 k) := by decide +kernel
def RL : String := "WarmProbesLaw"
abbrev cL_cell : ByteArray := method_2_code
def yL_cell : MethodName := ⟨RL, "cell", "([II)I"⟩
abbrev cL_low : ByteArray := method_3_code
def yL_low : MethodName := ⟨RL, "low", "(II)I"⟩
abbrev cL_net : ByteArray := method_4_code
def yL_net : MethodName := ⟨RL, "net", "(II[I)I"⟩
abbrev cL_beside : ByteArray := method_5_code
def yL_beside : MethodName := ⟨RL, "beside", "(II[I)I"⟩
abbrev cL_near : ByteArray := method_6_code
def yL_near : MethodName := ⟨RL, "near", "(II)Z"⟩
abbrev cL_fed : ByteArray := method_7_code
def yL_fed : MethodName := ⟨RL, "fed", "(II[I)Z"⟩
abbrev cL_suspect : ByteArray := method_8_code
def yL_suspect : MethodName := ⟨RL, "suspect", "(I[I[I)Z"⟩
abbrev cL_touch : ByteArray := method_9_code
def yL_touch : MethodName := ⟨RL, "touch", "(I[I[I)I"⟩
abbrev cL_live : ByteArray := method_10_code
def yL_live : MethodName := ⟨RL, "live", "([I[I[I[I)I"⟩
abbrev cL_same : ByteArray := method_11_code
def yL_same : MethodName := ⟨RL, "same", "(LWarmProbes;J[I[I[I[I[I)Z"⟩
abbrev cL_law : ByteArray := code
def yL_law : MethodName := ⟨RL, "law", "([I)Z"⟩
def wsX0_init : List Cond := .code yX0_init cX0_init 1 none :: ([.methodLink RX0 3 objectInit, .instanceMethod objectInit, .code objectInit ⟨#[0xb1]⟩ 1 none, .arrayClass .int, .fieldLink RX0 9 "WarmProbes$Board" "settings" "[I", .fieldLink RX0 15 "WarmProbes$Board" "nets" "[I", .fieldLink RX0 18 "WarmProbes$Board" "fed" "[I", .fieldLink RX0 21 "WarmProbes$Board" "touches" "I", .fieldLink RX0 25 "WarmProbes$Board" "touchPlaces" "[I", .fieldLink RX0 28 "WarmProbes$Board" "touchOthers" "[I", .fieldLink RX0 31 "WarmProbes$Board" "steps" "I", .arrayClass .float, .fieldLink RX0 34 "WarmProbes$Board" "warmth" "[F", .fieldLink RX0 38 "WarmProbes$Board" "nextWarmth" "[F", .fieldLink RX0 41 "WarmProbes$Board" "readings" "I", .fieldLink RX0 44 "WarmProbes$Board" "readingPlaces" "[I", .fieldLink RX0 47 "WarmProbes$Board" "readingReads" "[I", .fieldLink RX0 50 "WarmProbes$Board" "readingSteps" "[I", .methodLink RX0 56 arraycopyName, .native arraycopyName, .static arraycopyName, .initialized "java/lang/System"] ++ wsX00)
def wsX0_takeOver : List Cond := .code yX0_takeOver cX0_takeOver 2 none :: ([.fieldLink RX0 9 "WarmProbes$Board" "settings" "[I", .methodLink RX0 56 arraycopyName, .native arraycopyName, .static arraycopyName, .initialized "java/lang/System", .fieldLink RX0 15 "WarmProbes$Board" "nets" "[I", .fieldLink RX0 18 "WarmProbes$Board" "fed" "[I", .fieldLink RX0 21 "WarmProbes$Board" "touches" "I", .fieldLink RX0 25 "WarmProbes$Board" "touchPlaces" "[I", .fieldLink RX0 28 "WarmProbes$Board" "touchOthers" "[I", .fieldLink RX0 31 "WarmProbes$Board" "steps" "I", .fieldLink RX0 34 "WarmProbes$Board" "warmth" "[F", .fieldLink RX0 41 "WarmProbes$Board" "readings" "I", .fieldLink RX0 44 "WarmProbes$Board" "readingPlaces" "[I", .fieldLink RX0 47 "WarmProbes$Board" "readingReads" "[I", .fieldLink RX0 50 "WarmProbes$Board" "readingSteps" "[I"] ++ wsX00)
def wsX0_beginRun : List Cond := .code yX0_beginRun cX0_beginRun 2 none :: ([.fieldLink RX0 31 "WarmProbes$Board" "steps" "I", .fieldLink RX0 41 "WarmProbes$Board" "readings" "I", .fieldLink RX0 34 "WarmProbes$Board" "warmth" "[F"] ++ wsX00)
def wsX0_change : List Cond := .code yX0_change cX0_change 4 (some .int) :: ([.fieldLink RX0 9 "WarmProbes$Board" "settings" "[I", .methodLink RX0 68 yX0_beginRun, .instanceMethod yX0_beginRun, .selects RX0 yX0_beginRun yX0_beginRun, .initialized RX0, .code yX0_beginRun cX0_beginRun 2 none, .fieldLink RX0 31 "WarmProbes$Board" "steps" "I", .fieldLink RX0 41 "WarmProbes$Board" "readings" "I", .fieldLink RX0 34 "WarmProbes$Board" "warmth" "[F"] ++ wsX00)
def wsX5_placeOf : List Cond := .code yX5_placeOf cX5_placeOf 2 (some .int) :: ([])
def wsX5_isNet : List Cond := .code yX5_isNet cX5_isNet 1 (some .boolean) :: ([])
def wsX5_neighbourOf : List Cond := .code yX5_neighbourOf cX5_neighbourOf 2 (some .int) :: ([])
def wsX5_areNeighbours : List Cond := .code yX5_areNeighbours cX5_areNeighbours 3 (some .boolean) :: ([.methodLink RX5 253 yX5_neighbourOf, .static yX5_neighbourOf, .initialized RX5, .code yX5_neighbourOf cX5_neighbourOf 2 (some .int)])
def wsX0_isNeededByTouch : List Cond := .code yX0_isNeededByTouch cX0_isNeededByTouch 3 (some .boolean) :: ([.fieldLink RX0 21 "WarmProbes$Board" "touches" "I", .fieldLink RX0 25 "WarmProbes$Board" "touchPlaces" "[I", .fieldLink RX0 28 "WarmProbes$Board" "touchOthers" "[I", .fieldLink RX0 15 "WarmProbes$Board" "nets" "[I", .static yX5_areNeighbours, .initialized RX5, .code yX5_areNeighbours cX5_areNeighbours 3 (some .boolean), .methodLink RX5 253 yX5_neighbourOf, .static yX5_neighbourOf, .code yX5_neighbourOf cX5_neighbourOf 2 (some .int)] ++ wsX00)
def wsX0_lay_r1 : List Cond := [Cond.fieldLink RX0 15 "WarmProbes$Board" "nets" "[I", Cond.static yX5_placeOf, Cond.initialized RX5, Cond.code yX5_placeOf cX5_placeOf 2 (some .int), Cond.static yX5_isNet, Cond.code yX5_isNet cX5_isNet 1 (some .boolean), Cond.methodLink RX0 79 yX0_isNeededByTouch, Cond.instanceMethod yX0_isNeededByTouch, Cond.selects RX0 yX0_isNeededByTouch yX0_isNeededByTouch, Cond.initialized RX0, Cond.code yX0_isNeededByTouch cX0_isNeededByTouch 3 (some .boolean), Cond.fieldLink RX0 21 "WarmProbes$Board" "touches" "I", Cond.fieldLink RX0 25 "WarmProbes$Board" "touchPlaces" "[I", Cond.fieldLink RX0 28 "WarmProbes$Board" "touchOthers" "[I", Cond.static yX5_areNeighbours, Cond.code yX5_areNeighbours cX5_areNeighbours 3 (some .boolean), Cond.methodLink RX5 253 yX5_neighbourOf, Cond.static yX5_neighbourOf, Cond.code yX5_neighbourOf cX5_neighbourOf 2 (some .int), Cond.methodLink RX0 68 yX0_beginRun, Cond.instanceMethod yX0_beginRun, Cond.selects RX0 yX0_beginRun yX0_beginRun, Cond.code yX0_beginRun cX0_beginRun 2 none, Cond.fieldLink RX0 31 "WarmProbes$Board" "steps" "I"]
def wsX0_lay_r2 : List Cond := [Cond.fieldLink RX0 41 "WarmProbes$Board" "readings" "I", Cond.fieldLink RX0 34 "WarmProbes$Board" "warmth" "[F"]
def wsX0_lay : List Cond := .code yX0_lay cX0_lay 6 (some .int) :: ((wsX0_lay_r1 ++ wsX0_lay_r2) ++ wsX00)
def wsX0_touchAt : List Cond := .code yX0_touchAt cX0_touchAt 3 (some .int) :: ([.fieldLink RX0 21 "WarmProbes$Board" "touches" "I", .fieldLink RX0 25 "WarmProbes$Board" "touchPlaces" "[I"] ++ wsX00)
def wsX0_hasNeighbourOf : List Cond := .code yX0_hasNeighbourOf cX0_hasNeighbourOf 5 (some .boolean) :: ([.fieldLink RX0 15 "WarmProbes$Board" "nets" "[I", .static yX5_neighbourOf, .initialized RX5, .code yX5_neighbourOf cX5_neighbourOf 2 (some .int)] ++ wsX00)
def wsX0_join_r1 : List Cond := [Cond.fieldLink RX0 15 "WarmProbes$Board" "nets" "[I", Cond.fieldLink RX0 21 "WarmProbes$Board" "touches" "I", Cond.fieldLink RX0 25 "WarmProbes$Board" "touchPlaces" "[I", Cond.fieldLink RX0 28 "WarmProbes$Board" "touchOthers" "[I", Cond.static yX5_placeOf, Cond.initialized RX5, Cond.code yX5_placeOf cX5_placeOf 2 (some .int), Cond.static yX5_isNet, Cond.code yX5_isNet cX5_isNet 1 (some .boolean), Cond.methodLink RX0 86 yX0_touchAt, Cond.instanceMethod yX0_touchAt, Cond.selects RX0 yX0_touchAt yX0_touchAt, Cond.initialized RX0, Cond.code yX0_touchAt cX0_touchAt 3 (some .int), Cond.methodLink RX0 90 yX0_hasNeighbourOf, Cond.instanceMethod yX0_hasNeighbourOf, Cond.selects RX0 yX0_hasNeighbourOf yX0_hasNeighbourOf, Cond.code yX0_hasNeighbourOf cX0_hasNeighbourOf 5 (some .boolean), Cond.static yX5_neighbourOf, Cond.code yX5_neighbourOf cX5_neighbourOf 2 (some .int), Cond.methodLink RX0 68 yX0_beginRun, Cond.instanceMethod yX0_beginRun, Cond.selects RX0 yX0_beginRun yX0_beginRun, Cond.code yX0_beginRun cX0_beginRun 2 none]
def wsX0_join_r2 : List Cond := [Cond.fieldLink RX0 31 "WarmProbes$Board" "steps" "I", Cond.fieldLink RX0 41 "WarmProbes$Board" "readings" "I", Cond.fieldLink RX0 34 "WarmProbes$Board" "warmth" "[F"]
def wsX0_join : List Cond := .code yX0_join cX0_join 5 (some .int) :: ((wsX0_join_r1 ++ wsX0_join_r2) ++ wsX00)
def wsX0_part : List Cond := .code yX0_part cX0_part 3 (some .int) :: ([.fieldLink RX0 21 "WarmProbes$Board" "touches" "I", .fieldLink RX0 25 "WarmProbes$Board" "touchPlaces" "[I", .fieldLink RX0 28 "WarmProbes$Board" "touchOthers" "[I", .methodLink RX0 68 yX0_beginRun, .instanceMethod yX0_beginRun, .selects RX0 yX0_beginRun yX0_beginRun, .initialized RX0, .code yX0_beginRun cX0_beginRun 2 none, .fieldLink RX0 31 "WarmProbes$Board" "steps" "I", .fieldLink RX0 41 "WarmProbes$Board" "readings" "I", .fieldLink RX0 34 "WarmProbes$Board" "warmth" "[F"] ++ wsX00)
def wsX0_isFed : List Cond := .code yX0_isFed cX0_isFed 3 (some .boolean) :: ([.fieldLink RX0 18 "WarmProbes$Board" "fed" "[I"] ++ wsX00)
def wsX0_turnPair : List Cond := .code yX0_turnPair cX0_turnPair 3 (some .int) :: ([.fieldLink RX0 18 "WarmProbes$Board" "fed" "[I", .static yX5_isNet, .initialized RX5, .code yX5_isNet cX5_isNet 1 (some .boolean), .methodLink RX0 68 yX0_beginRun, .instanceMethod yX0_beginRun, .selects RX0 yX0_beginRun yX0_beginRun, .initialized RX0, .code yX0_beginRun cX0_beginRun 2 none, .fieldLink RX0 31 "WarmProbes$Board" "steps" "I", .fieldLink RX0 41 "WarmProbes$Board" "readings" "I", .fieldLink RX0 34 "WarmProbes$Board" "warmth" "[F", .methodLink RX0 96 yX0_isFed, .instanceMethod yX0_isFed, .selects RX0 yX0_isFed yX0_isFed, .code yX0_isFed cX0_isFed 3 (some .boolean)] ++ wsX00)
def wsX0_isLive : List Cond := .code yX0_isLive cX0_isLive 2 (some .boolean) :: ([.fieldLink RX0 15 "WarmProbes$Board" "nets" "[I", .fieldLink RX0 25 "WarmProbes$Board" "touchPlaces" "[I", .fieldLink RX0 28 "WarmProbes$Board" "touchOthers" "[I", .methodLink RX0 96 yX0_isFed, .instanceMethod yX0_isFed, .selects RX0 yX0_isFed yX0_isFed, .initialized RX0, .code yX0_isFed cX0_isFed 3 (some .boolean), .fieldLink RX0 18 "WarmProbes$Board" "fed" "[I"] ++ wsX00)
def wsX0_heated : List Cond := .code yX0_heated cX0_heated 4 (some .long) :: ([.fieldLink RX0 21 "WarmProbes$Board" "touches" "I", .fieldLink RX0 25 "WarmProbes$Board" "touchPlaces" "[I", .methodLink RX0 115 yX0_isLive, .instanceMethod yX0_isLive, .selects RX0 yX0_isLive yX0_isLive, .initialized RX0, .code yX0_isLive cX0_isLive 2 (some .boolean), .fieldLink RX0 15 "WarmProbes$Board" "nets" "[I", .fieldLink RX0 28 "WarmProbes$Board" "touchOthers" "[I", .methodLink RX0 96 yX0_isFed, .instanceMethod yX0_isFed, .selects RX0 yX0_isFed yX0_isFed, .code yX0_isFed cX0_isFed 3 (some .boolean), .fieldLink RX0 18 "WarmProbes$Board" "fed" "[I"] ++ wsX00)
def wsX5_isIn : List Cond := .code yX5_isIn cX5_isIn 3 (some .boolean) :: ([])
def wsX5_step : List Cond := .code yX5_step cX5_step 15 none :: ([.constantFloat RX5 259 (1120403456), .methodLink RX5 260 yX5_isIn, .static yX5_isIn, .initialized RX5, .code yX5_isIn cX5_isIn 3 (some .boolean)])
def wsX0_passOne : List Cond := .code yX0_passOne cX0_passOne 3 none :: ([.fieldLink RX0 34 "WarmProbes$Board" "warmth" "[F", .fieldLink RX0 38 "WarmProbes$Board" "nextWarmth" "[F", .fieldLink RX0 9 "WarmProbes$Board" "settings" "[I", .methodLink RX0 56 arraycopyName, .native arraycopyName, .static arraycopyName, .initialized "java/lang/System", .static yX5_step, .initialized RX5, .code yX5_step cX5_step 15 none, .constantFloat RX5 259 (1120403456), .methodLink RX5 260 yX5_isIn, .static yX5_isIn, .code yX5_isIn cX5_isIn 3 (some .boolean)] ++ wsX00)
def wsX0_letPass_r1 : List Cond := [Cond.fieldLink RX0 31 "WarmProbes$Board" "steps" "I", Cond.methodLink RX0 99 yX0_heated, Cond.instanceMethod yX0_heated, Cond.selects RX0 yX0_heated yX0_heated, Cond.initialized RX0, Cond.code yX0_heated cX0_heated 4 (some .long), Cond.fieldLink RX0 21 "WarmProbes$Board" "touches" "I", Cond.fieldLink RX0 25 "WarmProbes$Board" "touchPlaces" "[I", Cond.methodLink RX0 115 yX0_isLive, Cond.instanceMethod yX0_isLive, Cond.selects RX0 yX0_isLive yX0_isLive, Cond.code yX0_isLive cX0_isLive 2 (some .boolean), Cond.fieldLink RX0 15 "WarmProbes$Board" "nets" "[I", Cond.fieldLink RX0 28 "WarmProbes$Board" "touchOthers" "[I", Cond.methodLink RX0 96 yX0_isFed, Cond.instanceMethod yX0_isFed, Cond.selects RX0 yX0_isFed yX0_isFed, Cond.code yX0_isFed cX0_isFed 3 (some .boolean), Cond.fieldLink RX0 18 "WarmProbes$Board" "fed" "[I", Cond.methodLink RX0 103 yX0_passOne, Cond.instanceMethod yX0_passOne, Cond.selects RX0 yX0_passOne yX0_passOne, Cond.code yX0_passOne cX0_passOne 3 none, Cond.fieldLink RX0 34 "WarmProbes$Board" "warmth" "[F"]
def wsX0_letPass_r2 : List Cond := [Cond.fieldLink RX0 38 "WarmProbes$Board" "nextWarmth" "[F", Cond.fieldLink RX0 9 "WarmProbes$Board" "settings" "[I", Cond.methodLink RX0 56 arraycopyName, Cond.native arraycopyName, Cond.static arraycopyName, Cond.initialized "java/lang/System", Cond.static yX5_step, Cond.initialized RX5, Cond.code yX5_step cX5_step 15 none, Cond.constantFloat RX5 259 (1120403456), Cond.methodLink RX5 260 yX5_isIn, Cond.static yX5_isIn, Cond.code yX5_isIn cX5_isIn 3 (some .boolean)]
def wsX0_letPass : List Cond := .code yX0_letPass cX0_letPass 5 (some .int) :: ((wsX0_letPass_r1 ++ wsX0_letPass_r2) ++ wsX00)
def wsX5_readOf : List Cond := .code yX5_readOf cX5_readOf 1 (some .int) :: ([.constantFloat RX5 258 (1092616192)])
def wsX0_measure : List Cond := .code yX0_measure cX0_measure 5 (some .int) :: ([.fieldLink RX0 41 "WarmProbes$Board" "readings" "I", .fieldLink RX0 34 "WarmProbes$Board" "warmth" "[F", .fieldLink RX0 44 "WarmProbes$Board" "readingPlaces" "[I", .fieldLink RX0 47 "WarmProbes$Board" "readingReads" "[I", .fieldLink RX0 50 "WarmProbes$Board" "readingSteps" "[I", .fieldLink RX0 31 "WarmProbes$Board" "steps" "I", .static yX5_placeOf, .initialized RX5, .code yX5_placeOf cX5_placeOf 2 (some .int), .static yX5_readOf, .code yX5_readOf cX5_readOf 1 (some .int), .constantFloat RX5 258 (1092616192)] ++ wsX00)
def wsX0_tracked : List Cond := .code yX0_tracked cX0_tracked 4 (some .long) :: ([.fieldLink RX0 15 "WarmProbes$Board" "nets" "[I"] ++ wsX00)
def wsX0_isSuspect : List Cond := .code yX0_isSuspect cX0_isSuspect 4 (some .boolean) :: ([.fieldLink RX0 15 "WarmProbes$Board" "nets" "[I", .static yX5_neighbourOf, .initialized RX5, .code yX5_neighbourOf cX5_neighbourOf 2 (some .int), .methodLink RX0 96 yX0_isFed, .instanceMethod yX0_isFed, .selects RX0 yX0_isFed yX0_isFed, .initialized RX0, .code yX0_isFed cX0_isFed 3 (some .boolean), .fieldLink RX0 18 "WarmProbes$Board" "fed" "[I"] ++ wsX00)
def wsX0_suspects : List Cond := .code yX0_suspects cX0_suspects 4 (some .long) :: ([.methodLink RX0 118 yX0_isSuspect, .instanceMethod yX0_isSuspect, .selects RX0 yX0_isSuspect yX0_isSuspect, .initialized RX0, .code yX0_isSuspect cX0_isSuspect 4 (some .boolean), .fieldLink RX0 15 "WarmProbes$Board" "nets" "[I", .static yX5_neighbourOf, .initialized RX5, .code yX5_neighbourOf cX5_neighbourOf 2 (some .int), .methodLink RX0 96 yX0_isFed, .instanceMethod yX0_isFed, .selects RX0 yX0_isFed yX0_isFed, .code yX0_isFed cX0_isFed 3 (some .boolean), .fieldLink RX0 18 "WarmProbes$Board" "fed" "[I"] ++ wsX00)
def wsX0_placesOf : List Cond := .code yX0_placesOf cX0_placesOf 4 (some .int) :: ([.fieldLink RX0 15 "WarmProbes$Board" "nets" "[I"] ++ wsX00)
def wsX0_warmthOf : List Cond := .code yX0_warmthOf cX0_warmthOf 4 (some .float) :: ([.fieldLink RX0 15 "WarmProbes$Board" "nets" "[I", .fieldLink RX0 34 "WarmProbes$Board" "warmth" "[F"] ++ wsX00)
def wsX0_warmest : List Cond := .code yX0_warmest cX0_warmest 3 (some .int) :: ([.fieldLink RX0 34 "WarmProbes$Board" "warmth" "[F"] ++ wsX00)
def wsX1_init : List Cond := .code yX1_init cX1_init 1 none :: ([.methodLink RX1 3 objectInit, .instanceMethod objectInit, .code objectInit ⟨#[0xb1]⟩ 1 none, .arrayClass .int, .fieldLink RX1 9 "WarmProbes$Lone" "settings" "[I", .classLink RX1 15 "[F", .fieldLink RX1 17 "WarmProbes$Lone" "fields" "[[F", .fieldLink RX1 21 "WarmProbes$Lone" "steps" "[I"] ++ wsX10)
def wsX1_follow : List Cond := .code yX1_follow cX1_follow 3 none :: ([.fieldLink RX1 9 "WarmProbes$Lone" "settings" "[I", .methodLink RX1 24 arraycopyName, .native arraycopyName, .static arraycopyName, .initialized "java/lang/System", .fieldLink RX1 21 "WarmProbes$Lone" "steps" "[I"] ++ wsX10)
def wsX1_warmthBy : List Cond := .code yX1_warmthBy cX1_warmthBy 6 (some .float) :: ([.fieldLink RX1 17 "WarmProbes$Lone" "fields" "[[F", .arrayClass .float, .fieldLink RX1 21 "WarmProbes$Lone" "steps" "[I", .fieldLink RX1 9 "WarmProbes$Lone" "settings" "[I", .static yX5_step, .initialized RX5, .code yX5_step cX5_step 15 none, .constantFloat RX5 259 (1120403456), .methodLink RX5 260 yX5_isIn, .static yX5_isIn, .code yX5_isIn cX5_isIn 3 (some .boolean)] ++ wsX10)
def wsX2_init : List Cond := .code yX2_init cX2_init 1 none :: ([.methodLink RX2 3 objectInit, .instanceMethod objectInit, .code objectInit ⟨#[0xb1]⟩ 1 none, .arrayClass .int, .fieldLink RX2 9 "WarmProbes$Pad" "codes" "[I", .fieldLink RX2 15 "WarmProbes$Pad" "length" "I"] ++ wsX20)
def wsX3_init_r1 : List Cond := [Cond.methodLink RX3 3 objectInit, Cond.instanceMethod objectInit, Cond.code objectInit ⟨#[0xb1]⟩ 1 none, Cond.classLink RX3 9 RX0, Cond.fieldLink RX3 11 "WarmProbes$Past" "states" "[LWarmProbes$Board;", Cond.fieldLink RX3 17 "WarmProbes$Past" "size" "I", Cond.instantiable RX0 13, Cond.initialized RX0, Cond.instanceMethod yX0_init, Cond.code yX0_init cX0_init 1 none, Cond.methodLink RX0 3 objectInit, Cond.arrayClass .int, Cond.fieldLink RX0 9 "WarmProbes$Board" "settings" "[I", Cond.fieldLink RX0 15 "WarmProbes$Board" "nets" "[I", Cond.fieldLink RX0 18 "WarmProbes$Board" "fed" "[I", Cond.fieldLink RX0 21 "WarmProbes$Board" "touches" "I", Cond.fieldLink RX0 25 "WarmProbes$Board" "touchPlaces" "[I", Cond.fieldLink RX0 28 "WarmProbes$Board" "touchOthers" "[I", Cond.fieldLink RX0 31 "WarmProbes$Board" "steps" "I", Cond.arrayClass .float, Cond.fieldLink RX0 34 "WarmProbes$Board" "warmth" "[F", Cond.fieldLink RX0 38 "WarmProbes$Board" "nextWarmth" "[F", Cond.fieldLink RX0 41 "WarmProbes$Board" "readings" "I", Cond.fieldLink RX0 44 "WarmProbes$Board" "readingPlaces" "[I"]
def wsX3_init_r2 : List Cond := [Cond.fieldLink RX0 47 "WarmProbes$Board" "readingReads" "[I", Cond.fieldLink RX0 50 "WarmProbes$Board" "readingSteps" "[I", Cond.methodLink RX0 56 arraycopyName, Cond.native arraycopyName, Cond.static arraycopyName, Cond.initialized "java/lang/System"]
def wsX3_init : List Cond := .code yX3_init cX3_init 2 none :: ((wsX3_init_r1 ++ wsX3_init_r2) ++ wsX30 ++ wsX00)
def wsX3_prepare : List Cond := .code yX3_prepare cX3_prepare 2 none :: ([.fieldLink RX3 11 "WarmProbes$Past" "states" "[LWarmProbes$Board;", .fieldLink RX3 17 "WarmProbes$Past" "size" "I", .instanceMethod yX0_takeOver, .initialized RX0, .selects RX0 yX0_takeOver yX0_takeOver, .code yX0_takeOver cX0_takeOver 2 none, .fieldLink RX0 9 "WarmProbes$Board" "settings" "[I", .methodLink RX0 56 arraycopyName, .native arraycopyName, .static arraycopyName, .initialized "java/lang/System", .fieldLink RX0 15 "WarmProbes$Board" "nets" "[I", .fieldLink RX0 18 "WarmProbes$Board" "fed" "[I", .fieldLink RX0 21 "WarmProbes$Board" "touches" "I", .fieldLink RX0 25 "WarmProbes$Board" "touchPlaces" "[I", .fieldLink RX0 28 "WarmProbes$Board" "touchOthers" "[I", .fieldLink RX0 31 "WarmProbes$Board" "steps" "I", .fieldLink RX0 34 "WarmProbes$Board" "warmth" "[F", .fieldLink RX0 41 "WarmProbes$Board" "readings" "I", .fieldLink RX0 44 "WarmProbes$Board" "readingPlaces" "[I", .fieldLink RX0 47 "WarmProbes$Board" "readingReads" "[I", .fieldLink RX0 50 "WarmProbes$Board" "readingSteps" "[I"] ++ wsX30 ++ wsX00)
def wsX3_kept : List Cond := .code yX3_kept cX3_kept 4 (some .int) :: ([.fieldLink RX3 17 "WarmProbes$Past" "size" "I", .fieldLink RX3 11 "WarmProbes$Past" "states" "[LWarmProbes$Board;"] ++ wsX30)
def wsX4_init : List Cond := .code yX4_init cX4_init 1 none :: ([.methodLink RX4 3 objectInit, .instanceMethod objectInit, .code objectInit ⟨#[0xb1]⟩ 1 none, .classLink RX4 9 RX1, .instantiable RX1 3, .initialized RX1, .fieldLink RX4 12 "WarmProbes$Suspicion" "lone" "LWarmProbes$Lone;", .arrayClass .int, .fieldLink RX4 18 "WarmProbes$Suspicion" "reads" "[I", .instanceMethod yX1_init, .code yX1_init cX1_init 1 none, .methodLink RX1 3 objectInit, .fieldLink RX1 9 "WarmProbes$Lone" "settings" "[I", .classLink RX1 15 "[F", .fieldLink RX1 17 "WarmProbes$Lone" "fields" "[[F", .fieldLink RX1 21 "WarmProbes$Lone" "steps" "[I"] ++ wsX10 ++ wsX40)
def wsX4_fits_r1 : List Cond := [Cond.fieldLink RX4 12 "WarmProbes$Suspicion" "lone" "LWarmProbes$Lone;", Cond.methodLink RX4 81 Lib.Math.abs.name, Cond.static Lib.Math.abs.name, Cond.initialized "java/lang/Math", Cond.code Lib.Math.abs.name Lib.Math.abs.code 1 (some .int), Cond.instanceMethod yX1_follow, Cond.initialized RX1, Cond.selects RX1 yX1_follow yX1_follow, Cond.code yX1_follow cX1_follow 3 none, Cond.fieldLink RX1 9 "WarmProbes$Lone" "settings" "[I", Cond.methodLink RX1 24 arraycopyName, Cond.native arraycopyName, Cond.static arraycopyName, Cond.initialized "java/lang/System", Cond.fieldLink RX1 21 "WarmProbes$Lone" "steps" "[I", Cond.instanceMethod yX1_warmthBy, Cond.selects RX1 yX1_warmthBy yX1_warmthBy, Cond.code yX1_warmthBy cX1_warmthBy 6 (some .float), Cond.fieldLink RX1 17 "WarmProbes$Lone" "fields" "[[F", Cond.arrayClass .float, Cond.static yX5_step, Cond.initialized RX5, Cond.code yX5_step cX5_step 15 none, Cond.constantFloat RX5 259 (1120403456)]
def wsX4_fits_r2 : List Cond := [Cond.methodLink RX5 260 yX5_isIn, Cond.static yX5_isIn, Cond.code yX5_isIn cX5_isIn 3 (some .boolean), Cond.static yX5_readOf, Cond.code yX5_readOf cX5_readOf 1 (some .int), Cond.constantFloat RX5 258 (1092616192)]
def wsX4_fits : List Cond := .code yX4_fits cX4_fits 6 (some .boolean) :: ((wsX4_fits_r1 ++ wsX4_fits_r2) ++ wsX40 ++ wsX00 ++ wsX10)
def wsX4_couldBe_r1 : List Cond := [Cond.instanceMethod yX0_isSuspect, Cond.initialized RX0, Cond.selects RX0 yX0_isSuspect yX0_isSuspect, Cond.code yX0_isSuspect cX0_isSuspect 4 (some .boolean), Cond.fieldLink RX0 15 "WarmProbes$Board" "nets" "[I", Cond.static yX5_neighbourOf, Cond.initialized RX5, Cond.code yX5_neighbourOf cX5_neighbourOf 2 (some .int), Cond.methodLink RX0 96 yX0_isFed, Cond.instanceMethod yX0_isFed, Cond.selects RX0 yX0_isFed yX0_isFed, Cond.code yX0_isFed cX0_isFed 3 (some .boolean), Cond.fieldLink RX0 18 "WarmProbes$Board" "fed" "[I", Cond.methodLink RX4 28 yX4_fits, Cond.instanceMethod yX4_fits, Cond.selects RX4 yX4_fits yX4_fits, Cond.initialized RX4, Cond.code yX4_fits cX4_fits 6 (some .boolean), Cond.fieldLink RX4 12 "WarmProbes$Suspicion" "lone" "LWarmProbes$Lone;", Cond.methodLink RX4 81 Lib.Math.abs.name, Cond.static Lib.Math.abs.name, Cond.initialized "java/lang/Math", Cond.code Lib.Math.abs.name Lib.Math.abs.code 1 (some .int), Cond.instanceMethod yX1_follow]
def wsX4_couldBe_r2 : List Cond := [Cond.initialized RX1, Cond.selects RX1 yX1_follow yX1_follow, Cond.code yX1_follow cX1_follow 3 none, Cond.fieldLink RX1 9 "WarmProbes$Lone" "settings" "[I", Cond.methodLink RX1 24 arraycopyName, Cond.native arraycopyName, Cond.static arraycopyName, Cond.initialized "java/lang/System", Cond.fieldLink RX1 21 "WarmProbes$Lone" "steps" "[I", Cond.instanceMethod yX1_warmthBy, Cond.selects RX1 yX1_warmthBy yX1_warmthBy, Cond.code yX1_warmthBy cX1_warmthBy 6 (some .float), Cond.fieldLink RX1 17 "WarmProbes$Lone" "fields" "[[F", Cond.arrayClass .float, Cond.static yX5_step, Cond.code yX5_step cX5_step 15 none, Cond.constantFloat RX5 259 (1120403456), Cond.methodLink RX5 260 yX5_isIn, Cond.static yX5_isIn, Cond.code yX5_isIn cX5_isIn 3 (some .boolean), Cond.static yX5_readOf, Cond.code yX5_readOf cX5_readOf 1 (some .int), Cond.constantFloat RX5 258 (1092616192)]
def wsX4_couldBe : List Cond := .code yX4_couldBe cX4_couldBe 3 (some .boolean) :: ((wsX4_couldBe_r1 ++ wsX4_couldBe_r2) ++ wsX00 ++ wsX40 ++ wsX10)
def wsX4_fitting_r1 : List Cond := [Cond.methodLink RX4 32 yX4_couldBe, Cond.instanceMethod yX4_couldBe, Cond.selects RX4 yX4_couldBe yX4_couldBe, Cond.initialized RX4, Cond.code yX4_couldBe cX4_couldBe 3 (some .boolean), Cond.instanceMethod yX0_isSuspect, Cond.initialized RX0, Cond.selects RX0 yX0_isSuspect yX0_isSuspect, Cond.code yX0_isSuspect cX0_isSuspect 4 (some .boolean), Cond.fieldLink RX0 15 "WarmProbes$Board" "nets" "[I", Cond.static yX5_neighbourOf, Cond.initialized RX5, Cond.code yX5_neighbourOf cX5_neighbourOf 2 (some .int), Cond.methodLink RX0 96 yX0_isFed, Cond.instanceMethod yX0_isFed, Cond.selects RX0 yX0_isFed yX0_isFed, Cond.code yX0_isFed cX0_isFed 3 (some .boolean), Cond.fieldLink RX0 18 "WarmProbes$Board" "fed" "[I", Cond.methodLink RX4 28 yX4_fits, Cond.instanceMethod yX4_fits, Cond.selects RX4 yX4_fits yX4_fits, Cond.code yX4_fits cX4_fits 6 (some .boolean), Cond.fieldLink RX4 12 "WarmProbes$Suspicion" "lone" "LWarmProbes$Lone;", Cond.methodLink RX4 81 Lib.Math.abs.name]
def wsX4_fitting_r2 : List Cond := [Cond.static Lib.Math.abs.name, Cond.initialized "java/lang/Math", Cond.code Lib.Math.abs.name Lib.Math.abs.code 1 (some .int), Cond.instanceMethod yX1_follow, Cond.initialized RX1, Cond.selects RX1 yX1_follow yX1_follow, Cond.code yX1_follow cX1_follow 3 none, Cond.fieldLink RX1 9 "WarmProbes$Lone" "settings" "[I", Cond.methodLink RX1 24 arraycopyName, Cond.native arraycopyName, Cond.static arraycopyName, Cond.initialized "java/lang/System", Cond.fieldLink RX1 21 "WarmProbes$Lone" "steps" "[I", Cond.instanceMethod yX1_warmthBy, Cond.selects RX1 yX1_warmthBy yX1_warmthBy, Cond.code yX1_warmthBy cX1_warmthBy 6 (some .float), Cond.fieldLink RX1 17 "WarmProbes$Lone" "fields" "[[F", Cond.arrayClass .float, Cond.static yX5_step, Cond.code yX5_step cX5_step 15 none, Cond.constantFloat RX5 259 (1120403456), Cond.methodLink RX5 260 yX5_isIn, Cond.static yX5_isIn, Cond.code yX5_isIn cX5_isIn 3 (some .boolean)]
def wsX4_fitting_r3 : List Cond := [Cond.static yX5_readOf, Cond.code yX5_readOf cX5_readOf 1 (some .int), Cond.constantFloat RX5 258 (1092616192)]
def wsX4_fitting : List Cond := .code yX4_fitting cX4_fitting 5 (some .long) :: ((wsX4_fitting_r1 ++ (wsX4_fitting_r2 ++ wsX4_fitting_r3)) ++ wsX00 ++ wsX40 ++ wsX10)
def wsX4_pairs_r1 : List Cond := [Cond.instanceMethod yX0_suspects, Cond.initialized RX0, Cond.selects RX0 yX0_suspects yX0_suspects, Cond.code yX0_suspects cX0_suspects 4 (some .long), Cond.methodLink RX0 118 yX0_isSuspect, Cond.instanceMethod yX0_isSuspect, Cond.selects RX0 yX0_isSuspect yX0_isSuspect, Cond.code yX0_isSuspect cX0_isSuspect 4 (some .boolean), Cond.fieldLink RX0 15 "WarmProbes$Board" "nets" "[I", Cond.static yX5_neighbourOf, Cond.initialized RX5, Cond.code yX5_neighbourOf cX5_neighbourOf 2 (some .int), Cond.methodLink RX0 96 yX0_isFed, Cond.instanceMethod yX0_isFed, Cond.selects RX0 yX0_isFed yX0_isFed, Cond.code yX0_isFed cX0_isFed 3 (some .boolean), Cond.fieldLink RX0 18 "WarmProbes$Board" "fed" "[I", Cond.static yX5_isIn, Cond.code yX5_isIn cX5_isIn 3 (some .boolean), Cond.methodLink RX4 28 yX4_fits, Cond.instanceMethod yX4_fits, Cond.selects RX4 yX4_fits yX4_fits, Cond.initialized RX4, Cond.code yX4_fits cX4_fits 6 (some .boolean)]
def wsX4_pairs_r2 : List Cond := [Cond.fieldLink RX4 12 "WarmProbes$Suspicion" "lone" "LWarmProbes$Lone;", Cond.methodLink RX4 81 Lib.Math.abs.name, Cond.static Lib.Math.abs.name, Cond.initialized "java/lang/Math", Cond.code Lib.Math.abs.name Lib.Math.abs.code 1 (some .int), Cond.instanceMethod yX1_follow, Cond.initialized RX1, Cond.selects RX1 yX1_follow yX1_follow, Cond.code yX1_follow cX1_follow 3 none, Cond.fieldLink RX1 9 "WarmProbes$Lone" "settings" "[I", Cond.methodLink RX1 24 arraycopyName, Cond.native arraycopyName, Cond.static arraycopyName, Cond.initialized "java/lang/System", Cond.fieldLink RX1 21 "WarmProbes$Lone" "steps" "[I", Cond.instanceMethod yX1_warmthBy, Cond.selects RX1 yX1_warmthBy yX1_warmthBy, Cond.code yX1_warmthBy cX1_warmthBy 6 (some .float), Cond.fieldLink RX1 17 "WarmProbes$Lone" "fields" "[[F", Cond.arrayClass .float, Cond.static yX5_step, Cond.code yX5_step cX5_step 15 none, Cond.constantFloat RX5 259 (1120403456), Cond.methodLink RX5 260 yX5_isIn]
def wsX4_pairs_r3 : List Cond := [Cond.static yX5_readOf, Cond.code yX5_readOf cX5_readOf 1 (some .int), Cond.constantFloat RX5 258 (1092616192)]
def wsX4_pairs : List Cond := .code yX4_pairs cX4_pairs 7 (some .int) :: ((wsX4_pairs_r1 ++ (wsX4_pairs_r2 ++ wsX4_pairs_r3)) ++ wsX00 ++ wsX40 ++ wsX10)
def wsX4_couldBeOneOfTwo_r1 : List Cond := [Cond.methodLink RX4 44 Lib.Math.min.name, Cond.static Lib.Math.min.name, Cond.initialized "java/lang/Math", Cond.code Lib.Math.min.name Lib.Math.min.code 2 (some .int), Cond.methodLink RX4 50 Lib.Math.max.name, Cond.static Lib.Math.max.name, Cond.code Lib.Math.max.name Lib.Math.max.code 2 (some .int), Cond.instanceMethod yX0_isSuspect, Cond.initialized RX0, Cond.selects RX0 yX0_isSuspect yX0_isSuspect, Cond.code yX0_isSuspect cX0_isSuspect 4 (some .boolean), Cond.fieldLink RX0 15 "WarmProbes$Board" "nets" "[I", Cond.static yX5_neighbourOf, Cond.initialized RX5, Cond.code yX5_neighbourOf cX5_neighbourOf 2 (some .int), Cond.methodLink RX0 96 yX0_isFed, Cond.instanceMethod yX0_isFed, Cond.selects RX0 yX0_isFed yX0_isFed, Cond.code yX0_isFed cX0_isFed 3 (some .boolean), Cond.fieldLink RX0 18 "WarmProbes$Board" "fed" "[I", Cond.methodLink RX4 28 yX4_fits, Cond.instanceMethod yX4_fits, Cond.selects RX4 yX4_fits yX4_fits, Cond.initialized RX4]
def wsX4_couldBeOneOfTwo_r2 : List Cond := [Cond.code yX4_fits cX4_fits 6 (some .boolean), Cond.fieldLink RX4 12 "WarmProbes$Suspicion" "lone" "LWarmProbes$Lone;", Cond.methodLink RX4 81 Lib.Math.abs.name, Cond.static Lib.Math.abs.name, Cond.code Lib.Math.abs.name Lib.Math.abs.code 1 (some .int), Cond.instanceMethod yX1_follow, Cond.initialized RX1, Cond.selects RX1 yX1_follow yX1_follow, Cond.code yX1_follow cX1_follow 3 none, Cond.fieldLink RX1 9 "WarmProbes$Lone" "settings" "[I", Cond.methodLink RX1 24 arraycopyName, Cond.native arraycopyName, Cond.static arraycopyName, Cond.initialized "java/lang/System", Cond.fieldLink RX1 21 "WarmProbes$Lone" "steps" "[I", Cond.instanceMethod yX1_warmthBy, Cond.selects RX1 yX1_warmthBy yX1_warmthBy, Cond.code yX1_warmthBy cX1_warmthBy 6 (some .float), Cond.fieldLink RX1 17 "WarmProbes$Lone" "fields" "[[F", Cond.arrayClass .float, Cond.static yX5_step, Cond.code yX5_step cX5_step 15 none, Cond.constantFloat RX5 259 (1120403456), Cond.methodLink RX5 260 yX5_isIn]
def wsX4_couldBeOneOfTwo_r3 : List Cond := [Cond.static yX5_isIn, Cond.code yX5_isIn cX5_isIn 3 (some .boolean), Cond.static yX5_readOf, Cond.code yX5_readOf cX5_readOf 1 (some .int), Cond.constantFloat RX5 258 (1092616192)]
def wsX4_couldBeOneOfTwo : List Cond := .code yX4_couldBeOneOfTwo cX4_couldBeOneOfTwo 4 (some .boolean) :: ((wsX4_couldBeOneOfTwo_r1 ++ (wsX4_couldBeOneOfTwo_r2 ++ wsX4_couldBeOneOfTwo_r3)) ++ wsX00 ++ wsX40 ++ wsX10)
def wsX4_readBy_r1 : List Cond := [Cond.fieldLink RX4 12 "WarmProbes$Suspicion" "lone" "LWarmProbes$Lone;", Cond.instanceMethod yX1_follow, Cond.initialized RX1, Cond.selects RX1 yX1_follow yX1_follow, Cond.code yX1_follow cX1_follow 3 none, Cond.fieldLink RX1 9 "WarmProbes$Lone" "settings" "[I", Cond.methodLink RX1 24 arraycopyName, Cond.native arraycopyName, Cond.static arraycopyName, Cond.initialized "java/lang/System", Cond.fieldLink RX1 21 "WarmProbes$Lone" "steps" "[I", Cond.instanceMethod yX1_warmthBy, Cond.selects RX1 yX1_warmthBy yX1_warmthBy, Cond.code yX1_warmthBy cX1_warmthBy 6 (some .float), Cond.fieldLink RX1 17 "WarmProbes$Lone" "fields" "[[F", Cond.arrayClass .float, Cond.static yX5_step, Cond.initialized RX5, Cond.code yX5_step cX5_step 15 none, Cond.constantFloat RX5 259 (1120403456), Cond.methodLink RX5 260 yX5_isIn, Cond.static yX5_isIn, Cond.code yX5_isIn cX5_isIn 3 (some .boolean), Cond.static yX5_readOf]
def wsX4_readBy_r2 : List Cond := [Cond.code yX5_readOf cX5_readOf 1 (some .int), Cond.constantFloat RX5 258 (1092616192)]
def wsX4_readBy : List Cond := .code yX4_readBy cX4_readBy 4 (some .int) :: ((wsX4_readBy_r1 ++ wsX4_readBy_r2) ++ wsX40 ++ wsX00 ++ wsX10)
def wsX5_init_r1 : List Cond := [Cond.methodLink RX5 1 objectInit, Cond.instanceMethod objectInit, Cond.code objectInit ⟨#[0xb1]⟩ 1 none, Cond.classLink RX5 7 RX0, Cond.instantiable RX0 13, Cond.initialized RX0, Cond.fieldLink RX5 10 "WarmProbes" "board" "LWarmProbes$Board;", Cond.fieldLink RX5 16 "WarmProbes" "ahead" "LWarmProbes$Board;", Cond.classLink RX5 19 RX4, Cond.instantiable RX4 2, Cond.initialized RX4, Cond.fieldLink RX5 22 "WarmProbes" "suspicion" "LWarmProbes$Suspicion;", Cond.classLink RX5 26 RX3, Cond.instantiable RX3 2, Cond.initialized RX3, Cond.fieldLink RX5 29 "WarmProbes" "past" "LWarmProbes$Past;", Cond.classLink RX5 33 RX2, Cond.instantiable RX2 2, Cond.initialized RX2, Cond.fieldLink RX5 36 "WarmProbes" "pad" "LWarmProbes$Pad;", Cond.fieldLink RX5 40 "WarmProbes" "slots" "[LWarmProbes$Board;", Cond.arrayClass .boolean, Cond.fieldLink RX5 44 "WarmProbes" "isSaved" "[Z", Cond.instanceMethod yX0_init]
def wsX5_init_r2 : List Cond := [Cond.code yX0_init cX0_init 1 none, Cond.methodLink RX0 3 objectInit, Cond.arrayClass .int, Cond.fieldLink RX0 9 "WarmProbes$Board" "settings" "[I", Cond.fieldLink RX0 15 "WarmProbes$Board" "nets" "[I", Cond.fieldLink RX0 18 "WarmProbes$Board" "fed" "[I", Cond.fieldLink RX0 21 "WarmProbes$Board" "touches" "I", Cond.fieldLink RX0 25 "WarmProbes$Board" "touchPlaces" "[I", Cond.fieldLink RX0 28 "WarmProbes$Board" "touchOthers" "[I", Cond.fieldLink RX0 31 "WarmProbes$Board" "steps" "I", Cond.arrayClass .float, Cond.fieldLink RX0 34 "WarmProbes$Board" "warmth" "[F", Cond.fieldLink RX0 38 "WarmProbes$Board" "nextWarmth" "[F", Cond.fieldLink RX0 41 "WarmProbes$Board" "readings" "I", Cond.fieldLink RX0 44 "WarmProbes$Board" "readingPlaces" "[I", Cond.fieldLink RX0 47 "WarmProbes$Board" "readingReads" "[I", Cond.fieldLink RX0 50 "WarmProbes$Board" "readingSteps" "[I", Cond.methodLink RX0 56 arraycopyName, Cond.native arraycopyName, Cond.static arraycopyName, Cond.initialized "java/lang/System", Cond.instanceMethod yX4_init, Cond.code yX4_init cX4_init 1 none, Cond.methodLink RX4 3 objectInit]
def wsX5_init_r3 : List Cond := [Cond.classLink RX4 9 RX1, Cond.instantiable RX1 3, Cond.initialized RX1, Cond.fieldLink RX4 12 "WarmProbes$Suspicion" "lone" "LWarmProbes$Lone;", Cond.fieldLink RX4 18 "WarmProbes$Suspicion" "reads" "[I", Cond.instanceMethod yX1_init, Cond.code yX1_init cX1_init 1 none, Cond.methodLink RX1 3 objectInit, Cond.fieldLink RX1 9 "WarmProbes$Lone" "settings" "[I", Cond.classLink RX1 15 "[F", Cond.fieldLink RX1 17 "WarmProbes$Lone" "fields" "[[F", Cond.fieldLink RX1 21 "WarmProbes$Lone" "steps" "[I", Cond.instanceMethod yX3_init, Cond.code yX3_init cX3_init 2 none, Cond.methodLink RX3 3 objectInit, Cond.classLink RX3 9 RX0, Cond.fieldLink RX3 11 "WarmProbes$Past" "states" "[LWarmProbes$Board;", Cond.fieldLink RX3 17 "WarmProbes$Past" "size" "I", Cond.instanceMethod yX2_init, Cond.code yX2_init cX2_init 1 none, Cond.methodLink RX2 3 objectInit, Cond.fieldLink RX2 9 "WarmProbes$Pad" "codes" "[I", Cond.fieldLink RX2 15 "WarmProbes$Pad" "length" "I"]
def wsX5_init : List Cond := .code yX5_init cX5_init 2 none :: ((wsX5_init_r1 ++ (wsX5_init_r2 ++ wsX5_init_r3)) ++ wsX00 ++ wsX50 ++ wsX40 ++ wsX30 ++ wsX20 ++ wsX10)
def wsX5_set_r1 : List Cond := [Cond.fieldLink RX5 29 "WarmProbes" "past" "LWarmProbes$Past;", Cond.fieldLink RX5 10 "WarmProbes" "board" "LWarmProbes$Board;", Cond.instanceMethod yX3_prepare, Cond.initialized RX3, Cond.selects RX3 yX3_prepare yX3_prepare, Cond.code yX3_prepare cX3_prepare 2 none, Cond.fieldLink RX3 11 "WarmProbes$Past" "states" "[LWarmProbes$Board;", Cond.fieldLink RX3 17 "WarmProbes$Past" "size" "I", Cond.instanceMethod yX0_takeOver, Cond.initialized RX0, Cond.selects RX0 yX0_takeOver yX0_takeOver, Cond.code yX0_takeOver cX0_takeOver 2 none, Cond.fieldLink RX0 9 "WarmProbes$Board" "settings" "[I", Cond.methodLink RX0 56 arraycopyName, Cond.native arraycopyName, Cond.static arraycopyName, Cond.initialized "java/lang/System", Cond.fieldLink RX0 15 "WarmProbes$Board" "nets" "[I", Cond.fieldLink RX0 18 "WarmProbes$Board" "fed" "[I", Cond.fieldLink RX0 21 "WarmProbes$Board" "touches" "I", Cond.fieldLink RX0 25 "WarmProbes$Board" "touchPlaces" "[I", Cond.fieldLink RX0 28 "WarmProbes$Board" "touchOthers" "[I", Cond.fieldLink RX0 31 "WarmProbes$Board" "steps" "I", Cond.fieldLink RX0 34 "WarmProbes$Board" "warmth" "[F"]
def wsX5_set_r2 : List Cond := [Cond.fieldLink RX0 41 "WarmProbes$Board" "readings" "I", Cond.fieldLink RX0 44 "WarmProbes$Board" "readingPlaces" "[I", Cond.fieldLink RX0 47 "WarmProbes$Board" "readingReads" "[I", Cond.fieldLink RX0 50 "WarmProbes$Board" "readingSteps" "[I", Cond.instanceMethod yX0_change, Cond.selects RX0 yX0_change yX0_change, Cond.code yX0_change cX0_change 4 (some .int), Cond.methodLink RX0 68 yX0_beginRun, Cond.instanceMethod yX0_beginRun, Cond.selects RX0 yX0_beginRun yX0_beginRun, Cond.code yX0_beginRun cX0_beginRun 2 none, Cond.instanceMethod yX3_kept, Cond.selects RX3 yX3_kept yX3_kept, Cond.code yX3_kept cX3_kept 4 (some .int)]
def wsX5_set : List Cond := .code yX5_set cX5_set 3 (some .int) :: ((wsX5_set_r1 ++ wsX5_set_r2) ++ wsX50 ++ wsX30 ++ wsX00)
def wsX5_track_r1 : List Cond := [Cond.fieldLink RX5 29 "WarmProbes" "past" "LWarmProbes$Past;", Cond.fieldLink RX5 10 "WarmProbes" "board" "LWarmProbes$Board;", Cond.instanceMethod yX3_prepare, Cond.initialized RX3, Cond.selects RX3 yX3_prepare yX3_prepare, Cond.code yX3_prepare cX3_prepare 2 none, Cond.fieldLink RX3 11 "WarmProbes$Past" "states" "[LWarmProbes$Board;", Cond.fieldLink RX3 17 "WarmProbes$Past" "size" "I", Cond.instanceMethod yX0_takeOver, Cond.initialized RX0, Cond.selects RX0 yX0_takeOver yX0_takeOver, Cond.code yX0_takeOver cX0_takeOver 2 none, Cond.fieldLink RX0 9 "WarmProbes$Board" "settings" "[I", Cond.methodLink RX0 56 arraycopyName, Cond.native arraycopyName, Cond.static arraycopyName, Cond.initialized "java/lang/System", Cond.fieldLink RX0 15 "WarmProbes$Board" "nets" "[I", Cond.fieldLink RX0 18 "WarmProbes$Board" "fed" "[I", Cond.fieldLink RX0 21 "WarmProbes$Board" "touches" "I", Cond.fieldLink RX0 25 "WarmProbes$Board" "touchPlaces" "[I", Cond.fieldLink RX0 28 "WarmProbes$Board" "touchOthers" "[I", Cond.fieldLink RX0 31 "WarmProbes$Board" "steps" "I", Cond.fieldLink RX0 34 "WarmProbes$Board" "warmth" "[F"]
def wsX5_track_r2 : List Cond := [Cond.fieldLink RX0 41 "WarmProbes$Board" "readings" "I", Cond.fieldLink RX0 44 "WarmProbes$Board" "readingPlaces" "[I", Cond.fieldLink RX0 47 "WarmProbes$Board" "readingReads" "[I", Cond.fieldLink RX0 50 "WarmProbes$Board" "readingSteps" "[I", Cond.instanceMethod yX0_lay, Cond.selects RX0 yX0_lay yX0_lay, Cond.code yX0_lay cX0_lay 6 (some .int), Cond.static yX5_placeOf, Cond.initialized RX5, Cond.code yX5_placeOf cX5_placeOf 2 (some .int), Cond.static yX5_isNet, Cond.code yX5_isNet cX5_isNet 1 (some .boolean), Cond.methodLink RX0 79 yX0_isNeededByTouch, Cond.instanceMethod yX0_isNeededByTouch, Cond.selects RX0 yX0_isNeededByTouch yX0_isNeededByTouch, Cond.code yX0_isNeededByTouch cX0_isNeededByTouch 3 (some .boolean), Cond.static yX5_areNeighbours, Cond.code yX5_areNeighbours cX5_areNeighbours 3 (some .boolean), Cond.methodLink RX5 253 yX5_neighbourOf, Cond.static yX5_neighbourOf, Cond.code yX5_neighbourOf cX5_neighbourOf 2 (some .int), Cond.methodLink RX0 68 yX0_beginRun, Cond.instanceMethod yX0_beginRun, Cond.selects RX0 yX0_beginRun yX0_beginRun]
def wsX5_track_r3 : List Cond := [Cond.code yX0_beginRun cX0_beginRun 2 none, Cond.instanceMethod yX3_kept, Cond.selects RX3 yX3_kept yX3_kept, Cond.code yX3_kept cX3_kept 4 (some .int)]
def wsX5_track : List Cond := .code yX5_track cX5_track 4 (some .int) :: ((wsX5_track_r1 ++ (wsX5_track_r2 ++ wsX5_track_r3)) ++ wsX50 ++ wsX30 ++ wsX00)
def wsX5_touch_r1 : List Cond := [Cond.fieldLink RX5 29 "WarmProbes" "past" "LWarmProbes$Past;", Cond.fieldLink RX5 10 "WarmProbes" "board" "LWarmProbes$Board;", Cond.instanceMethod yX3_prepare, Cond.initialized RX3, Cond.selects RX3 yX3_prepare yX3_prepare, Cond.code yX3_prepare cX3_prepare 2 none, Cond.fieldLink RX3 11 "WarmProbes$Past" "states" "[LWarmProbes$Board;", Cond.fieldLink RX3 17 "WarmProbes$Past" "size" "I", Cond.instanceMethod yX0_takeOver, Cond.initialized RX0, Cond.selects RX0 yX0_takeOver yX0_takeOver, Cond.code yX0_takeOver cX0_takeOver 2 none, Cond.fieldLink RX0 9 "WarmProbes$Board" "settings" "[I", Cond.methodLink RX0 56 arraycopyName, Cond.native arraycopyName, Cond.static arraycopyName, Cond.initialized "java/lang/System", Cond.fieldLink RX0 15 "WarmProbes$Board" "nets" "[I", Cond.fieldLink RX0 18 "WarmProbes$Board" "fed" "[I", Cond.fieldLink RX0 21 "WarmProbes$Board" "touches" "I", Cond.fieldLink RX0 25 "WarmProbes$Board" "touchPlaces" "[I", Cond.fieldLink RX0 28 "WarmProbes$Board" "touchOthers" "[I", Cond.fieldLink RX0 31 "WarmProbes$Board" "steps" "I", Cond.fieldLink RX0 34 "WarmProbes$Board" "warmth" "[F"]
def wsX5_touch_r2 : List Cond := [Cond.fieldLink RX0 41 "WarmProbes$Board" "readings" "I", Cond.fieldLink RX0 44 "WarmProbes$Board" "readingPlaces" "[I", Cond.fieldLink RX0 47 "WarmProbes$Board" "readingReads" "[I", Cond.fieldLink RX0 50 "WarmProbes$Board" "readingSteps" "[I", Cond.instanceMethod yX0_join, Cond.selects RX0 yX0_join yX0_join, Cond.code yX0_join cX0_join 5 (some .int), Cond.static yX5_placeOf, Cond.initialized RX5, Cond.code yX5_placeOf cX5_placeOf 2 (some .int), Cond.static yX5_isNet, Cond.code yX5_isNet cX5_isNet 1 (some .boolean), Cond.methodLink RX0 86 yX0_touchAt, Cond.instanceMethod yX0_touchAt, Cond.selects RX0 yX0_touchAt yX0_touchAt, Cond.code yX0_touchAt cX0_touchAt 3 (some .int), Cond.methodLink RX0 90 yX0_hasNeighbourOf, Cond.instanceMethod yX0_hasNeighbourOf, Cond.selects RX0 yX0_hasNeighbourOf yX0_hasNeighbourOf, Cond.code yX0_hasNeighbourOf cX0_hasNeighbourOf 5 (some .boolean), Cond.static yX5_neighbourOf, Cond.code yX5_neighbourOf cX5_neighbourOf 2 (some .int), Cond.methodLink RX0 68 yX0_beginRun, Cond.instanceMethod yX0_beginRun]
def wsX5_touch_r3 : List Cond := [Cond.selects RX0 yX0_beginRun yX0_beginRun, Cond.code yX0_beginRun cX0_beginRun 2 none, Cond.instanceMethod yX3_kept, Cond.selects RX3 yX3_kept yX3_kept, Cond.code yX3_kept cX3_kept 4 (some .int)]
def wsX5_touch : List Cond := .code yX5_touch cX5_touch 4 (some .int) :: ((wsX5_touch_r1 ++ (wsX5_touch_r2 ++ wsX5_touch_r3)) ++ wsX50 ++ wsX30 ++ wsX00)
def wsX5_mend_r1 : List Cond := [Cond.fieldLink RX5 29 "WarmProbes" "past" "LWarmProbes$Past;", Cond.fieldLink RX5 10 "WarmProbes" "board" "LWarmProbes$Board;", Cond.instanceMethod yX3_prepare, Cond.initialized RX3, Cond.selects RX3 yX3_prepare yX3_prepare, Cond.code yX3_prepare cX3_prepare 2 none, Cond.fieldLink RX3 11 "WarmProbes$Past" "states" "[LWarmProbes$Board;", Cond.fieldLink RX3 17 "WarmProbes$Past" "size" "I", Cond.instanceMethod yX0_takeOver, Cond.initialized RX0, Cond.selects RX0 yX0_takeOver yX0_takeOver, Cond.code yX0_takeOver cX0_takeOver 2 none, Cond.fieldLink RX0 9 "WarmProbes$Board" "settings" "[I", Cond.methodLink RX0 56 arraycopyName, Cond.native arraycopyName, Cond.static arraycopyName, Cond.initialized "java/lang/System", Cond.fieldLink RX0 15 "WarmProbes$Board" "nets" "[I", Cond.fieldLink RX0 18 "WarmProbes$Board" "fed" "[I", Cond.fieldLink RX0 21 "WarmProbes$Board" "touches" "I", Cond.fieldLink RX0 25 "WarmProbes$Board" "touchPlaces" "[I", Cond.fieldLink RX0 28 "WarmProbes$Board" "touchOthers" "[I", Cond.fieldLink RX0 31 "WarmProbes$Board" "steps" "I", Cond.fieldLink RX0 34 "WarmProbes$Board" "warmth" "[F"]
def wsX5_mend_r2 : List Cond := [Cond.fieldLink RX0 41 "WarmProbes$Board" "readings" "I", Cond.fieldLink RX0 44 "WarmProbes$Board" "readingPlaces" "[I", Cond.fieldLink RX0 47 "WarmProbes$Board" "readingReads" "[I", Cond.fieldLink RX0 50 "WarmProbes$Board" "readingSteps" "[I", Cond.instanceMethod yX0_part, Cond.selects RX0 yX0_part yX0_part, Cond.code yX0_part cX0_part 3 (some .int), Cond.methodLink RX0 68 yX0_beginRun, Cond.instanceMethod yX0_beginRun, Cond.selects RX0 yX0_beginRun yX0_beginRun, Cond.code yX0_beginRun cX0_beginRun 2 none, Cond.instanceMethod yX3_kept, Cond.selects RX3 yX3_kept yX3_kept, Cond.code yX3_kept cX3_kept 4 (some .int)]
def wsX5_mend : List Cond := .code yX5_mend cX5_mend 2 (some .int) :: ((wsX5_mend_r1 ++ wsX5_mend_r2) ++ wsX50 ++ wsX30 ++ wsX00)
def wsX5_feed_r1 : List Cond := [Cond.fieldLink RX5 29 "WarmProbes" "past" "LWarmProbes$Past;", Cond.fieldLink RX5 10 "WarmProbes" "board" "LWarmProbes$Board;", Cond.instanceMethod yX3_prepare, Cond.initialized RX3, Cond.selects RX3 yX3_prepare yX3_prepare, Cond.code yX3_prepare cX3_prepare 2 none, Cond.fieldLink RX3 11 "WarmProbes$Past" "states" "[LWarmProbes$Board;", Cond.fieldLink RX3 17 "WarmProbes$Past" "size" "I", Cond.instanceMethod yX0_takeOver, Cond.initialized RX0, Cond.selects RX0 yX0_takeOver yX0_takeOver, Cond.code yX0_takeOver cX0_takeOver 2 none, Cond.fieldLink RX0 9 "WarmProbes$Board" "settings" "[I", Cond.methodLink RX0 56 arraycopyName, Cond.native arraycopyName, Cond.static arraycopyName, Cond.initialized "java/lang/System", Cond.fieldLink RX0 15 "WarmProbes$Board" "nets" "[I", Cond.fieldLink RX0 18 "WarmProbes$Board" "fed" "[I", Cond.fieldLink RX0 21 "WarmProbes$Board" "touches" "I", Cond.fieldLink RX0 25 "WarmProbes$Board" "touchPlaces" "[I", Cond.fieldLink RX0 28 "WarmProbes$Board" "touchOthers" "[I", Cond.fieldLink RX0 31 "WarmProbes$Board" "steps" "I", Cond.fieldLink RX0 34 "WarmProbes$Board" "warmth" "[F"]
def wsX5_feed_r2 : List Cond := [Cond.fieldLink RX0 41 "WarmProbes$Board" "readings" "I", Cond.fieldLink RX0 44 "WarmProbes$Board" "readingPlaces" "[I", Cond.fieldLink RX0 47 "WarmProbes$Board" "readingReads" "[I", Cond.fieldLink RX0 50 "WarmProbes$Board" "readingSteps" "[I", Cond.instanceMethod yX0_turnPair, Cond.selects RX0 yX0_turnPair yX0_turnPair, Cond.code yX0_turnPair cX0_turnPair 3 (some .int), Cond.static yX5_isNet, Cond.initialized RX5, Cond.code yX5_isNet cX5_isNet 1 (some .boolean), Cond.methodLink RX0 68 yX0_beginRun, Cond.instanceMethod yX0_beginRun, Cond.selects RX0 yX0_beginRun yX0_beginRun, Cond.code yX0_beginRun cX0_beginRun 2 none, Cond.methodLink RX0 96 yX0_isFed, Cond.instanceMethod yX0_isFed, Cond.selects RX0 yX0_isFed yX0_isFed, Cond.code yX0_isFed cX0_isFed 3 (some .boolean), Cond.instanceMethod yX3_kept, Cond.selects RX3 yX3_kept yX3_kept, Cond.code yX3_kept cX3_kept 4 (some .int)]
def wsX5_feed : List Cond := .code yX5_feed cX5_feed 3 (some .int) :: ((wsX5_feed_r1 ++ wsX5_feed_r2) ++ wsX50 ++ wsX30 ++ wsX00)
def wsX5_cool_r1 : List Cond := [Cond.fieldLink RX5 29 "WarmProbes" "past" "LWarmProbes$Past;", Cond.fieldLink RX5 10 "WarmProbes" "board" "LWarmProbes$Board;", Cond.instanceMethod yX3_prepare, Cond.initialized RX3, Cond.selects RX3 yX3_prepare yX3_prepare, Cond.code yX3_prepare cX3_prepare 2 none, Cond.fieldLink RX3 11 "WarmProbes$Past" "states" "[LWarmProbes$Board;", Cond.fieldLink RX3 17 "WarmProbes$Past" "size" "I", Cond.instanceMethod yX0_takeOver, Cond.initialized RX0, Cond.selects RX0 yX0_takeOver yX0_takeOver, Cond.code yX0_takeOver cX0_takeOver 2 none, Cond.fieldLink RX0 9 "WarmProbes$Board" "settings" "[I", Cond.methodLink RX0 56 arraycopyName, Cond.native arraycopyName, Cond.static arraycopyName, Cond.initialized "java/lang/System", Cond.fieldLink RX0 15 "WarmProbes$Board" "nets" "[I", Cond.fieldLink RX0 18 "WarmProbes$Board" "fed" "[I", Cond.fieldLink RX0 21 "WarmProbes$Board" "touches" "I", Cond.fieldLink RX0 25 "WarmProbes$Board" "touchPlaces" "[I", Cond.fieldLink RX0 28 "WarmProbes$Board" "touchOthers" "[I", Cond.fieldLink RX0 31 "WarmProbes$Board" "steps" "I", Cond.fieldLink RX0 34 "WarmProbes$Board" "warmth" "[F"]
def wsX5_cool_r2 : List Cond := [Cond.fieldLink RX0 41 "WarmProbes$Board" "readings" "I", Cond.fieldLink RX0 44 "WarmProbes$Board" "readingPlaces" "[I", Cond.fieldLink RX0 47 "WarmProbes$Board" "readingReads" "[I", Cond.fieldLink RX0 50 "WarmProbes$Board" "readingSteps" "[I", Cond.instanceMethod yX0_beginRun, Cond.selects RX0 yX0_beginRun yX0_beginRun, Cond.code yX0_beginRun cX0_beginRun 2 none, Cond.instanceMethod yX3_kept, Cond.selects RX3 yX3_kept yX3_kept, Cond.code yX3_kept cX3_kept 4 (some .int)]
def wsX5_cool : List Cond := .code yX5_cool cX5_cool 2 (some .int) :: ((wsX5_cool_r1 ++ wsX5_cool_r2) ++ wsX50 ++ wsX00 ++ wsX30)
def wsX5_warm_r1 : List Cond := [Cond.fieldLink RX5 29 "WarmProbes" "past" "LWarmProbes$Past;", Cond.fieldLink RX5 10 "WarmProbes" "board" "LWarmProbes$Board;", Cond.instanceMethod yX3_prepare, Cond.initialized RX3, Cond.selects RX3 yX3_prepare yX3_prepare, Cond.code yX3_prepare cX3_prepare 2 none, Cond.fieldLink RX3 11 "WarmProbes$Past" "states" "[LWarmProbes$Board;", Cond.fieldLink RX3 17 "WarmProbes$Past" "size" "I", Cond.instanceMethod yX0_takeOver, Cond.initialized RX0, Cond.selects RX0 yX0_takeOver yX0_takeOver, Cond.code yX0_takeOver cX0_takeOver 2 none, Cond.fieldLink RX0 9 "WarmProbes$Board" "settings" "[I", Cond.methodLink RX0 56 arraycopyName, Cond.native arraycopyName, Cond.static arraycopyName, Cond.initialized "java/lang/System", Cond.fieldLink RX0 15 "WarmProbes$Board" "nets" "[I", Cond.fieldLink RX0 18 "WarmProbes$Board" "fed" "[I", Cond.fieldLink RX0 21 "WarmProbes$Board" "touches" "I", Cond.fieldLink RX0 25 "WarmProbes$Board" "touchPlaces" "[I", Cond.fieldLink RX0 28 "WarmProbes$Board" "touchOthers" "[I", Cond.fieldLink RX0 31 "WarmProbes$Board" "steps" "I", Cond.fieldLink RX0 34 "WarmProbes$Board" "warmth" "[F"]
def wsX5_warm_r2 : List Cond := [Cond.fieldLink RX0 41 "WarmProbes$Board" "readings" "I", Cond.fieldLink RX0 44 "WarmProbes$Board" "readingPlaces" "[I", Cond.fieldLink RX0 47 "WarmProbes$Board" "readingReads" "[I", Cond.fieldLink RX0 50 "WarmProbes$Board" "readingSteps" "[I", Cond.instanceMethod yX0_letPass, Cond.selects RX0 yX0_letPass yX0_letPass, Cond.code yX0_letPass cX0_letPass 5 (some .int), Cond.methodLink RX0 99 yX0_heated, Cond.instanceMethod yX0_heated, Cond.selects RX0 yX0_heated yX0_heated, Cond.code yX0_heated cX0_heated 4 (some .long), Cond.methodLink RX0 115 yX0_isLive, Cond.instanceMethod yX0_isLive, Cond.selects RX0 yX0_isLive yX0_isLive, Cond.code yX0_isLive cX0_isLive 2 (some .boolean), Cond.methodLink RX0 96 yX0_isFed, Cond.instanceMethod yX0_isFed, Cond.selects RX0 yX0_isFed yX0_isFed, Cond.code yX0_isFed cX0_isFed 3 (some .boolean), Cond.methodLink RX0 103 yX0_passOne, Cond.instanceMethod yX0_passOne, Cond.selects RX0 yX0_passOne yX0_passOne, Cond.code yX0_passOne cX0_passOne 3 none, Cond.fieldLink RX0 38 "WarmProbes$Board" "nextWarmth" "[F"]
def wsX5_warm_r3 : List Cond := [Cond.static yX5_step, Cond.initialized RX5, Cond.code yX5_step cX5_step 15 none, Cond.constantFloat RX5 259 (1120403456), Cond.methodLink RX5 260 yX5_isIn, Cond.static yX5_isIn, Cond.code yX5_isIn cX5_isIn 3 (some .boolean), Cond.instanceMethod yX3_kept, Cond.selects RX3 yX3_kept yX3_kept, Cond.code yX3_kept cX3_kept 4 (some .int)]
def wsX5_warm : List Cond := .code yX5_warm cX5_warm 2 (some .int) :: ((wsX5_warm_r1 ++ (wsX5_warm_r2 ++ wsX5_warm_r3)) ++ wsX50 ++ wsX30 ++ wsX00)
def wsX5_probe_r1 : List Cond := [Cond.fieldLink RX5 29 "WarmProbes" "past" "LWarmProbes$Past;", Cond.fieldLink RX5 10 "WarmProbes" "board" "LWarmProbes$Board;", Cond.instanceMethod yX3_prepare, Cond.initialized RX3, Cond.selects RX3 yX3_prepare yX3_prepare, Cond.code yX3_prepare cX3_prepare 2 none, Cond.fieldLink RX3 11 "WarmProbes$Past" "states" "[LWarmProbes$Board;", Cond.fieldLink RX3 17 "WarmProbes$Past" "size" "I", Cond.instanceMethod yX0_takeOver, Cond.initialized RX0, Cond.selects RX0 yX0_takeOver yX0_takeOver, Cond.code yX0_takeOver cX0_takeOver 2 none, Cond.fieldLink RX0 9 "WarmProbes$Board" "settings" "[I", Cond.methodLink RX0 56 arraycopyName, Cond.native arraycopyName, Cond.static arraycopyName, Cond.initialized "java/lang/System", Cond.fieldLink RX0 15 "WarmProbes$Board" "nets" "[I", Cond.fieldLink RX0 18 "WarmProbes$Board" "fed" "[I", Cond.fieldLink RX0 21 "WarmProbes$Board" "touches" "I", Cond.fieldLink RX0 25 "WarmProbes$Board" "touchPlaces" "[I", Cond.fieldLink RX0 28 "WarmProbes$Board" "touchOthers" "[I", Cond.fieldLink RX0 31 "WarmProbes$Board" "steps" "I", Cond.fieldLink RX0 34 "WarmProbes$Board" "warmth" "[F"]
def wsX5_probe_r2 : List Cond := [Cond.fieldLink RX0 41 "WarmProbes$Board" "readings" "I", Cond.fieldLink RX0 44 "WarmProbes$Board" "readingPlaces" "[I", Cond.fieldLink RX0 47 "WarmProbes$Board" "readingReads" "[I", Cond.fieldLink RX0 50 "WarmProbes$Board" "readingSteps" "[I", Cond.instanceMethod yX0_measure, Cond.selects RX0 yX0_measure yX0_measure, Cond.code yX0_measure cX0_measure 5 (some .int), Cond.static yX5_placeOf, Cond.initialized RX5, Cond.code yX5_placeOf cX5_placeOf 2 (some .int), Cond.static yX5_readOf, Cond.code yX5_readOf cX5_readOf 1 (some .int), Cond.constantFloat RX5 258 (1092616192), Cond.instanceMethod yX3_kept, Cond.selects RX3 yX3_kept yX3_kept, Cond.code yX3_kept cX3_kept 4 (some .int)]
def wsX5_probe : List Cond := .code yX5_probe cX5_probe 3 (some .int) :: ((wsX5_probe_r1 ++ wsX5_probe_r2) ++ wsX50 ++ wsX30 ++ wsX00)
def wsX5_bitsOfFloat : List Cond := .code yX5_bitsOfFloat cX5_bitsOfFloat 4 (some .int) :: ([.constantFloat RX5 264 (1258291200), .constant RX5 265 (8388608)])
def wsX5_at_r1 : List Cond := [Cond.fieldLink RX5 10 "WarmProbes" "board" "LWarmProbes$Board;", Cond.fieldLink RX5 22 "WarmProbes" "suspicion" "LWarmProbes$Suspicion;", Cond.methodLink RX5 86 yX5_placeOf, Cond.static yX5_placeOf, Cond.initialized RX5, Cond.code yX5_placeOf cX5_placeOf 2 (some .int), Cond.methodLink RX5 97 yX5_bitsOfFloat, Cond.static yX5_bitsOfFloat, Cond.code yX5_bitsOfFloat cX5_bitsOfFloat 4 (some .int), Cond.constantFloat RX5 264 (1258291200), Cond.constant RX5 265 (8388608), Cond.methodLink RX5 101 yX5_readOf, Cond.static yX5_readOf, Cond.code yX5_readOf cX5_readOf 1 (some .int), Cond.constantFloat RX5 258 (1092616192), Cond.instanceMethod yX0_isSuspect, Cond.initialized RX0, Cond.selects RX0 yX0_isSuspect yX0_isSuspect, Cond.code yX0_isSuspect cX0_isSuspect 4 (some .boolean), Cond.fieldLink RX0 15 "WarmProbes$Board" "nets" "[I", Cond.static yX5_neighbourOf, Cond.code yX5_neighbourOf cX5_neighbourOf 2 (some .int), Cond.methodLink RX0 96 yX0_isFed, Cond.instanceMethod yX0_isFed]
def wsX5_at_r2 : List Cond := [Cond.selects RX0 yX0_isFed yX0_isFed, Cond.code yX0_isFed cX0_isFed 3 (some .boolean), Cond.fieldLink RX0 18 "WarmProbes$Board" "fed" "[I", Cond.instanceMethod yX4_couldBe, Cond.initialized RX4, Cond.selects RX4 yX4_couldBe yX4_couldBe, Cond.code yX4_couldBe cX4_couldBe 3 (some .boolean), Cond.methodLink RX4 28 yX4_fits, Cond.instanceMethod yX4_fits, Cond.selects RX4 yX4_fits yX4_fits, Cond.code yX4_fits cX4_fits 6 (some .boolean), Cond.fieldLink RX4 12 "WarmProbes$Suspicion" "lone" "LWarmProbes$Lone;", Cond.methodLink RX4 81 Lib.Math.abs.name, Cond.static Lib.Math.abs.name, Cond.initialized "java/lang/Math", Cond.code Lib.Math.abs.name Lib.Math.abs.code 1 (some .int), Cond.instanceMethod yX1_follow, Cond.initialized RX1, Cond.selects RX1 yX1_follow yX1_follow, Cond.code yX1_follow cX1_follow 3 none, Cond.fieldLink RX1 9 "WarmProbes$Lone" "settings" "[I", Cond.methodLink RX1 24 arraycopyName, Cond.native arraycopyName, Cond.static arraycopyName]
def wsX5_at_r3 : List Cond := [Cond.initialized "java/lang/System", Cond.fieldLink RX1 21 "WarmProbes$Lone" "steps" "[I", Cond.instanceMethod yX1_warmthBy, Cond.selects RX1 yX1_warmthBy yX1_warmthBy, Cond.code yX1_warmthBy cX1_warmthBy 6 (some .float), Cond.fieldLink RX1 17 "WarmProbes$Lone" "fields" "[[F", Cond.arrayClass .float, Cond.static yX5_step, Cond.code yX5_step cX5_step 15 none, Cond.constantFloat RX5 259 (1120403456), Cond.methodLink RX5 260 yX5_isIn, Cond.static yX5_isIn, Cond.code yX5_isIn cX5_isIn 3 (some .boolean), Cond.instanceMethod yX4_couldBeOneOfTwo, Cond.selects RX4 yX4_couldBeOneOfTwo yX4_couldBeOneOfTwo, Cond.code yX4_couldBeOneOfTwo cX4_couldBeOneOfTwo 4 (some .boolean), Cond.methodLink RX4 44 Lib.Math.min.name, Cond.static Lib.Math.min.name, Cond.code Lib.Math.min.name Lib.Math.min.code 2 (some .int), Cond.methodLink RX4 50 Lib.Math.max.name, Cond.static Lib.Math.max.name, Cond.code Lib.Math.max.name Lib.Math.max.code 2 (some .int), Cond.instanceMethod yX0_touchAt, Cond.selects RX0 yX0_touchAt yX0_touchAt]
def wsX5_at_r4 : List Cond := [Cond.code yX0_touchAt cX0_touchAt 3 (some .int), Cond.fieldLink RX0 21 "WarmProbes$Board" "touches" "I", Cond.fieldLink RX0 25 "WarmProbes$Board" "touchPlaces" "[I"]
def wsX5_at : List Cond := .code yX5_at cX5_at 5 (some .int) :: ((wsX5_at_r1 ++ (wsX5_at_r2 ++ (wsX5_at_r3 ++ wsX5_at_r4))) ++ wsX50 ++ wsX00 ++ wsX40 ++ wsX10)
def wsX5_columnsOf : List Cond := .code yX5_columnsOf cX5_columnsOf 3 (some .int) :: ([.constantLong RX5 256 (255)])
def wsX5_row_r1 : List Cond := [Cond.fieldLink RX5 10 "WarmProbes" "board" "LWarmProbes$Board;", Cond.fieldLink RX5 22 "WarmProbes" "suspicion" "LWarmProbes$Suspicion;", Cond.instanceMethod yX0_tracked, Cond.initialized RX0, Cond.selects RX0 yX0_tracked yX0_tracked, Cond.code yX0_tracked cX0_tracked 4 (some .long), Cond.fieldLink RX0 15 "WarmProbes$Board" "nets" "[I", Cond.methodLink RX5 122 yX5_columnsOf, Cond.static yX5_columnsOf, Cond.initialized RX5, Cond.code yX5_columnsOf cX5_columnsOf 3 (some .int), Cond.constantLong RX5 256 (255), Cond.instanceMethod yX0_suspects, Cond.selects RX0 yX0_suspects yX0_suspects, Cond.code yX0_suspects cX0_suspects 4 (some .long), Cond.methodLink RX0 118 yX0_isSuspect, Cond.instanceMethod yX0_isSuspect, Cond.selects RX0 yX0_isSuspect yX0_isSuspect, Cond.code yX0_isSuspect cX0_isSuspect 4 (some .boolean), Cond.static yX5_neighbourOf, Cond.code yX5_neighbourOf cX5_neighbourOf 2 (some .int), Cond.methodLink RX0 96 yX0_isFed, Cond.instanceMethod yX0_isFed, Cond.selects RX0 yX0_isFed yX0_isFed]
def wsX5_row_r2 : List Cond := [Cond.code yX0_isFed cX0_isFed 3 (some .boolean), Cond.fieldLink RX0 18 "WarmProbes$Board" "fed" "[I", Cond.instanceMethod yX4_fitting, Cond.initialized RX4, Cond.selects RX4 yX4_fitting yX4_fitting, Cond.code yX4_fitting cX4_fitting 5 (some .long), Cond.methodLink RX4 32 yX4_couldBe, Cond.instanceMethod yX4_couldBe, Cond.selects RX4 yX4_couldBe yX4_couldBe, Cond.code yX4_couldBe cX4_couldBe 3 (some .boolean), Cond.methodLink RX4 28 yX4_fits, Cond.instanceMethod yX4_fits, Cond.selects RX4 yX4_fits yX4_fits, Cond.code yX4_fits cX4_fits 6 (some .boolean), Cond.fieldLink RX4 12 "WarmProbes$Suspicion" "lone" "LWarmProbes$Lone;", Cond.methodLink RX4 81 Lib.Math.abs.name, Cond.static Lib.Math.abs.name, Cond.initialized "java/lang/Math", Cond.code Lib.Math.abs.name Lib.Math.abs.code 1 (some .int), Cond.instanceMethod yX1_follow, Cond.initialized RX1, Cond.selects RX1 yX1_follow yX1_follow, Cond.code yX1_follow cX1_follow 3 none, Cond.fieldLink RX1 9 "WarmProbes$Lone" "settings" "[I"]
def wsX5_row_r3 : List Cond := [Cond.methodLink RX1 24 arraycopyName, Cond.native arraycopyName, Cond.static arraycopyName, Cond.initialized "java/lang/System", Cond.fieldLink RX1 21 "WarmProbes$Lone" "steps" "[I", Cond.instanceMethod yX1_warmthBy, Cond.selects RX1 yX1_warmthBy yX1_warmthBy, Cond.code yX1_warmthBy cX1_warmthBy 6 (some .float), Cond.fieldLink RX1 17 "WarmProbes$Lone" "fields" "[[F", Cond.arrayClass .float, Cond.static yX5_step, Cond.code yX5_step cX5_step 15 none, Cond.constantFloat RX5 259 (1120403456), Cond.methodLink RX5 260 yX5_isIn, Cond.static yX5_isIn, Cond.code yX5_isIn cX5_isIn 3 (some .boolean), Cond.static yX5_readOf, Cond.code yX5_readOf cX5_readOf 1 (some .int), Cond.constantFloat RX5 258 (1092616192)]
def wsX5_row : List Cond := .code yX5_row cX5_row 3 (some .int) :: ((wsX5_row_r1 ++ (wsX5_row_r2 ++ wsX5_row_r3)) ++ wsX50 ++ wsX00 ++ wsX40 ++ wsX10)
def wsX5_ofTouch : List Cond := .code yX5_ofTouch cX5_ofTouch 3 (some .int) :: ([.fieldLink RX5 10 "WarmProbes" "board" "LWarmProbes$Board;", .instanceMethod yX0_isLive, .initialized RX0, .selects RX0 yX0_isLive yX0_isLive, .code yX0_isLive cX0_isLive 2 (some .boolean), .fieldLink RX0 15 "WarmProbes$Board" "nets" "[I", .fieldLink RX0 25 "WarmProbes$Board" "touchPlaces" "[I", .fieldLink RX0 28 "WarmProbes$Board" "touchOthers" "[I", .methodLink RX0 96 yX0_isFed, .instanceMethod yX0_isFed, .selects RX0 yX0_isFed yX0_isFed, .code yX0_isFed cX0_isFed 3 (some .boolean), .fieldLink RX0 18 "WarmProbes$Board" "fed" "[I"] ++ wsX50 ++ wsX00)
def wsX5_reading : List Cond := .code yX5_reading cX5_reading 3 (some .int) :: ([.fieldLink RX5 10 "WarmProbes" "board" "LWarmProbes$Board;"] ++ wsX50 ++ wsX00)
def wsX5_ofNet : List Cond := .code yX5_ofNet cX5_ofNet 3 (some .int) :: ([.fieldLink RX5 10 "WarmProbes" "board" "LWarmProbes$Board;", .methodLink RX5 157 yX5_isNet, .static yX5_isNet, .initialized RX5, .code yX5_isNet cX5_isNet 1 (some .boolean), .instanceMethod yX0_placesOf, .initialized RX0, .selects RX0 yX0_placesOf yX0_placesOf, .code yX0_placesOf cX0_placesOf 4 (some .int), .fieldLink RX0 15 "WarmProbes$Board" "nets" "[I", .instanceMethod yX0_warmthOf, .selects RX0 yX0_warmthOf yX0_warmthOf, .code yX0_warmthOf cX0_warmthOf 4 (some .float), .fieldLink RX0 34 "WarmProbes$Board" "warmth" "[F", .methodLink RX5 97 yX5_bitsOfFloat, .static yX5_bitsOfFloat, .code yX5_bitsOfFloat cX5_bitsOfFloat 4 (some .int), .constantFloat RX5 264 (1258291200), .constant RX5 265 (8388608)] ++ wsX50 ++ wsX00)
def wsJ13_bitCount_95d88 : List Cond := .code yJ13_bitCount_95d88 cJ13_bitCount_95d88 2 (some .int) :: ([.constantLong RJ13 314 (6148914691236517205), .constantLong RJ13 316 (3689348814741910323), .constantLong RJ13 318 (1085102592571150095)])
def wsX5_count_r1 : List Cond := [Cond.fieldLink RX5 10 "WarmProbes" "board" "LWarmProbes$Board;", Cond.fieldLink RX5 22 "WarmProbes" "suspicion" "LWarmProbes$Suspicion;", Cond.fieldLink RX5 36 "WarmProbes" "pad" "LWarmProbes$Pad;", Cond.fieldLink RX5 29 "WarmProbes" "past" "LWarmProbes$Past;", Cond.instanceMethod yX0_heated, Cond.initialized RX0, Cond.selects RX0 yX0_heated yX0_heated, Cond.code yX0_heated cX0_heated 4 (some .long), Cond.fieldLink RX0 21 "WarmProbes$Board" "touches" "I", Cond.fieldLink RX0 25 "WarmProbes$Board" "touchPlaces" "[I", Cond.methodLink RX0 115 yX0_isLive, Cond.instanceMethod yX0_isLive, Cond.selects RX0 yX0_isLive yX0_isLive, Cond.code yX0_isLive cX0_isLive 2 (some .boolean), Cond.fieldLink RX0 15 "WarmProbes$Board" "nets" "[I", Cond.fieldLink RX0 28 "WarmProbes$Board" "touchOthers" "[I", Cond.methodLink RX0 96 yX0_isFed, Cond.instanceMethod yX0_isFed, Cond.selects RX0 yX0_isFed yX0_isFed, Cond.code yX0_isFed cX0_isFed 3 (some .boolean), Cond.fieldLink RX0 18 "WarmProbes$Board" "fed" "[I", Cond.methodLink RX5 173 yJ13_bitCount_95d88, Cond.static yJ13_bitCount_95d88, Cond.initialized RJ13]
def wsX5_count_r2 : List Cond := [Cond.code yJ13_bitCount_95d88 cJ13_bitCount_95d88 2 (some .int), Cond.constantLong RJ13 314 (6148914691236517205), Cond.constantLong RJ13 316 (3689348814741910323), Cond.constantLong RJ13 318 (1085102592571150095), Cond.instanceMethod yX0_tracked, Cond.selects RX0 yX0_tracked yX0_tracked, Cond.code yX0_tracked cX0_tracked 4 (some .long), Cond.instanceMethod yX0_suspects, Cond.selects RX0 yX0_suspects yX0_suspects, Cond.code yX0_suspects cX0_suspects 4 (some .long), Cond.methodLink RX0 118 yX0_isSuspect, Cond.instanceMethod yX0_isSuspect, Cond.selects RX0 yX0_isSuspect yX0_isSuspect, Cond.code yX0_isSuspect cX0_isSuspect 4 (some .boolean), Cond.static yX5_neighbourOf, Cond.initialized RX5, Cond.code yX5_neighbourOf cX5_neighbourOf 2 (some .int), Cond.instanceMethod yX4_fitting, Cond.initialized RX4, Cond.selects RX4 yX4_fitting yX4_fitting, Cond.code yX4_fitting cX4_fitting 5 (some .long), Cond.methodLink RX4 32 yX4_couldBe, Cond.instanceMethod yX4_couldBe, Cond.selects RX4 yX4_couldBe yX4_couldBe]
def wsX5_count_r3 : List Cond := [Cond.code yX4_couldBe cX4_couldBe 3 (some .boolean), Cond.methodLink RX4 28 yX4_fits, Cond.instanceMethod yX4_fits, Cond.selects RX4 yX4_fits yX4_fits, Cond.code yX4_fits cX4_fits 6 (some .boolean), Cond.fieldLink RX4 12 "WarmProbes$Suspicion" "lone" "LWarmProbes$Lone;", Cond.methodLink RX4 81 Lib.Math.abs.name, Cond.static Lib.Math.abs.name, Cond.initialized "java/lang/Math", Cond.code Lib.Math.abs.name Lib.Math.abs.code 1 (some .int), Cond.instanceMethod yX1_follow, Cond.initialized RX1, Cond.selects RX1 yX1_follow yX1_follow, Cond.code yX1_follow cX1_follow 3 none, Cond.fieldLink RX1 9 "WarmProbes$Lone" "settings" "[I", Cond.methodLink RX1 24 arraycopyName, Cond.native arraycopyName, Cond.static arraycopyName, Cond.initialized "java/lang/System", Cond.fieldLink RX1 21 "WarmProbes$Lone" "steps" "[I", Cond.instanceMethod yX1_warmthBy, Cond.selects RX1 yX1_warmthBy yX1_warmthBy, Cond.code yX1_warmthBy cX1_warmthBy 6 (some .float), Cond.fieldLink RX1 17 "WarmProbes$Lone" "fields" "[[F"]
def wsX5_count_r4 : List Cond := [Cond.arrayClass .float, Cond.static yX5_step, Cond.code yX5_step cX5_step 15 none, Cond.constantFloat RX5 259 (1120403456), Cond.methodLink RX5 260 yX5_isIn, Cond.static yX5_isIn, Cond.code yX5_isIn cX5_isIn 3 (some .boolean), Cond.static yX5_readOf, Cond.code yX5_readOf cX5_readOf 1 (some .int), Cond.constantFloat RX5 258 (1092616192), Cond.instanceMethod yX4_pairs, Cond.selects RX4 yX4_pairs yX4_pairs, Cond.code yX4_pairs cX4_pairs 7 (some .int), Cond.instanceMethod yX0_warmest, Cond.selects RX0 yX0_warmest yX0_warmest, Cond.code yX0_warmest cX0_warmest 3 (some .int), Cond.fieldLink RX0 34 "WarmProbes$Board" "warmth" "[F"]
def wsX5_count : List Cond := .code yX5_count cX5_count 2 (some .int) :: ((wsX5_count_r1 ++ (wsX5_count_r2 ++ (wsX5_count_r3 ++ wsX5_count_r4))) ++ wsX50 ++ wsX00 ++ wsX20 ++ wsX30 ++ wsX40 ++ wsX10)
def wsX5_wouldRead_r1 : List Cond := [Cond.fieldLink RX5 10 "WarmProbes" "board" "LWarmProbes$Board;", Cond.fieldLink RX5 22 "WarmProbes" "suspicion" "LWarmProbes$Suspicion;", Cond.methodLink RX5 86 yX5_placeOf, Cond.static yX5_placeOf, Cond.initialized RX5, Cond.code yX5_placeOf cX5_placeOf 2 (some .int), Cond.instanceMethod yX0_isSuspect, Cond.initialized RX0, Cond.selects RX0 yX0_isSuspect yX0_isSuspect, Cond.code yX0_isSuspect cX0_isSuspect 4 (some .boolean), Cond.fieldLink RX0 15 "WarmProbes$Board" "nets" "[I", Cond.static yX5_neighbourOf, Cond.code yX5_neighbourOf cX5_neighbourOf 2 (some .int), Cond.methodLink RX0 96 yX0_isFed, Cond.instanceMethod yX0_isFed, Cond.selects RX0 yX0_isFed yX0_isFed, Cond.code yX0_isFed cX0_isFed 3 (some .boolean), Cond.fieldLink RX0 18 "WarmProbes$Board" "fed" "[I", Cond.instanceMethod yX4_readBy, Cond.initialized RX4, Cond.selects RX4 yX4_readBy yX4_readBy, Cond.code yX4_readBy cX4_readBy 4 (some .int), Cond.fieldLink RX4 12 "WarmProbes$Suspicion" "lone" "LWarmProbes$Lone;", Cond.instanceMethod yX1_follow]
def wsX5_wouldRead_r2 : List Cond := [Cond.initialized RX1, Cond.selects RX1 yX1_follow yX1_follow, Cond.code yX1_follow cX1_follow 3 none, Cond.fieldLink RX1 9 "WarmProbes$Lone" "settings" "[I", Cond.methodLink RX1 24 arraycopyName, Cond.native arraycopyName, Cond.static arraycopyName, Cond.initialized "java/lang/System", Cond.fieldLink RX1 21 "WarmProbes$Lone" "steps" "[I", Cond.instanceMethod yX1_warmthBy, Cond.selects RX1 yX1_warmthBy yX1_warmthBy, Cond.code yX1_warmthBy cX1_warmthBy 6 (some .float), Cond.fieldLink RX1 17 "WarmProbes$Lone" "fields" "[[F", Cond.arrayClass .float, Cond.static yX5_step, Cond.code yX5_step cX5_step 15 none, Cond.constantFloat RX5 259 (1120403456), Cond.methodLink RX5 260 yX5_isIn, Cond.static yX5_isIn, Cond.code yX5_isIn cX5_isIn 3 (some .boolean), Cond.static yX5_readOf, Cond.code yX5_readOf cX5_readOf 1 (some .int), Cond.constantFloat RX5 258 (1092616192)]
def wsX5_wouldRead : List Cond := .code yX5_wouldRead cX5_wouldRead 7 (some .int) :: ((wsX5_wouldRead_r1 ++ wsX5_wouldRead_r2) ++ wsX50 ++ wsX00 ++ wsX40 ++ wsX10)
def wsJ9_abs_0f7a4 : List Cond := .code yJ9_abs_0f7a4 cJ9_abs_0f7a4 1 (some .int) :: ([])
def wsJ9_max_7cf53 : List Cond := .code yJ9_max_7cf53 cJ9_max_7cf53 2 (some .int) :: ([])
def wsJ9_min_7cf53 : List Cond := .code yJ9_min_7cf53 cJ9_min_7cf53 2 (some .int) :: ([])
def wsL_cell : List Cond := .code yL_cell cL_cell 2 (some .int) :: ([.constant RL 7 (1033861975), .constant RL 8 (684254885)])
def wsL_low : List Cond := .code yL_low cL_low 2 (some .int) :: ([.constant RL 9 (2147483647)])
def wsL_net : List Cond := .code yL_net cL_net 3 (some .int) :: ([])
def wsL_beside : List Cond := .code yL_beside cL_beside 3 (some .int) :: ([.methodLink RL 10 yL_net, .static yL_net, .initialized RL, .code yL_net cL_net 3 (some .int)])
def wsL_near : List Cond := .code yL_near cL_near 4 (some .boolean) :: ([])
def wsL_fed : List Cond := .code yL_fed cL_fed 3 (some .boolean) :: ([])
def wsL_suspect : List Cond := .code yL_suspect cL_suspect 5 (some .boolean) :: ([.methodLink RL 16 yL_beside, .static yL_beside, .initialized RL, .code yL_beside cL_beside 3 (some .int), .methodLink RL 10 yL_net, .static yL_net, .code yL_net cL_net 3 (some .int), .methodLink RL 19 yL_fed, .static yL_fed, .code yL_fed cL_fed 3 (some .boolean)])
def wsL_touch : List Cond := .code yL_touch cL_touch 4 (some .int) :: ([])
def wsL_live : List Cond := .code yL_live cL_live 6 (some .int) :: ([.methodLink RL 19 yL_fed, .static yL_fed, .initialized RL, .code yL_fed cL_fed 3 (some .boolean)])
def wsL_same_r1 : List Cond := [Cond.arrayClass .int, Cond.methodLink RL 25 yL_live, Cond.static yL_live, Cond.initialized RL, Cond.code yL_live cL_live 6 (some .int), Cond.methodLink RL 19 yL_fed, Cond.static yL_fed, Cond.code yL_fed cL_fed 3 (some .boolean), Cond.methodLink RL 29 yL_suspect, Cond.static yL_suspect, Cond.code yL_suspect cL_suspect 5 (some .boolean), Cond.methodLink RL 16 yL_beside, Cond.static yL_beside, Cond.code yL_beside cL_beside 3 (some .int), Cond.methodLink RL 10 yL_net, Cond.static yL_net, Cond.code yL_net cL_net 3 (some .int), Cond.methodLink RL 33 yX5_at, Cond.instanceMethod yX5_at, Cond.selects RX5 yX5_at yX5_at, Cond.initialized RX5, Cond.code yX5_at cX5_at 5 (some .int), Cond.fieldLink RX5 10 "WarmProbes" "board" "LWarmProbes$Board;", Cond.fieldLink RX5 22 "WarmProbes" "suspicion" "LWarmProbes$Suspicion;"]
def wsL_same_r2 : List Cond := [Cond.methodLink RX5 86 yX5_placeOf, Cond.static yX5_placeOf, Cond.code yX5_placeOf cX5_placeOf 2 (some .int), Cond.methodLink RX5 97 yX5_bitsOfFloat, Cond.static yX5_bitsOfFloat, Cond.code yX5_bitsOfFloat cX5_bitsOfFloat 4 (some .int), Cond.constantFloat RX5 264 (1258291200), Cond.constant RX5 265 (8388608), Cond.methodLink RX5 101 yX5_readOf, Cond.static yX5_readOf, Cond.code yX5_readOf cX5_readOf 1 (some .int), Cond.constantFloat RX5 258 (1092616192), Cond.instanceMethod yX0_isSuspect, Cond.initialized RX0, Cond.selects RX0 yX0_isSuspect yX0_isSuspect, Cond.code yX0_isSuspect cX0_isSuspect 4 (some .boolean), Cond.fieldLink RX0 15 "WarmProbes$Board" "nets" "[I", Cond.static yX5_neighbourOf, Cond.code yX5_neighbourOf cX5_neighbourOf 2 (some .int), Cond.methodLink RX0 96 yX0_isFed, Cond.instanceMethod yX0_isFed, Cond.selects RX0 yX0_isFed yX0_isFed, Cond.code yX0_isFed cX0_isFed 3 (some .boolean), Cond.fieldLink RX0 18 "WarmProbes$Board" "fed" "[I"]
def wsL_same_r3 : List Cond := [Cond.instanceMethod yX4_couldBe, Cond.initialized RX4, Cond.selects RX4 yX4_couldBe yX4_couldBe, Cond.code yX4_couldBe cX4_couldBe 3 (some .boolean), Cond.methodLink RX4 28 yX4_fits, Cond.instanceMethod yX4_fits, Cond.selects RX4 yX4_fits yX4_fits, Cond.code yX4_fits cX4_fits 6 (some .boolean), Cond.fieldLink RX4 12 "WarmProbes$Suspicion" "lone" "LWarmProbes$Lone;", Cond.methodLink RX4 81 Lib.Math.abs.name, Cond.static Lib.Math.abs.name, Cond.initialized "java/lang/Math", Cond.code Lib.Math.abs.name Lib.Math.abs.code 1 (some .int), Cond.instanceMethod yX1_follow, Cond.initialized RX1, Cond.selects RX1 yX1_follow yX1_follow, Cond.code yX1_follow cX1_follow 3 none, Cond.fieldLink RX1 9 "WarmProbes$Lone" "settings" "[I", Cond.methodLink RX1 24 arraycopyName, Cond.native arraycopyName, Cond.static arraycopyName, Cond.initialized "java/lang/System", Cond.fieldLink RX1 21 "WarmProbes$Lone" "steps" "[I", Cond.instanceMethod yX1_warmthBy]
def wsL_same_r4 : List Cond := [Cond.selects RX1 yX1_warmthBy yX1_warmthBy, Cond.code yX1_warmthBy cX1_warmthBy 6 (some .float), Cond.fieldLink RX1 17 "WarmProbes$Lone" "fields" "[[F", Cond.arrayClass .float, Cond.static yX5_step, Cond.code yX5_step cX5_step 15 none, Cond.constantFloat RX5 259 (1120403456), Cond.methodLink RX5 260 yX5_isIn, Cond.static yX5_isIn, Cond.code yX5_isIn cX5_isIn 3 (some .boolean), Cond.instanceMethod yX4_couldBeOneOfTwo, Cond.selects RX4 yX4_couldBeOneOfTwo yX4_couldBeOneOfTwo, Cond.code yX4_couldBeOneOfTwo cX4_couldBeOneOfTwo 4 (some .boolean), Cond.methodLink RX4 44 Lib.Math.min.name, Cond.static Lib.Math.min.name, Cond.code Lib.Math.min.name Lib.Math.min.code 2 (some .int), Cond.methodLink RX4 50 Lib.Math.max.name, Cond.static Lib.Math.max.name, Cond.code Lib.Math.max.name Lib.Math.max.code 2 (some .int), Cond.instanceMethod yX0_touchAt, Cond.selects RX0 yX0_touchAt yX0_touchAt, Cond.code yX0_touchAt cX0_touchAt 3 (some .int), Cond.fieldLink RX0 21 "WarmProbes$Board" "touches" "I", Cond.fieldLink RX0 25 "WarmProbes$Board" "touchPlaces" "[I"]
def wsL_same_r5 : List Cond := [Cond.methodLink RL 37 yL_touch, Cond.static yL_touch, Cond.code yL_touch cL_touch 4 (some .int), Cond.methodLink RL 41 yX5_row, Cond.instanceMethod yX5_row, Cond.selects RX5 yX5_row yX5_row, Cond.code yX5_row cX5_row 3 (some .int), Cond.instanceMethod yX0_tracked, Cond.selects RX0 yX0_tracked yX0_tracked, Cond.code yX0_tracked cX0_tracked 4 (some .long), Cond.methodLink RX5 122 yX5_columnsOf, Cond.static yX5_columnsOf, Cond.code yX5_columnsOf cX5_columnsOf 3 (some .int), Cond.constantLong RX5 256 (255), Cond.instanceMethod yX0_suspects, Cond.selects RX0 yX0_suspects yX0_suspects, Cond.code yX0_suspects cX0_suspects 4 (some .long), Cond.methodLink RX0 118 yX0_isSuspect, Cond.instanceMethod yX4_fitting, Cond.selects RX4 yX4_fitting yX4_fitting, Cond.code yX4_fitting cX4_fitting 5 (some .long), Cond.methodLink RX4 32 yX4_couldBe, Cond.methodLink RL 45 yX5_ofTouch, Cond.instanceMethod yX5_ofTouch]
def wsL_same_r6 : List Cond := [Cond.selects RX5 yX5_ofTouch yX5_ofTouch, Cond.code yX5_ofTouch cX5_ofTouch 3 (some .int), Cond.instanceMethod yX0_isLive, Cond.selects RX0 yX0_isLive yX0_isLive, Cond.code yX0_isLive cX0_isLive 2 (some .boolean), Cond.fieldLink RX0 28 "WarmProbes$Board" "touchOthers" "[I", Cond.methodLink RL 48 yX5_reading, Cond.instanceMethod yX5_reading, Cond.selects RX5 yX5_reading yX5_reading, Cond.code yX5_reading cX5_reading 3 (some .int), Cond.methodLink RL 51 yX5_ofNet, Cond.instanceMethod yX5_ofNet, Cond.selects RX5 yX5_ofNet yX5_ofNet, Cond.code yX5_ofNet cX5_ofNet 3 (some .int), Cond.methodLink RX5 157 yX5_isNet, Cond.static yX5_isNet, Cond.code yX5_isNet cX5_isNet 1 (some .boolean), Cond.instanceMethod yX0_placesOf, Cond.selects RX0 yX0_placesOf yX0_placesOf, Cond.code yX0_placesOf cX0_placesOf 4 (some .int), Cond.instanceMethod yX0_warmthOf, Cond.selects RX0 yX0_warmthOf yX0_warmthOf, Cond.code yX0_warmthOf cX0_warmthOf 4 (some .float), Cond.fieldLink RX0 34 "WarmProbes$Board" "warmth" "[F"]
def wsL_same_r7 : List Cond := [Cond.methodLink RL 54 yX5_count, Cond.instanceMethod yX5_count, Cond.selects RX5 yX5_count yX5_count, Cond.code yX5_count cX5_count 2 (some .int), Cond.fieldLink RX5 36 "WarmProbes" "pad" "LWarmProbes$Pad;", Cond.fieldLink RX5 29 "WarmProbes" "past" "LWarmProbes$Past;", Cond.instanceMethod yX0_heated, Cond.selects RX0 yX0_heated yX0_heated, Cond.code yX0_heated cX0_heated 4 (some .long), Cond.methodLink RX0 115 yX0_isLive, Cond.methodLink RX5 173 yJ13_bitCount_95d88, Cond.static yJ13_bitCount_95d88, Cond.initialized RJ13, Cond.code yJ13_bitCount_95d88 cJ13_bitCount_95d88 2 (some .int), Cond.constantLong RJ13 314 (6148914691236517205), Cond.constantLong RJ13 316 (3689348814741910323), Cond.constantLong RJ13 318 (1085102592571150095), Cond.instanceMethod yX4_pairs, Cond.selects RX4 yX4_pairs yX4_pairs, Cond.code yX4_pairs cX4_pairs 7 (some .int), Cond.instanceMethod yX0_warmest, Cond.selects RX0 yX0_warmest yX0_warmest, Cond.code yX0_warmest cX0_warmest 3 (some .int)]
def wsL_same : List Cond := .code yL_same cL_same 24 (some .boolean) :: ((wsL_same_r1 ++ (wsL_same_r2 ++ (wsL_same_r3 ++ (wsL_same_r4 ++ (wsL_same_r5 ++ (wsL_same_r6 ++ wsL_same_r7)))))) ++ wsX50 ++ wsX00 ++ wsX40 ++ wsX10 ++ wsX20 ++ wsX30)
def wsL_law_r1 : List Cond := [Cond.classLink RL 23 RX5, Cond.instantiable RX5 7, Cond.initialized RX5, Cond.arrayClass .int, Cond.constantLong RL 59 (-1), Cond.methodLink RL 58 yX5_init, Cond.instanceMethod yX5_init, Cond.code yX5_init cX5_init 2 none, Cond.methodLink RX5 1 objectInit, Cond.instanceMethod objectInit, Cond.code objectInit ⟨#[0xb1]⟩ 1 none, Cond.classLink RX5 7 RX0, Cond.instantiable RX0 13, Cond.initialized RX0, Cond.fieldLink RX5 10 "WarmProbes" "board" "LWarmProbes$Board;", Cond.fieldLink RX5 16 "WarmProbes" "ahead" "LWarmProbes$Board;", Cond.classLink RX5 19 RX4, Cond.instantiable RX4 2, Cond.initialized RX4, Cond.fieldLink RX5 22 "WarmProbes" "suspicion" "LWarmProbes$Suspicion;", Cond.classLink RX5 26 RX3, Cond.instantiable RX3 2, Cond.initialized RX3, Cond.fieldLink RX5 29 "WarmProbes" "past" "LWarmProbes$Past;"]
def wsL_law_r2 : List Cond := [Cond.classLink RX5 33 RX2, Cond.instantiable RX2 2, Cond.initialized RX2, Cond.fieldLink RX5 36 "WarmProbes" "pad" "LWarmProbes$Pad;", Cond.fieldLink RX5 40 "WarmProbes" "slots" "[LWarmProbes$Board;", Cond.arrayClass .boolean, Cond.fieldLink RX5 44 "WarmProbes" "isSaved" "[Z", Cond.instanceMethod yX0_init, Cond.code yX0_init cX0_init 1 none, Cond.methodLink RX0 3 objectInit, Cond.fieldLink RX0 9 "WarmProbes$Board" "settings" "[I", Cond.fieldLink RX0 15 "WarmProbes$Board" "nets" "[I", Cond.fieldLink RX0 18 "WarmProbes$Board" "fed" "[I", Cond.fieldLink RX0 21 "WarmProbes$Board" "touches" "I", Cond.fieldLink RX0 25 "WarmProbes$Board" "touchPlaces" "[I", Cond.fieldLink RX0 28 "WarmProbes$Board" "touchOthers" "[I", Cond.fieldLink RX0 31 "WarmProbes$Board" "steps" "I", Cond.arrayClass .float, Cond.fieldLink RX0 34 "WarmProbes$Board" "warmth" "[F", Cond.fieldLink RX0 38 "WarmProbes$Board" "nextWarmth" "[F", Cond.fieldLink RX0 41 "WarmProbes$Board" "readings" "I", Cond.fieldLink RX0 44 "WarmProbes$Board" "readingPlaces" "[I", Cond.fieldLink RX0 47 "WarmProbes$Board" "readingReads" "[I", Cond.fieldLink RX0 50 "WarmProbes$Board" "readingSteps" "[I"]
def wsL_law_r3 : List Cond := [Cond.methodLink RX0 56 arraycopyName, Cond.native arraycopyName, Cond.static arraycopyName, Cond.initialized "java/lang/System", Cond.instanceMethod yX4_init, Cond.code yX4_init cX4_init 1 none, Cond.methodLink RX4 3 objectInit, Cond.classLink RX4 9 RX1, Cond.instantiable RX1 3, Cond.initialized RX1, Cond.fieldLink RX4 12 "WarmProbes$Suspicion" "lone" "LWarmProbes$Lone;", Cond.fieldLink RX4 18 "WarmProbes$Suspicion" "reads" "[I", Cond.instanceMethod yX1_init, Cond.code yX1_init cX1_init 1 none, Cond.methodLink RX1 3 objectInit, Cond.fieldLink RX1 9 "WarmProbes$Lone" "settings" "[I", Cond.classLink RX1 15 "[F", Cond.fieldLink RX1 17 "WarmProbes$Lone" "fields" "[[F", Cond.fieldLink RX1 21 "WarmProbes$Lone" "steps" "[I", Cond.instanceMethod yX3_init, Cond.code yX3_init cX3_init 2 none, Cond.methodLink RX3 3 objectInit, Cond.classLink RX3 9 RX0, Cond.fieldLink RX3 11 "WarmProbes$Past" "states" "[LWarmProbes$Board;"]
def wsL_law_r4 : List Cond := [Cond.fieldLink RX3 17 "WarmProbes$Past" "size" "I", Cond.instanceMethod yX2_init, Cond.code yX2_init cX2_init 1 none, Cond.methodLink RX2 3 objectInit, Cond.fieldLink RX2 9 "WarmProbes$Pad" "codes" "[I", Cond.fieldLink RX2 15 "WarmProbes$Pad" "length" "I", Cond.methodLink RL 61 yL_cell, Cond.static yL_cell, Cond.initialized RL, Cond.code yL_cell cL_cell 2 (some .int), Cond.constant RL 7 (1033861975), Cond.constant RL 8 (684254885), Cond.methodLink RL 65 yL_low, Cond.static yL_low, Cond.code yL_low cL_low 2 (some .int), Cond.constant RL 9 (2147483647), Cond.methodLink RL 37 yL_touch, Cond.static yL_touch, Cond.code yL_touch cL_touch 4 (some .int), Cond.methodLink RL 68 yL_near, Cond.static yL_near, Cond.code yL_near cL_near 4 (some .boolean), Cond.methodLink RL 72 yX5_track, Cond.instanceMethod yX5_track]
def wsL_law_r5 : List Cond := [Cond.selects RX5 yX5_track yX5_track, Cond.code yX5_track cX5_track 4 (some .int), Cond.instanceMethod yX3_prepare, Cond.selects RX3 yX3_prepare yX3_prepare, Cond.code yX3_prepare cX3_prepare 2 none, Cond.instanceMethod yX0_takeOver, Cond.selects RX0 yX0_takeOver yX0_takeOver, Cond.code yX0_takeOver cX0_takeOver 2 none, Cond.instanceMethod yX0_lay, Cond.selects RX0 yX0_lay yX0_lay, Cond.code yX0_lay cX0_lay 6 (some .int), Cond.static yX5_placeOf, Cond.code yX5_placeOf cX5_placeOf 2 (some .int), Cond.static yX5_isNet, Cond.code yX5_isNet cX5_isNet 1 (some .boolean), Cond.methodLink RX0 79 yX0_isNeededByTouch, Cond.instanceMethod yX0_isNeededByTouch, Cond.selects RX0 yX0_isNeededByTouch yX0_isNeededByTouch, Cond.code yX0_isNeededByTouch cX0_isNeededByTouch 3 (some .boolean), Cond.static yX5_areNeighbours, Cond.code yX5_areNeighbours cX5_areNeighbours 3 (some .boolean), Cond.methodLink RX5 253 yX5_neighbourOf, Cond.static yX5_neighbourOf, Cond.code yX5_neighbourOf cX5_neighbourOf 2 (some .int)]
def wsL_law_r6 : List Cond := [Cond.methodLink RX0 68 yX0_beginRun, Cond.instanceMethod yX0_beginRun, Cond.selects RX0 yX0_beginRun yX0_beginRun, Cond.code yX0_beginRun cX0_beginRun 2 none, Cond.instanceMethod yX3_kept, Cond.selects RX3 yX3_kept yX3_kept, Cond.code yX3_kept cX3_kept 4 (some .int), Cond.methodLink RL 75 yX5_feed, Cond.instanceMethod yX5_feed, Cond.selects RX5 yX5_feed yX5_feed, Cond.code yX5_feed cX5_feed 3 (some .int), Cond.instanceMethod yX0_turnPair, Cond.selects RX0 yX0_turnPair yX0_turnPair, Cond.code yX0_turnPair cX0_turnPair 3 (some .int), Cond.methodLink RX0 96 yX0_isFed, Cond.instanceMethod yX0_isFed, Cond.selects RX0 yX0_isFed yX0_isFed, Cond.code yX0_isFed cX0_isFed 3 (some .boolean), Cond.methodLink RL 19 yL_fed, Cond.static yL_fed, Cond.code yL_fed cL_fed 3 (some .boolean), Cond.methodLink RL 16 yL_beside, Cond.static yL_beside, Cond.code yL_beside cL_beside 3 (some .int)]
def wsL_law_r7 : List Cond := [Cond.methodLink RL 10 yL_net, Cond.static yL_net, Cond.code yL_net cL_net 3 (some .int), Cond.methodLink RL 78 yX5_touch, Cond.instanceMethod yX5_touch, Cond.selects RX5 yX5_touch yX5_touch, Cond.code yX5_touch cX5_touch 4 (some .int), Cond.instanceMethod yX0_join, Cond.selects RX0 yX0_join yX0_join, Cond.code yX0_join cX0_join 5 (some .int), Cond.methodLink RX0 86 yX0_touchAt, Cond.instanceMethod yX0_touchAt, Cond.selects RX0 yX0_touchAt yX0_touchAt, Cond.code yX0_touchAt cX0_touchAt 3 (some .int), Cond.methodLink RX0 90 yX0_hasNeighbourOf, Cond.instanceMethod yX0_hasNeighbourOf, Cond.selects RX0 yX0_hasNeighbourOf yX0_hasNeighbourOf, Cond.code yX0_hasNeighbourOf cX0_hasNeighbourOf 5 (some .boolean), Cond.methodLink RL 80 yX5_mend, Cond.instanceMethod yX5_mend, Cond.selects RX5 yX5_mend yX5_mend, Cond.code yX5_mend cX5_mend 2 (some .int), Cond.instanceMethod yX0_part, Cond.selects RX0 yX0_part yX0_part]
def wsL_law_r8 : List Cond := [Cond.code yX0_part cX0_part 3 (some .int), Cond.methodLink RL 83 yX5_warm, Cond.instanceMethod yX5_warm, Cond.selects RX5 yX5_warm yX5_warm, Cond.code yX5_warm cX5_warm 2 (some .int), Cond.instanceMethod yX0_letPass, Cond.selects RX0 yX0_letPass yX0_letPass, Cond.code yX0_letPass cX0_letPass 5 (some .int), Cond.methodLink RX0 99 yX0_heated, Cond.instanceMethod yX0_heated, Cond.selects RX0 yX0_heated yX0_heated, Cond.code yX0_heated cX0_heated 4 (some .long), Cond.methodLink RX0 115 yX0_isLive, Cond.instanceMethod yX0_isLive, Cond.selects RX0 yX0_isLive yX0_isLive, Cond.code yX0_isLive cX0_isLive 2 (some .boolean), Cond.methodLink RX0 103 yX0_passOne, Cond.instanceMethod yX0_passOne, Cond.selects RX0 yX0_passOne yX0_passOne, Cond.code yX0_passOne cX0_passOne 3 none, Cond.static yX5_step, Cond.code yX5_step cX5_step 15 none, Cond.constantFloat RX5 259 (1120403456), Cond.methodLink RX5 260 yX5_isIn]
def wsL_law_r9 : List Cond := [Cond.static yX5_isIn, Cond.code yX5_isIn cX5_isIn 3 (some .boolean), Cond.methodLink RL 33 yX5_at, Cond.instanceMethod yX5_at, Cond.selects RX5 yX5_at yX5_at, Cond.code yX5_at cX5_at 5 (some .int), Cond.methodLink RX5 86 yX5_placeOf, Cond.methodLink RX5 97 yX5_bitsOfFloat, Cond.static yX5_bitsOfFloat, Cond.code yX5_bitsOfFloat cX5_bitsOfFloat 4 (some .int), Cond.constantFloat RX5 264 (1258291200), Cond.constant RX5 265 (8388608), Cond.methodLink RX5 101 yX5_readOf, Cond.static yX5_readOf, Cond.code yX5_readOf cX5_readOf 1 (some .int), Cond.constantFloat RX5 258 (1092616192), Cond.instanceMethod yX0_isSuspect, Cond.selects RX0 yX0_isSuspect yX0_isSuspect, Cond.code yX0_isSuspect cX0_isSuspect 4 (some .boolean), Cond.instanceMethod yX4_couldBe, Cond.selects RX4 yX4_couldBe yX4_couldBe, Cond.code yX4_couldBe cX4_couldBe 3 (some .boolean), Cond.methodLink RX4 28 yX4_fits, Cond.instanceMethod yX4_fits]
def wsL_law_r10 : List Cond := [Cond.selects RX4 yX4_fits yX4_fits, Cond.code yX4_fits cX4_fits 6 (some .boolean), Cond.methodLink RX4 81 Lib.Math.abs.name, Cond.static Lib.Math.abs.name, Cond.initialized "java/lang/Math", Cond.code Lib.Math.abs.name Lib.Math.abs.code 1 (some .int), Cond.instanceMethod yX1_follow, Cond.selects RX1 yX1_follow yX1_follow, Cond.code yX1_follow cX1_follow 3 none, Cond.methodLink RX1 24 arraycopyName, Cond.instanceMethod yX1_warmthBy, Cond.selects RX1 yX1_warmthBy yX1_warmthBy, Cond.code yX1_warmthBy cX1_warmthBy 6 (some .float), Cond.instanceMethod yX4_couldBeOneOfTwo, Cond.selects RX4 yX4_couldBeOneOfTwo yX4_couldBeOneOfTwo, Cond.code yX4_couldBeOneOfTwo cX4_couldBeOneOfTwo 4 (some .boolean), Cond.methodLink RX4 44 Lib.Math.min.name, Cond.static Lib.Math.min.name, Cond.code Lib.Math.min.name Lib.Math.min.code 2 (some .int), Cond.methodLink RX4 50 Lib.Math.max.name, Cond.static Lib.Math.max.name, Cond.code Lib.Math.max.name Lib.Math.max.code 2 (some .int), Cond.methodLink RL 86 yX5_probe, Cond.instanceMethod yX5_probe]
def wsL_law_r11 : List Cond := [Cond.selects RX5 yX5_probe yX5_probe, Cond.code yX5_probe cX5_probe 3 (some .int), Cond.instanceMethod yX0_measure, Cond.selects RX0 yX0_measure yX0_measure, Cond.code yX0_measure cX0_measure 5 (some .int), Cond.methodLink RL 29 yL_suspect, Cond.static yL_suspect, Cond.code yL_suspect cL_suspect 5 (some .boolean), Cond.methodLink RL 89 yX5_wouldRead, Cond.instanceMethod yX5_wouldRead, Cond.selects RX5 yX5_wouldRead yX5_wouldRead, Cond.code yX5_wouldRead cX5_wouldRead 7 (some .int), Cond.instanceMethod yX4_readBy, Cond.selects RX4 yX4_readBy yX4_readBy, Cond.code yX4_readBy cX4_readBy 4 (some .int), Cond.methodLink RL 25 yL_live, Cond.static yL_live, Cond.code yL_live cL_live 6 (some .int), Cond.methodLink RL 93 yX5_set, Cond.instanceMethod yX5_set, Cond.selects RX5 yX5_set yX5_set, Cond.code yX5_set cX5_set 3 (some .int), Cond.instanceMethod yX0_change, Cond.selects RX0 yX0_change yX0_change]
def wsL_law_r12 : List Cond := [Cond.code yX0_change cX0_change 4 (some .int), Cond.methodLink RL 96 yX5_cool, Cond.instanceMethod yX5_cool, Cond.selects RX5 yX5_cool yX5_cool, Cond.code yX5_cool cX5_cool 2 (some .int), Cond.methodLink RL 100 yL_same, Cond.static yL_same, Cond.code yL_same cL_same 24 (some .boolean), Cond.methodLink RL 41 yX5_row, Cond.instanceMethod yX5_row, Cond.selects RX5 yX5_row yX5_row, Cond.code yX5_row cX5_row 3 (some .int), Cond.instanceMethod yX0_tracked, Cond.selects RX0 yX0_tracked yX0_tracked, Cond.code yX0_tracked cX0_tracked 4 (some .long), Cond.methodLink RX5 122 yX5_columnsOf, Cond.static yX5_columnsOf, Cond.code yX5_columnsOf cX5_columnsOf 3 (some .int), Cond.constantLong RX5 256 (255), Cond.instanceMethod yX0_suspects, Cond.selects RX0 yX0_suspects yX0_suspects, Cond.code yX0_suspects cX0_suspects 4 (some .long), Cond.methodLink RX0 118 yX0_isSuspect, Cond.instanceMethod yX4_fitting]
def wsL_law_r13 : List Cond := [Cond.selects RX4 yX4_fitting yX4_fitting, Cond.code yX4_fitting cX4_fitting 5 (some .long), Cond.methodLink RX4 32 yX4_couldBe, Cond.methodLink RL 45 yX5_ofTouch, Cond.instanceMethod yX5_ofTouch, Cond.selects RX5 yX5_ofTouch yX5_ofTouch, Cond.code yX5_ofTouch cX5_ofTouch 3 (some .int), Cond.methodLink RL 48 yX5_reading, Cond.instanceMethod yX5_reading, Cond.selects RX5 yX5_reading yX5_reading, Cond.code yX5_reading cX5_reading 3 (some .int), Cond.methodLink RL 51 yX5_ofNet, Cond.instanceMethod yX5_ofNet, Cond.selects RX5 yX5_ofNet yX5_ofNet, Cond.code yX5_ofNet cX5_ofNet 3 (some .int), Cond.methodLink RX5 157 yX5_isNet, Cond.instanceMethod yX0_placesOf, Cond.selects RX0 yX0_placesOf yX0_placesOf, Cond.code yX0_placesOf cX0_placesOf 4 (some .int), Cond.instanceMethod yX0_warmthOf, Cond.selects RX0 yX0_warmthOf yX0_warmthOf, Cond.code yX0_warmthOf cX0_warmthOf 4 (some .float), Cond.methodLink RL 54 yX5_count, Cond.instanceMethod yX5_count]
def wsL_law_r14 : List Cond := [Cond.selects RX5 yX5_count yX5_count, Cond.code yX5_count cX5_count 2 (some .int), Cond.methodLink RX5 173 yJ13_bitCount_95d88, Cond.static yJ13_bitCount_95d88, Cond.initialized RJ13, Cond.code yJ13_bitCount_95d88 cJ13_bitCount_95d88 2 (some .int), Cond.constantLong RJ13 314 (6148914691236517205), Cond.constantLong RJ13 316 (3689348814741910323), Cond.constantLong RJ13 318 (1085102592571150095), Cond.instanceMethod yX4_pairs, Cond.selects RX4 yX4_pairs yX4_pairs, Cond.code yX4_pairs cX4_pairs 7 (some .int), Cond.instanceMethod yX0_warmest, Cond.selects RX0 yX0_warmest yX0_warmest, Cond.code yX0_warmest cX0_warmest 3 (some .int)]
def wsL_law : List Cond := (wsL_law_r1 ++ (wsL_law_r2 ++ (wsL_law_r3 ++ (wsL_law_r4 ++ (wsL_law_r5 ++ (wsL_law_r6 ++ (wsL_law_r7 ++ (wsL_law_r8 ++ (wsL_law_r9 ++ (wsL_law_r10 ++ (wsL_law_r11 ++ (wsL_law_r12 ++ (wsL_law_r13 ++ wsL_law_r14))))))))))))) ++ wsX50 ++ wsX00 ++ wsX40 ++ wsX30 ++ wsX20 ++ wsX10 ++ ([] : List Cond)
/-- words by their places -/
theorem wx_pl {ws big : List Cond} (ps : List Nat) (hp : ws = ps.filterMap (fun i => big[i]?)) : ∀ w ∈ ws, w ∈ big := by
  intro w hw
  rw [hp] at hw
  obtain ⟨i, -, hi⟩ := List.mem_filterMap.mp hw
  exact List.mem_of_getElem? hi
theorem wx_am {a b : List Cond} {big : List Cond} (ha : ∀ w ∈ a, w ∈ big) (hb : ∀ w ∈ b, w ∈ big) : ∀ w ∈ a ++ b, w ∈ big := fun w h => (List.mem_append.mp h).elim (ha w) (hb w)
set_option maxRecDepth 20000 in
theorem wsL_law_in_1 : ∀ w ∈ wsL_law_r1, w ∈ lw_tbl := wx_pl [42, 43, 33, 119, 494, 44, 45, 46, 47, 48, 49, 50, 51, 34, 183, 184, 121, 122, 36, 185, 152, 153, 38, 186] (by decide +kernel)
set_option maxRecDepth 20000 in
theorem wsL_law_in_2 : ∀ w ∈ wsL_law_r2, w ∈ lw_tbl := wx_pl [169, 170, 39, 187, 188, 205, 189, 53, 54, 55, 61, 64, 66, 68, 70, 72, 74, 120, 77, 79, 80, 83, 86, 89] (by decide +kernel)
set_option maxRecDepth 20000 in
theorem wsL_law_in_3 : ∀ w ∈ wsL_law_r3, w ∈ lw_tbl := wx_pl [58, 60, 59, 35, 124, 125, 126, 127, 128, 37, 145, 146, 130, 131, 132, 135, 133, 136, 137, 155, 156, 157, 158, 161] (by decide +kernel)
set_option maxRecDepth 20000 in
theorem wsL_law_in_4 : ∀ w ∈ wsL_law_r4, w ∈ lw_tbl := wx_pl [162, 172, 173, 174, 175, 176, 396, 397, 32, 398, 399, 400, 401, 402, 403, 404, 420, 421, 422, 411, 412, 413, 234, 235] (by decide +kernel)
set_option maxRecDepth 20000 in
theorem wsL_law_in_5 : ∀ w ∈ wsL_law_r5, w ∈ lw_tbl := wx_pl [236, 237, 212, 0, 213, 216, 1, 217, 240, 5, 241, 243, 244, 246, 247, 248, 250, 6, 251, 253, 254, 255, 256, 257] (by decide +kernel)
set_option maxRecDepth 20000 in
theorem wsL_law_in_6 : ∀ w ∈ wsL_law_r6, w ∈ lw_tbl := wx_pl [226, 228, 3, 229, 232, 4, 233, 283, 284, 285, 286, 289, 11, 290, 291, 293, 12, 294, 414, 415, 416, 405, 406, 407] (by decide +kernel)
set_option maxRecDepth 20000 in
theorem wsL_law_in_7 : ∀ w ∈ wsL_law_r7, w ∈ lw_tbl := wx_pl [408, 409, 410, 258, 259, 260, 261, 264, 7, 265, 266, 268, 8, 269, 270, 272, 9, 273, 275, 276, 277, 278, 281, 10] (by decide +kernel)
set_option maxRecDepth 20000 in
theorem wsL_law_in_8 : ∀ w ∈ wsL_law_r8, w ∈ lw_tbl := wx_pl [282, 300, 301, 302, 303, 306, 13, 307, 308, 310, 14, 311, 312, 314, 15, 315, 316, 318, 16, 319, 321, 322, 323, 324] (by decide +kernel)
set_option maxRecDepth 20000 in
theorem wsL_law_in_9 : ∀ w ∈ wsL_law_r9, w ∈ lw_tbl := wx_pl [325, 326, 339, 340, 341, 342, 343, 344, 345, 346, 347, 348, 349, 336, 337, 338, 352, 18, 353, 356, 19, 357, 359, 361] (by decide +kernel)
set_option maxRecDepth 20000 in
theorem wsL_law_in_10 : ∀ w ∈ wsL_law_r10, w ∈ lw_tbl := wx_pl [20, 362, 374, 375, 40, 376, 365, 21, 366, 367, 370, 22, 371, 379, 23, 380, 381, 382, 383, 384, 385, 386, 327, 328] (by decide +kernel)
set_option maxRecDepth 20000 in
theorem wsL_law_in_11 : ∀ w ∈ wsL_law_r11, w ∈ lw_tbl := wx_pl [329, 330, 333, 17, 334, 417, 418, 419, 388, 389, 390, 391, 394, 24, 395, 423, 424, 425, 206, 207, 208, 209, 220, 2] (by decide +kernel)
theorem wsL_same_tbl : Cond.code yL_same cL_same 24 (some .boolean) ∈ lw_tbl := List.mem_of_getElem? (i := 428) rfl
set_option maxRecDepth 20000 in
theorem wsL_law_in_12a : ∀ w ∈ ([Cond.code yX0_change cX0_change 4 (some .int), Cond.methodLink RL 96 yX5_cool, Cond.instanceMethod yX5_cool, Cond.selects RX5 yX5_cool yX5_cool, Cond.code yX5_cool cX5_cool 2 (some .int), Cond.methodLink RL 100 yL_same, Cond.static yL_same] : List Cond), w ∈ lw_tbl := wx_pl [221, 295, 296, 297, 298, 426, 427] (by decide +kernel)
set_option maxRecDepth 20000 in
theorem wsL_law_in_12b : ∀ w ∈ ([Cond.methodLink RL 41 yX5_row, Cond.instanceMethod yX5_row, Cond.selects RX5 yX5_row yX5_row, Cond.code yX5_row cX5_row 3 (some .int), Cond.instanceMethod yX0_tracked, Cond.selects RX0 yX0_tracked yX0_tracked, Cond.code yX0_tracked cX0_tracked 4 (some .long), Cond.methodLink RX5 122 yX5_columnsOf, Cond.static yX5_columnsOf, Cond.code yX5_columnsOf cX5_columnsOf 3 (some .int), Cond.constantLong RX5 256 (255), Cond.instanceMethod yX0_suspects, Cond.selects RX0 yX0_suspects yX0_suspects, Cond.code yX0_suspects cX0_suspects 4 (some .long), Cond.methodLink RX0 118 yX0_isSuspect, Cond.instanceMethod yX4_fitting] : List Cond), w ∈ lw_tbl := wx_pl [429, 430, 431, 432, 435, 25, 436, 437, 438, 439, 440, 443, 26, 444, 445, 448] (by decide +kernel)
theorem wsL_law_in_12 : ∀ w ∈ wsL_law_r12, w ∈ lw_tbl := wx_am (a := [Cond.code yX0_change cX0_change 4 (some .int), Cond.methodLink RL 96 yX5_cool, Cond.instanceMethod yX5_cool, Cond.selects RX5 yX5_cool yX5_cool, Cond.code yX5_cool cX5_cool 2 (some .int), Cond.methodLink RL 100 yL_same, Cond.static yL_same]) wsL_law_in_12a (wx_am (a := [Cond.code yL_same cL_same 24 (some .boolean)]) (fun w hw => by rw [List.mem_singleton] at hw; rw [hw]; exact wsL_same_tbl) wsL_law_in_12b)
set_option maxRecDepth 20000 in
theorem wsL_law_in_13 : ∀ w ∈ wsL_law_r13, w ∈ lw_tbl := wx_pl [27, 449, 450, 451, 452, 453, 454, 456, 457, 458, 459, 460, 461, 462, 463, 464, 467, 28, 468, 471, 29, 472, 473, 474] (by decide +kernel)
set_option maxRecDepth 20000 in
theorem wsL_law_in_14 : ∀ w ∈ wsL_law_r14, w ∈ lw_tbl := wx_pl [475, 476, 478, 479, 41, 480, 481, 482, 483, 486, 30, 487, 492, 31, 493] (by decide +kernel)
set_option maxRecDepth 20000 in
theorem wsL_law_in_c0 : ∀ w ∈ wsX00, w ∈ lw_tbl := wx_pl [92, 94, 96, 98, 100, 102, 104, 106, 108, 110, 112, 114, 116] (by decide +kernel)
set_option maxRecDepth 20000 in
theorem wsL_law_in_c1 : ∀ w ∈ wsX10, w ∈ lw_tbl := wx_pl [138, 140, 142] (by decide +kernel)
set_option maxRecDepth 20000 in
theorem wsL_law_in_c2 : ∀ w ∈ wsX20, w ∈ lw_tbl := wx_pl [178, 180] (by decide +kernel)
set_option maxRecDepth 20000 in
theorem wsL_law_in_c3 : ∀ w ∈ wsX30, w ∈ lw_tbl := wx_pl [164, 166] (by decide +kernel)
set_option maxRecDepth 20000 in
theorem wsL_law_in_c4 : ∀ w ∈ wsX40, w ∈ lw_tbl := wx_pl [147, 149] (by decide +kernel)
set_option maxRecDepth 20000 in
theorem wsL_law_in_c5 : ∀ w ∈ wsX50, w ∈ lw_tbl := wx_pl [190, 192, 194, 196, 198, 200, 202] (by decide +kernel)
theorem wsL_law_in : ∀ w ∈ wsL_law, w ∈ lw_tbl := by
  unfold wsL_law
  exact wx_am (wx_am (wx_am (wx_am (wx_am (wx_am (wx_am (wx_am wsL_law_in_1 (wx_am wsL_law_in_2 (wx_am wsL_law_in_3 (wx_am wsL_law_in_4 (wx_am wsL_law_in_5 (wx_am wsL_law_in_6 (wx_am wsL_law_in_7 (wx_am wsL_law_in_8 (wx_am wsL_law_in_9 (wx_am wsL_law_in_10 (wx_am wsL_law_in_11 (wx_am wsL_law_in_12 (wx_am wsL_law_in_13 wsL_law_in_14))))))))))))) wsL_law_in_c5) wsL_law_in_c0) wsL_law_in_c4) wsL_law_in_c3) wsL_law_in_c2) wsL_law_in_c1) (fun _ h => absurd h List.not_mem_nil)
theorem inlX0 : ∀ w ∈ wsX00, w ∈ wsL_law := fun _ h => List.mem_append_left _ (List.mem_append_left _ (List.mem_append_left _ (List.mem_append_left _ (List.mem_append_left _ (List.mem_append_right _ h)))))
theorem inX0 : ∀ w ∈ wsX00, w ∈ lw_tbl := fun w h => wsL_law_in w (inlX0 w h)
theorem inlX1 : ∀ w ∈ wsX10, w ∈ wsL_law := fun _ h => List.mem_append_left _ (List.mem_append_right _ h)
theorem inX1 : ∀ w ∈ wsX10, w ∈ lw_tbl := fun w h => wsL_law_in w (inlX1 w h)
theorem inlX2 : ∀ w ∈ wsX20, w ∈ wsL_law := fun _ h => List.mem_append_left _ (List.mem_append_left _ (List.mem_append_right _ h))
theorem inX2 : ∀ w ∈ wsX20, w ∈ lw_tbl := fun w h => wsL_law_in w (inlX2 w h)
theorem inlX3 : ∀ w ∈ wsX30, w ∈ wsL_law := fun _ h => List.mem_append_left _ (List.mem_append_left _ (List.mem_append_left _ (List.mem_append_right _ h)))
theorem inX3 : ∀ w ∈ wsX30, w ∈ lw_tbl := fun w h => wsL_law_in w (inlX3 w h)
theorem inlX4 : ∀ w ∈ wsX40, w ∈ wsL_law := fun _ h => List.mem_append_left _ (List.mem_append_left _ (List.mem_append_left _ (List.mem_append_left _ (List.mem_append_right _ h))))
theorem inX4 : ∀ w ∈ wsX40, w ∈ lw_tbl := fun w h => wsL_law_in w (inlX4 w h)
theorem inlX5 : ∀ w ∈ wsX50, w ∈ wsL_law := fun _ h => List.mem_append_left _ (List.mem_append_left _ (List.mem_append_left _ (List.mem_append_left _ (List.mem_append_left _ (List.mem_append_left _ (List.mem_append_right _ h))))))
theorem inX5 : ∀ w ∈ wsX50, w ∈ lw_tbl := fun w h => wsL_law_in w (inlX5 w h)
theorem inX6 : ∀ w ∈ wsX60, w ∈ lw_tbl := by decide +kernel
theorem inJ13 : ∀ w ∈ wsJ130, w ∈ lw_tbl := by decide +kernel
theorem inJ9 : ∀ w ∈ wsJ90, w ∈ lw_tbl := by decide +kernel
theorem inJ10 : ∀ w ∈ wsJ100, w ∈ lw_tbl := by decide +kernel
theorem dX0_init_0 : decode cX0_init 0 = .ok (.aload_n 0, 1) := by decide +kernel
theorem dX0_init_1 : decode cX0_init 1 = .ok (.invokespecial 3, 3) := by decide +kernel
theorem dX0_init_4 : decode cX0_init 4 = .ok (.aload_n 0, 1) := by decide +kernel
theorem dX0_init_5 : decode cX0_init 5 = .ok (.iconst 4, 1) := by decide +kernel
theorem dX0_init_6 : decode cX0_init 6 = .ok (.newarray .int, 2) := by decide +kernel
theorem dX0_init_8 : decode cX0_init 8 = .ok (.putfield 9, 3) := by decide +kernel
theorem dX0_init_11 : decode cX0_init 11 = .ok (.aload_n 0, 1) := by decide +kernel
theorem dX0_init_12 : decode cX0_init 12 = .ok (.bipush 64, 2) := by decide +kernel
theorem dX0_init_14 : decode cX0_init 14 = .ok (.newarray .int, 2) := by decide +kernel
theorem dX0_init_16 : decode cX0_init 16 = .ok (.putfield 15, 3) := by decide +kernel
theorem dX0_init_19 : decode cX0_init 19 = .ok (.aload_n 0, 1) := by decide +kernel
theorem dX0_init_20 : decode cX0_init 20 = .ok (.bipush 8, 2) := by decide +kernel
theorem dX0_init_22 : decode cX0_init 22 = .ok (.newarray .int, 2) := by decide +kernel
theorem dX0_init_24 : decode cX0_init 24 = .ok (.putfield 18, 3) := by decide +kernel
theorem dX0_init_27 : decode cX0_init 27 = .ok (.aload_n 0, 1) := by decide +kernel
theorem dX0_init_28 : decode cX0_init 28 = .ok (.iconst 0, 1) := by decide +kernel
theorem dX0_init_29 : decode cX0_init 29 = .ok (.putfield 21, 3) := by decide +kernel
theorem dX0_init_32 : decode cX0_init 32 = .ok (.aload_n 0, 1) := by decide +kernel
theorem dX0_init_33 : decode cX0_init 33 = .ok (.iconst 3, 1) := by decide +kernel
theorem dX0_init_34 : decode cX0_init 34 = .ok (.newarray .int, 2) := by decide +kernel
theorem dX0_init_36 : decode cX0_init 36 = .ok (.putfield 25, 3) := by decide +kernel
theorem dX0_init_39 : decode cX0_init 39 = .ok (.aload_n 0, 1) := by decide +kernel
theorem dX0_init_40 : decode cX0_init 40 = .ok (.iconst 3, 1) := by decide +kernel
theorem dX0_init_41 : decode cX0_init 41 = .ok (.newarray .int, 2) := by decide +kernel
theorem dX0_init_43 : decode cX0_init 43 = .ok (.putfield 28, 3) := by decide +kernel
theorem dX0_init_46 : decode cX0_init 46 = .ok (.aload_n 0, 1) := by decide +kernel
theorem dX0_init_47 : decode cX0_init 47 = .ok (.iconst 0, 1) := by decide +kernel
theorem dX0_init_48 : decode cX0_init 48 = .ok (.putfield 31, 3) := by decide +kernel
theorem dX0_init_51 : decode cX0_init 51 = .ok (.aload_n 0, 1) := by decide +kernel
theorem dX0_init_52 : decode cX0_init 52 = .ok (.bipush 64, 2) := by decide +kernel
theorem dX0_init_54 : decode cX0_init 54 = .ok (.newarray .float, 2) := by decide +kernel
theorem dX0_init_56 : decode cX0_init 56 = .ok (.putfield 34, 3) := by decide +kernel
theorem dX0_init_59 : decode cX0_init 59 = .ok (.aload_n 0, 1) := by decide +kernel
theorem dX0_init_60 : decode cX0_init 60 = .ok (.bipush 64, 2) := by decide +kernel
theorem dX0_init_62 : decode cX0_init 62 = .ok (.newarray .float, 2) := by decide +kernel
theorem dX0_init_64 : decode cX0_init 64 = .ok (.putfield 38, 3) := by decide +kernel
theorem dX0_init_67 : decode cX0_init 67 = .ok (.aload_n 0, 1) := by decide +kernel
theorem dX0_init_68 : decode cX0_init 68 = .ok (.iconst 0, 1) := by decide +kernel
theorem dX0_init_69 : decode cX0_init 69 = .ok (.putfield 41, 3) := by decide +kernel
theorem dX0_init_72 : decode cX0_init 72 = .ok (.aload_n 0, 1) := by decide +kernel
theorem dX0_init_73 : decode cX0_init 73 = .ok (.bipush 8, 2) := by decide +kernel
theorem dX0_init_75 : decode cX0_init 75 = .ok (.newarray .int, 2) := by decide +kernel
theorem dX0_init_77 : decode cX0_init 77 = .ok (.putfield 44, 3) := by decide +kernel
theorem dX0_init_80 : decode cX0_init 80 = .ok (.aload_n 0, 1) := by decide +kernel
theorem dX0_init_81 : decode cX0_init 81 = .ok (.bipush 8, 2) := by decide +kernel
theorem dX0_init_83 : decode cX0_init 83 = .ok (.newarray .int, 2) := by decide +kernel
theorem dX0_init_85 : decode cX0_init 85 = .ok (.putfield 47, 3) := by decide +kernel
theorem dX0_init_88 : decode cX0_init 88 = .ok (.aload_n 0, 1) := by decide +kernel
theorem dX0_init_89 : decode cX0_init 89 = .ok (.bipush 8, 2) := by decide +kernel
theorem dX0_init_91 : decode cX0_init 91 = .ok (.newarray .int, 2) := by decide +kernel
theorem dX0_init_93 : decode cX0_init 93 = .ok (.putfield 50, 3) := by decide +kernel
theorem dX0_init_96 : decode cX0_init 96 = .ok (.getstatic 53, 3) := by decide +kernel
theorem dX0_init_99 : decode cX0_init 99 = .ok (.iconst 0, 1) := by decide +kernel
theorem dX0_init_100 : decode cX0_init 100 = .ok (.aload_n 0, 1) := by decide +kernel
theorem dX0_init_101 : decode cX0_init 101 = .ok (.getfield 9, 3) := by decide +kernel
theorem dX0_init_104 : decode cX0_init 104 = .ok (.iconst 0, 1) := by decide +kernel
theorem dX0_init_105 : decode cX0_init 105 = .ok (.iconst 4, 1) := by decide +kernel
theorem dX0_init_106 : decode cX0_init 106 = .ok (.invokestatic 56, 3) := by decide +kernel
theorem dX0_init_109 : decode cX0_init 109 = .ok (.return_, 1) := by decide +kernel
theorem dX0_takeOver_0 : decode cX0_takeOver 0 = .ok (.aload_n 1, 1) := by decide +kernel
theorem dX0_takeOver_1 : decode cX0_takeOver 1 = .ok (.getfield 9, 3) := by decide +kernel
theorem dX0_takeOver_4 : decode cX0_takeOver 4 = .ok (.iconst 0, 1) := by decide +kernel
theorem dX0_takeOver_5 : decode cX0_takeOver 5 = .ok (.aload_n 0, 1) := by decide +kernel
theorem dX0_takeOver_6 : decode cX0_takeOver 6 = .ok (.getfield 9, 3) := by decide +kernel
theorem dX0_takeOver_9 : decode cX0_takeOver 9 = .ok (.iconst 0, 1) := by decide +kernel
theorem dX0_takeOver_10 : decode cX0_takeOver 10 = .ok (.iconst 4, 1) := by decide +kernel
theorem dX0_takeOver_11 : decode cX0_takeOver 11 = .ok (.invokestatic 56, 3) := by decide +kernel
theorem dX0_takeOver_14 : decode cX0_takeOver 14 = .ok (.aload_n 1, 1) := by decide +kernel
theorem dX0_takeOver_15 : decode cX0_takeOver 15 = .ok (.getfield 15, 3) := by decide +kernel
theorem dX0_takeOver_18 : decode cX0_takeOver 18 = .ok (.iconst 0, 1) := by decide +kernel
theorem dX0_takeOver_19 : decode cX0_takeOver 19 = .ok (.aload_n 0, 1) := by decide +kernel
theorem dX0_takeOver_20 : decode cX0_takeOver 20 = .ok (.getfield 15, 3) := by decide +kernel
theorem dX0_takeOver_23 : decode cX0_takeOver 23 = .ok (.iconst 0, 1) := by decide +kernel
theorem dX0_takeOver_24 : decode cX0_takeOver 24 = .ok (.bipush 64, 2) := by decide +kernel
theorem dX0_takeOver_26 : decode cX0_takeOver 26 = .ok (.invokestatic 56, 3) := by decide +kernel
theorem dX0_takeOver_29 : decode cX0_takeOver 29 = .ok (.aload_n 1, 1) := by decide +kernel
theorem dX0_takeOver_30 : decode cX0_takeOver 30 = .ok (.getfield 18, 3) := by decide +kernel
theorem dX0_takeOver_33 : decode cX0_takeOver 33 = .ok (.iconst 0, 1) := by decide +kernel
theorem dX0_takeOver_34 : decode cX0_takeOver 34 = .ok (.aload_n 0, 1) := by decide +kernel
theorem dX0_takeOver_35 : decode cX0_takeOver 35 = .ok (.getfield 18, 3) := by decide +kernel
theorem dX0_takeOver_38 : decode cX0_takeOver 38 = .ok (.iconst 0, 1) := by decide +kernel
theorem dX0_takeOver_39 : decode cX0_takeOver 39 = .ok (.bipush 8, 2) := by decide +kernel
theorem dX0_takeOver_41 : decode cX0_takeOver 41 = .ok (.invokestatic 56, 3) := by decide +kernel
theorem dX0_takeOver_44 : decode cX0_takeOver 44 = .ok (.aload_n 0, 1) := by decide +kernel
theorem dX0_takeOver_45 : decode cX0_takeOver 45 = .ok (.aload_n 1, 1) := by decide +kernel
theorem dX0_takeOver_46 : decode cX0_takeOver 46 = .ok (.getfield 21, 3) := by decide +kernel
theorem dX0_takeOver_49 : decode cX0_takeOver 49 = .ok (.putfield 21, 3) := by decide +kernel
theorem dX0_takeOver_52 : decode cX0_takeOver 52 = .ok (.aload_n 1, 1) := by decide +kernel
theorem dX0_takeOver_53 : decode cX0_takeOver 53 = .ok (.getfield 25, 3) := by decide +kernel
theorem dX0_takeOver_56 : decode cX0_takeOver 56 = .ok (.iconst 0, 1) := by decide +kernel
theorem dX0_takeOver_57 : decode cX0_takeOver 57 = .ok (.aload_n 0, 1) := by decide +kernel
theorem dX0_takeOver_58 : decode cX0_takeOver 58 = .ok (.getfield 25, 3) := by decide +kernel
theorem dX0_takeOver_61 : decode cX0_takeOver 61 = .ok (.iconst 0, 1) := by decide +kernel
theorem dX0_takeOver_62 : decode cX0_takeOver 62 = .ok (.iconst 3, 1) := by decide +kernel
theorem dX0_takeOver_63 : decode cX0_takeOver 63 = .ok (.invokestatic 56, 3) := by decide +kernel
theorem dX0_takeOver_66 : decode cX0_takeOver 66 = .ok (.aload_n 1, 1) := by decide +kernel
theorem dX0_takeOver_67 : decode cX0_takeOver 67 = .ok (.getfield 28, 3) := by decide +kernel
theorem dX0_takeOver_70 : decode cX0_takeOver 70 = .ok (.iconst 0, 1) := by decide +kernel
theorem dX0_takeOver_71 : decode cX0_takeOver 71 = .ok (.aload_n 0, 1) := by decide +kernel
theorem dX0_takeOver_72 : decode cX0_takeOver 72 = .ok (.getfield 28, 3) := by decide +kernel
theorem dX0_takeOver_75 : decode cX0_takeOver 75 = .ok (.iconst 0, 1) := by decide +kernel
theorem dX0_takeOver_76 : decode cX0_takeOver 76 = .ok (.iconst 3, 1) := by decide +kernel
theorem dX0_takeOver_77 : decode cX0_takeOver 77 = .ok (.invokestatic 56, 3) := by decide +kernel
theorem dX0_takeOver_80 : decode cX0_takeOver 80 = .ok (.aload_n 0, 1) := by decide +kernel
theorem dX0_takeOver_81 : decode cX0_takeOver 81 = .ok (.aload_n 1, 1) := by decide +kernel
theorem dX0_takeOver_82 : decode cX0_takeOver 82 = .ok (.getfield 31, 3) := by decide +kernel
theorem dX0_takeOver_85 : decode cX0_takeOver 85 = .ok (.putfield 31, 3) := by decide +kernel
theorem dX0_takeOver_88 : decode cX0_takeOver 88 = .ok (.aload_n 1, 1) := by decide +kernel
theorem dX0_takeOver_89 : decode cX0_takeOver 89 = .ok (.getfield 34, 3) := by decide +kernel
theorem dX0_takeOver_92 : decode cX0_takeOver 92 = .ok (.iconst 0, 1) := by decide +kernel
theorem dX0_takeOver_93 : decode cX0_takeOver 93 = .ok (.aload_n 0, 1) := by decide +kernel
theorem dX0_takeOver_94 : decode cX0_takeOver 94 = .ok (.getfield 34, 3) := by decide +kernel
theorem dX0_takeOver_97 : decode cX0_takeOver 97 = .ok (.iconst 0, 1) := by decide +kernel
theorem dX0_takeOver_98 : decode cX0_takeOver 98 = .ok (.bipush 64, 2) := by decide +kernel
theorem dX0_takeOver_100 : decode cX0_takeOver 100 = .ok (.invokestatic 56, 3) := by decide +kernel
theorem dX0_takeOver_103 : decode cX0_takeOver 103 = .ok (.aload_n 0, 1) := by decide +kernel
theorem dX0_takeOver_104 : decode cX0_takeOver 104 = .ok (.aload_n 1, 1) := by decide +kernel
theorem dX0_takeOver_105 : decode cX0_takeOver 105 = .ok (.getfield 41, 3) := by decide +kernel
theorem dX0_takeOver_108 : decode cX0_takeOver 108 = .ok (.putfield 41, 3) := by decide +kernel
theorem dX0_takeOver_111 : decode cX0_takeOver 111 = .ok (.aload_n 1, 1) := by decide +kernel
theorem dX0_takeOver_112 : decode cX0_takeOver 112 = .ok (.getfield 44, 3) := by decide +kernel
theorem dX0_takeOver_115 : decode cX0_takeOver 115 = .ok (.iconst 0, 1) := by decide +kernel
theorem dX0_takeOver_116 : decode cX0_takeOver 116 = .ok (.aload_n 0, 1) := by decide +kernel
theorem dX0_takeOver_117 : decode cX0_takeOver 117 = .ok (.getfield 44, 3) := by decide +kernel
theorem dX0_takeOver_120 : decode cX0_takeOver 120 = .ok (.iconst 0, 1) := by decide +kernel
theorem dX0_takeOver_121 : decode cX0_takeOver 121 = .ok (.bipush 8, 2) := by decide +kernel
theorem dX0_takeOver_123 : decode cX0_takeOver 123 = .ok (.invokestatic 56, 3) := by decide +kernel
theorem dX0_takeOver_126 : decode cX0_takeOver 126 = .ok (.aload_n 1, 1) := by decide +kernel
theorem dX0_takeOver_127 : decode cX0_takeOver 127 = .ok (.getfield 47, 3) := by decide +kernel
theorem dX0_takeOver_130 : decode cX0_takeOver 130 = .ok (.iconst 0, 1) := by decide +kernel
theorem dX0_takeOver_131 : decode cX0_takeOver 131 = .ok (.aload_n 0, 1) := by decide +kernel
theorem dX0_takeOver_132 : decode cX0_takeOver 132 = .ok (.getfield 47, 3) := by decide +kernel
theorem dX0_takeOver_135 : decode cX0_takeOver 135 = .ok (.iconst 0, 1) := by decide +kernel
theorem dX0_takeOver_136 : decode cX0_takeOver 136 = .ok (.bipush 8, 2) := by decide +kernel
theorem dX0_takeOver_138 : decode cX0_takeOver 138 = .ok (.invokestatic 56, 3) := by decide +kernel
theorem dX0_takeOver_141 : decode cX0_takeOver 141 = .ok (.aload_n 1, 1) := by decide +kernel
theorem dX0_takeOver_142 : decode cX0_takeOver 142 = .ok (.getfield 50, 3) := by decide +kernel
theorem dX0_takeOver_145 : decode cX0_takeOver 145 = .ok (.iconst 0, 1) := by decide +kernel
theorem dX0_takeOver_146 : decode cX0_takeOver 146 = .ok (.aload_n 0, 1) := by decide +kernel
theorem dX0_takeOver_147 : decode cX0_takeOver 147 = .ok (.getfield 50, 3) := by decide +kernel
theorem dX0_takeOver_150 : decode cX0_takeOver 150 = .ok (.iconst 0, 1) := by decide +kernel
theorem dX0_takeOver_151 : decode cX0_takeOver 151 = .ok (.bipush 8, 2) := by decide +kernel
theorem dX0_takeOver_153 : decode cX0_takeOver 153 = .ok (.invokestatic 56, 3) := by decide +kernel
theorem dX0_takeOver_156 : decode cX0_takeOver 156 = .ok (.return_, 1) := by decide +kernel
theorem dX0_beginRun_0 : decode cX0_beginRun 0 = .ok (.aload_n 0, 1) := by decide +kernel
theorem dX0_beginRun_1 : decode cX0_beginRun 1 = .ok (.iconst 0, 1) := by decide +kernel
theorem dX0_beginRun_2 : decode cX0_beginRun 2 = .ok (.putfield 31, 3) := by decide +kernel
theorem dX0_beginRun_5 : decode cX0_beginRun 5 = .ok (.aload_n 0, 1) := by decide +kernel
theorem dX0_beginRun_6 : decode cX0_beginRun 6 = .ok (.iconst 0, 1) := by decide +kernel
theorem dX0_beginRun_7 : decode cX0_beginRun 7 = .ok (.putfield 41, 3) := by decide +kernel
theorem dX0_beginRun_10 : decode cX0_beginRun 10 = .ok (.iconst 0, 1) := by decide +kernel
theorem dX0_beginRun_11 : decode cX0_beginRun 11 = .ok (.istore_n 1, 1) := by decide +kernel
theorem dX0_beginRun_12 : decode cX0_beginRun 12 = .ok (.iload_n 1, 1) := by decide +kernel
theorem dX0_beginRun_13 : decode cX0_beginRun 13 = .ok (.bipush 64, 2) := by decide +kernel
theorem dX0_beginRun_15 : decode cX0_beginRun 15 = .ok (.if_icmp .ge 16, 3) := by decide +kernel
theorem dX0_beginRun_18 : decode cX0_beginRun 18 = .ok (.aload_n 0, 1) := by decide +kernel
theorem dX0_beginRun_19 : decode cX0_beginRun 19 = .ok (.getfield 34, 3) := by decide +kernel
theorem dX0_beginRun_22 : decode cX0_beginRun 22 = .ok (.iload_n 1, 1) := by decide +kernel
theorem dX0_beginRun_23 : decode cX0_beginRun 23 = .ok (.fconst 0, 1) := by decide +kernel
theorem dX0_beginRun_24 : decode cX0_beginRun 24 = .ok (.fastore, 1) := by decide +kernel
theorem dX0_beginRun_25 : decode cX0_beginRun 25 = .ok (.iinc 1 1, 3) := by decide +kernel
theorem dX0_beginRun_28 : decode cX0_beginRun 28 = .ok (.goto (-16), 3) := by decide +kernel
theorem dX0_beginRun_31 : decode cX0_beginRun 31 = .ok (.return_, 1) := by decide +kernel
set_option maxRecDepth 20000 in
theorem ggX0_change_X0_beginRun : GoodIn wsX0_change wsX0_beginRun := goodIn_r _ [6, 7, 8, 9, 10, 11, 12, 13, 14, 15, 16, 17, 18, 19, 20, 21, 22] (by decide +kernel) (by decide +kernel)
set_option maxRecDepth 20000 in
theorem gX0_change_X0_beginRun : GoodIn wsX0_change (wsV RX0 68 RX0 yX0_beginRun wsX0_beginRun) := goodIn_app (goodIn_of _ (by decide +kernel)) ggX0_change_X0_beginRun
theorem dX0_change_0 : decode cX0_change 0 = .ok (.iload_n 1, 1) := by decide +kernel
theorem dX0_change_1 : decode cX0_change 1 = .ok (.ifCond .lt 8, 3) := by decide +kernel
theorem dX0_change_4 : decode cX0_change 4 = .ok (.iload_n 1, 1) := by decide +kernel
theorem dX0_change_5 : decode cX0_change 5 = .ok (.iconst 4, 1) := by decide +kernel
theorem dX0_change_6 : decode cX0_change 6 = .ok (.if_icmp .lt 6, 3) := by decide +kernel
theorem dX0_change_9 : decode cX0_change 9 = .ok (.bipush (-2), 2) := by decide +kernel
theorem dX0_change_11 : decode cX0_change 11 = .ok (.ireturn, 1) := by decide +kernel
theorem dX0_change_12 : decode cX0_change 12 = .ok (.iload_n 2, 1) := by decide +kernel
theorem dX0_change_13 : decode cX0_change 13 = .ok (.getstatic 62, 3) := by decide +kernel
theorem dX0_change_16 : decode cX0_change 16 = .ok (.iload_n 1, 1) := by decide +kernel
theorem dX0_change_17 : decode cX0_change 17 = .ok (.iaload, 1) := by decide +kernel
theorem dX0_change_18 : decode cX0_change 18 = .ok (.if_icmp .lt 12, 3) := by decide +kernel
theorem dX0_change_21 : decode cX0_change 21 = .ok (.iload_n 2, 1) := by decide +kernel
theorem dX0_change_22 : decode cX0_change 22 = .ok (.getstatic 65, 3) := by decide +kernel
theorem dX0_change_25 : decode cX0_change 25 = .ok (.iload_n 1, 1) := by decide +kernel
theorem dX0_change_26 : decode cX0_change 26 = .ok (.iaload, 1) := by decide +kernel
theorem dX0_change_27 : decode cX0_change 27 = .ok (.if_icmp .le 6, 3) := by decide +kernel
theorem dX0_change_30 : decode cX0_change 30 = .ok (.bipush (-2), 2) := by decide +kernel
theorem dX0_change_32 : decode cX0_change 32 = .ok (.ireturn, 1) := by decide +kernel
theorem dX0_change_33 : decode cX0_change 33 = .ok (.aload_n 0, 1) := by decide +kernel
theorem dX0_change_34 : decode cX0_change 34 = .ok (.getfield 9, 3) := by decide +kernel
theorem dX0_change_37 : decode cX0_change 37 = .ok (.iload_n 1, 1) := by decide +kernel
theorem dX0_change_38 : decode cX0_change 38 = .ok (.iaload, 1) := by decide +kernel
theorem dX0_change_39 : decode cX0_change 39 = .ok (.istore_n 3, 1) := by decide +kernel
theorem dX0_change_40 : decode cX0_change 40 = .ok (.aload_n 0, 1) := by decide +kernel
theorem dX0_change_41 : decode cX0_change 41 = .ok (.getfield 9, 3) := by decide +kernel
theorem dX0_change_44 : decode cX0_change 44 = .ok (.iload_n 1, 1) := by decide +kernel
theorem dX0_change_45 : decode cX0_change 45 = .ok (.iload_n 2, 1) := by decide +kernel
theorem dX0_change_46 : decode cX0_change 46 = .ok (.iastore, 1) := by decide +kernel
theorem dX0_change_47 : decode cX0_change 47 = .ok (.iload_n 1, 1) := by decide +kernel
theorem dX0_change_48 : decode cX0_change 48 = .ok (.iconst 3, 1) := by decide +kernel
theorem dX0_change_49 : decode cX0_change 49 = .ok (.if_icmp .eq 7, 3) := by decide +kernel
theorem dX0_change_52 : decode cX0_change 52 = .ok (.aload_n 0, 1) := by decide +kernel
theorem dX0_change_53 : decode cX0_change 53 = .ok (.invokevirtual 68, 3) := by decide +kernel
theorem dX0_change_56 : decode cX0_change 56 = .ok (.iload_n 3, 1) := by decide +kernel
theorem dX0_change_57 : decode cX0_change 57 = .ok (.ireturn, 1) := by decide +kernel
set_option maxRecDepth 20000 in
theorem ggX0_lay_X5_placeOf : GoodIn wsX0_lay wsX5_placeOf := goodIn_r _ [4] (by decide +kernel) (by decide +kernel)
set_option maxRecDepth 20000 in
theorem gX0_lay_X5_placeOf_n71 : GoodIn wsX0_lay (wsX5_placeOf) := ggX0_lay_X5_placeOf
set_option maxRecDepth 20000 in
theorem ggX0_lay_X5_isNet : GoodIn wsX0_lay wsX5_isNet := goodIn_r _ [6] (by decide +kernel) (by decide +kernel)
set_option maxRecDepth 20000 in
theorem gX0_lay_X5_isNet_n75 : GoodIn wsX0_lay (wsX5_isNet) := ggX0_lay_X5_isNet
set_option maxRecDepth 20000 in
theorem ggX0_lay_X0_isNeededByTouch : GoodIn wsX0_lay wsX0_isNeededByTouch := goodIn_r _ [11, 12, 13, 14, 1, 15, 3, 16, 17, 18, 19, 27, 28, 29, 30, 31, 32, 33, 34, 35, 36, 37, 38, 39] (by decide +kernel) (by decide +kernel)
set_option maxRecDepth 20000 in
theorem gX0_lay_X0_isNeededByTouch : GoodIn wsX0_lay (wsV RX0 79 RX0 yX0_isNeededByTouch wsX0_isNeededByTouch) := goodIn_app (goodIn_of _ (by decide +kernel)) ggX0_lay_X0_isNeededByTouch
set_option maxRecDepth 20000 in
theorem ggX0_lay_X0_beginRun : GoodIn wsX0_lay wsX0_beginRun := goodIn_r _ [23, 24, 25, 26, 27, 28, 29, 30, 31, 32, 33, 34, 35, 36, 37, 38, 39] (by decide +kernel) (by decide +kernel)
set_option maxRecDepth 20000 in
theorem gX0_lay_X0_beginRun : GoodIn wsX0_lay (wsV RX0 68 RX0 yX0_beginRun wsX0_beginRun) := goodIn_app (goodIn_of _ (by decide +kernel)) ggX0_lay_X0_beginRun
theorem dX0_lay_0 : decode cX0_lay 0 = .ok (.iload_n 1, 1) := by decide +kernel
theorem dX0_lay_1 : decode cX0_lay 1 = .ok (.iload_n 2, 1) := by decide +kernel
theorem dX0_lay_2 : decode cX0_lay 2 = .ok (.invokestatic 71, 3) := by decide +kernel
theorem dX0_lay_5 : decode cX0_lay 5 = .ok (.istore 4, 2) := by decide +kernel
theorem dX0_lay_7 : decode cX0_lay 7 = .ok (.iload 4, 2) := by decide +kernel
theorem dX0_lay_9 : decode cX0_lay 9 = .ok (.ifCond .ge 5, 3) := by decide +kernel
theorem dX0_lay_12 : decode cX0_lay 12 = .ok (.iconst (-1), 1) := by decide +kernel
theorem dX0_lay_13 : decode cX0_lay 13 = .ok (.ireturn, 1) := by decide +kernel
theorem dX0_lay_14 : decode cX0_lay 14 = .ok (.iload_n 3, 1) := by decide +kernel
theorem dX0_lay_15 : decode cX0_lay 15 = .ok (.ifCond .eq 13, 3) := by decide +kernel
theorem dX0_lay_18 : decode cX0_lay 18 = .ok (.iload_n 3, 1) := by decide +kernel
theorem dX0_lay_19 : decode cX0_lay 19 = .ok (.invokestatic 75, 3) := by decide +kernel
theorem dX0_lay_22 : decode cX0_lay 22 = .ok (.ifCond .ne 6, 3) := by decide +kernel
theorem dX0_lay_25 : decode cX0_lay 25 = .ok (.bipush (-2), 2) := by decide +kernel
theorem dX0_lay_27 : decode cX0_lay 27 = .ok (.ireturn, 1) := by decide +kernel
theorem dX0_lay_28 : decode cX0_lay 28 = .ok (.aload_n 0, 1) := by decide +kernel
theorem dX0_lay_29 : decode cX0_lay 29 = .ok (.iload 4, 2) := by decide +kernel
theorem dX0_lay_31 : decode cX0_lay 31 = .ok (.invokevirtual 79, 3) := by decide +kernel
theorem dX0_lay_34 : decode cX0_lay 34 = .ok (.ifCond .eq 6, 3) := by decide +kernel
theorem dX0_lay_37 : decode cX0_lay 37 = .ok (.bipush (-5), 2) := by decide +kernel
theorem dX0_lay_39 : decode cX0_lay 39 = .ok (.ireturn, 1) := by decide +kernel
theorem dX0_lay_40 : decode cX0_lay 40 = .ok (.aload_n 0, 1) := by decide +kernel
theorem dX0_lay_41 : decode cX0_lay 41 = .ok (.getfield 15, 3) := by decide +kernel
theorem dX0_lay_44 : decode cX0_lay 44 = .ok (.iload 4, 2) := by decide +kernel
theorem dX0_lay_46 : decode cX0_lay 46 = .ok (.iaload, 1) := by decide +kernel
theorem dX0_lay_47 : decode cX0_lay 47 = .ok (.istore 5, 2) := by decide +kernel
theorem dX0_lay_49 : decode cX0_lay 49 = .ok (.aload_n 0, 1) := by decide +kernel
theorem dX0_lay_50 : decode cX0_lay 50 = .ok (.getfield 15, 3) := by decide +kernel
theorem dX0_lay_53 : decode cX0_lay 53 = .ok (.iload 4, 2) := by decide +kernel
theorem dX0_lay_55 : decode cX0_lay 55 = .ok (.iload_n 3, 1) := by decide +kernel
theorem dX0_lay_56 : decode cX0_lay 56 = .ok (.iastore, 1) := by decide +kernel
theorem dX0_lay_57 : decode cX0_lay 57 = .ok (.aload_n 0, 1) := by decide +kernel
theorem dX0_lay_58 : decode cX0_lay 58 = .ok (.invokevirtual 68, 3) := by decide +kernel
theorem dX0_lay_61 : decode cX0_lay 61 = .ok (.iload 5, 2) := by decide +kernel
theorem dX0_lay_63 : decode cX0_lay 63 = .ok (.ireturn, 1) := by decide +kernel
set_option maxRecDepth 20000 in
theorem ggX0_isNeededByTouch_X5_areNeighbours : GoodIn wsX0_isNeededByTouch wsX5_areNeighbours := goodIn_r _ [7, 8, 9, 6, 10] (by decide +kernel) (by decide +kernel)
set_option maxRecDepth 20000 in
theorem gX0_isNeededByTouch_X5_areNeighbours_n82 : GoodIn wsX0_isNeededByTouch (wsX5_areNeighbours) := ggX0_isNeededByTouch_X5_areNeighbours
theorem dX0_isNeededByTouch_0 : decode cX0_isNeededByTouch 0 = .ok (.iconst 0, 1) := by decide +kernel
theorem dX0_isNeededByTouch_1 : decode cX0_isNeededByTouch 1 = .ok (.istore_n 2, 1) := by decide +kernel
theorem dX0_isNeededByTouch_2 : decode cX0_isNeededByTouch 2 = .ok (.iload_n 2, 1) := by decide +kernel
theorem dX0_isNeededByTouch_3 : decode cX0_isNeededByTouch 3 = .ok (.aload_n 0, 1) := by decide +kernel
theorem dX0_isNeededByTouch_4 : decode cX0_isNeededByTouch 4 = .ok (.getfield 21, 3) := by decide +kernel
theorem dX0_isNeededByTouch_7 : decode cX0_isNeededByTouch 7 = .ok (.if_icmp .ge 51, 3) := by decide +kernel
theorem dX0_isNeededByTouch_10 : decode cX0_isNeededByTouch 10 = .ok (.aload_n 0, 1) := by decide +kernel
theorem dX0_isNeededByTouch_11 : decode cX0_isNeededByTouch 11 = .ok (.getfield 25, 3) := by decide +kernel
theorem dX0_isNeededByTouch_14 : decode cX0_isNeededByTouch 14 = .ok (.iload_n 2, 1) := by decide +kernel
theorem dX0_isNeededByTouch_15 : decode cX0_isNeededByTouch 15 = .ok (.iaload, 1) := by decide +kernel
theorem dX0_isNeededByTouch_16 : decode cX0_isNeededByTouch 16 = .ok (.iload_n 1, 1) := by decide +kernel
theorem dX0_isNeededByTouch_17 : decode cX0_isNeededByTouch 17 = .ok (.if_icmp .ne 5, 3) := by decide +kernel
theorem dX0_isNeededByTouch_20 : decode cX0_isNeededByTouch 20 = .ok (.iconst 1, 1) := by decide +kernel
theorem dX0_isNeededByTouch_21 : decode cX0_isNeededByTouch 21 = .ok (.ireturn, 1) := by decide +kernel
theorem dX0_isNeededByTouch_22 : decode cX0_isNeededByTouch 22 = .ok (.aload_n 0, 1) := by decide +kernel
theorem dX0_isNeededByTouch_23 : decode cX0_isNeededByTouch 23 = .ok (.getfield 25, 3) := by decide +kernel
theorem dX0_isNeededByTouch_26 : decode cX0_isNeededByTouch 26 = .ok (.iload_n 2, 1) := by decide +kernel
theorem dX0_isNeededByTouch_27 : decode cX0_isNeededByTouch 27 = .ok (.iaload, 1) := by decide +kernel
theorem dX0_isNeededByTouch_28 : decode cX0_isNeededByTouch 28 = .ok (.iload_n 1, 1) := by decide +kernel
theorem dX0_isNeededByTouch_29 : decode cX0_isNeededByTouch 29 = .ok (.invokestatic 82, 3) := by decide +kernel
theorem dX0_isNeededByTouch_32 : decode cX0_isNeededByTouch 32 = .ok (.ifCond .eq 20, 3) := by decide +kernel
theorem dX0_isNeededByTouch_35 : decode cX0_isNeededByTouch 35 = .ok (.aload_n 0, 1) := by decide +kernel
theorem dX0_isNeededByTouch_36 : decode cX0_isNeededByTouch 36 = .ok (.getfield 28, 3) := by decide +kernel
theorem dX0_isNeededByTouch_39 : decode cX0_isNeededByTouch 39 = .ok (.iload_n 2, 1) := by decide +kernel
theorem dX0_isNeededByTouch_40 : decode cX0_isNeededByTouch 40 = .ok (.iaload, 1) := by decide +kernel
theorem dX0_isNeededByTouch_41 : decode cX0_isNeededByTouch 41 = .ok (.aload_n 0, 1) := by decide +kernel
theorem dX0_isNeededByTouch_42 : decode cX0_isNeededByTouch 42 = .ok (.getfield 15, 3) := by decide +kernel
theorem dX0_isNeededByTouch_45 : decode cX0_isNeededByTouch 45 = .ok (.iload_n 1, 1) := by decide +kernel
theorem dX0_isNeededByTouch_46 : decode cX0_isNeededByTouch 46 = .ok (.iaload, 1) := by decide +kernel
theorem dX0_isNeededByTouch_47 : decode cX0_isNeededByTouch 47 = .ok (.if_icmp .ne 5, 3) := by decide +kernel
theorem dX0_isNeededByTouch_50 : decode cX0_isNeededByTouch 50 = .ok (.iconst 1, 1) := by decide +kernel
theorem dX0_isNeededByTouch_51 : decode cX0_isNeededByTouch 51 = .ok (.ireturn, 1) := by decide +kernel
theorem dX0_isNeededByTouch_52 : decode cX0_isNeededByTouch 52 = .ok (.iinc 2 1, 3) := by decide +kernel
theorem dX0_isNeededByTouch_55 : decode cX0_isNeededByTouch 55 = .ok (.goto (-53), 3) := by decide +kernel
theorem dX0_isNeededByTouch_58 : decode cX0_isNeededByTouch 58 = .ok (.iconst 0, 1) := by decide +kernel
theorem dX0_isNeededByTouch_59 : decode cX0_isNeededByTouch 59 = .ok (.ireturn, 1) := by decide +kernel
set_option maxRecDepth 20000 in
theorem ggX0_join_X5_placeOf : GoodIn wsX0_join wsX5_placeOf := goodIn_r _ [7] (by decide +kernel) (by decide +kernel)
set_option maxRecDepth 20000 in
theorem gX0_join_X5_placeOf_n71 : GoodIn wsX0_join (wsX5_placeOf) := ggX0_join_X5_placeOf
set_option maxRecDepth 20000 in
theorem ggX0_join_X5_isNet : GoodIn wsX0_join wsX5_isNet := goodIn_r _ [9] (by decide +kernel) (by decide +kernel)
set_option maxRecDepth 20000 in
theorem gX0_join_X5_isNet_n75 : GoodIn wsX0_join (wsX5_isNet) := ggX0_join_X5_isNet
set_option maxRecDepth 20000 in
theorem ggX0_join_X0_touchAt : GoodIn wsX0_join wsX0_touchAt := goodIn_r _ [14, 2, 3, 28, 29, 30, 31, 32, 33, 34, 35, 36, 37, 38, 39, 40] (by decide +kernel) (by decide +kernel)
set_option maxRecDepth 20000 in
theorem gX0_join_X0_touchAt : GoodIn wsX0_join (wsV RX0 86 RX0 yX0_touchAt wsX0_touchAt) := goodIn_app (goodIn_of _ (by decide +kernel)) ggX0_join_X0_touchAt
set_option maxRecDepth 20000 in
theorem ggX0_join_X0_hasNeighbourOf : GoodIn wsX0_join wsX0_hasNeighbourOf := goodIn_r _ [18, 1, 19, 6, 20, 28, 29, 30, 31, 32, 33, 34, 35, 36, 37, 38, 39, 40] (by decide +kernel) (by decide +kernel)
set_option maxRecDepth 20000 in
theorem gX0_join_X0_hasNeighbourOf : GoodIn wsX0_join (wsV RX0 90 RX0 yX0_hasNeighbourOf wsX0_hasNeighbourOf) := goodIn_app (goodIn_of _ (by decide +kernel)) ggX0_join_X0_hasNeighbourOf
set_option maxRecDepth 20000 in
theorem ggX0_join_X0_beginRun : GoodIn wsX0_join wsX0_beginRun := goodIn_r _ [24, 25, 26, 27, 28, 29, 30, 31, 32, 33, 34, 35, 36, 37, 38, 39, 40] (by decide +kernel) (by decide +kernel)
set_option maxRecDepth 20000 in
theorem gX0_join_X0_beginRun : GoodIn wsX0_join (wsV RX0 68 RX0 yX0_beginRun wsX0_beginRun) := goodIn_app (goodIn_of _ (by decide +kernel)) ggX0_join_X0_beginRun
theorem dX0_join_0 : decode cX0_join 0 = .ok (.iload_n 1, 1) := by decide +kernel
theorem dX0_join_1 : decode cX0_join 1 = .ok (.iload_n 2, 1) := by decide +kernel
theorem dX0_join_2 : decode cX0_join 2 = .ok (.invokestatic 71, 3) := by decide +kernel
theorem dX0_join_5 : decode cX0_join 5 = .ok (.istore 4, 2) := by decide +kernel
theorem dX0_join_7 : decode cX0_join 7 = .ok (.iload 4, 2) := by decide +kernel
theorem dX0_join_9 : decode cX0_join 9 = .ok (.ifCond .ge 5, 3) := by decide +kernel
theorem dX0_join_12 : decode cX0_join 12 = .ok (.iconst (-1), 1) := by decide +kernel
theorem dX0_join_13 : decode cX0_join 13 = .ok (.ireturn, 1) := by decide +kernel
theorem dX0_join_14 : decode cX0_join 14 = .ok (.iload_n 3, 1) := by decide +kernel
theorem dX0_join_15 : decode cX0_join 15 = .ok (.invokestatic 75, 3) := by decide +kernel
theorem dX0_join_18 : decode cX0_join 18 = .ok (.ifCond .ne 6, 3) := by decide +kernel
theorem dX0_join_21 : decode cX0_join 21 = .ok (.bipush (-2), 2) := by decide +kernel
theorem dX0_join_23 : decode cX0_join 23 = .ok (.ireturn, 1) := by decide +kernel
theorem dX0_join_24 : decode cX0_join 24 = .ok (.aload_n 0, 1) := by decide +kernel
theorem dX0_join_25 : decode cX0_join 25 = .ok (.getfield 15, 3) := by decide +kernel
theorem dX0_join_28 : decode cX0_join 28 = .ok (.iload 4, 2) := by decide +kernel
theorem dX0_join_30 : decode cX0_join 30 = .ok (.iaload, 1) := by decide +kernel
theorem dX0_join_31 : decode cX0_join 31 = .ok (.ifCond .eq 35, 3) := by decide +kernel
theorem dX0_join_34 : decode cX0_join 34 = .ok (.aload_n 0, 1) := by decide +kernel
theorem dX0_join_35 : decode cX0_join 35 = .ok (.getfield 15, 3) := by decide +kernel
theorem dX0_join_38 : decode cX0_join 38 = .ok (.iload 4, 2) := by decide +kernel
theorem dX0_join_40 : decode cX0_join 40 = .ok (.iaload, 1) := by decide +kernel
theorem dX0_join_41 : decode cX0_join 41 = .ok (.iload_n 3, 1) := by decide +kernel
theorem dX0_join_42 : decode cX0_join 42 = .ok (.if_icmp .eq 24, 3) := by decide +kernel
theorem dX0_join_45 : decode cX0_join 45 = .ok (.aload_n 0, 1) := by decide +kernel
theorem dX0_join_46 : decode cX0_join 46 = .ok (.iload 4, 2) := by decide +kernel
theorem dX0_join_48 : decode cX0_join 48 = .ok (.invokevirtual 86, 3) := by decide +kernel
theorem dX0_join_51 : decode cX0_join 51 = .ok (.bipush (-6), 2) := by decide +kernel
theorem dX0_join_53 : decode cX0_join 53 = .ok (.if_icmp .ne 13, 3) := by decide +kernel
theorem dX0_join_56 : decode cX0_join 56 = .ok (.aload_n 0, 1) := by decide +kernel
theorem dX0_join_57 : decode cX0_join 57 = .ok (.iload 4, 2) := by decide +kernel
theorem dX0_join_59 : decode cX0_join 59 = .ok (.iload_n 3, 1) := by decide +kernel
theorem dX0_join_60 : decode cX0_join 60 = .ok (.invokevirtual 90, 3) := by decide +kernel
theorem dX0_join_63 : decode cX0_join 63 = .ok (.ifCond .ne 6, 3) := by decide +kernel
theorem dX0_join_66 : decode cX0_join 66 = .ok (.bipush (-5), 2) := by decide +kernel
theorem dX0_join_68 : decode cX0_join 68 = .ok (.ireturn, 1) := by decide +kernel
theorem dX0_join_69 : decode cX0_join 69 = .ok (.aload_n 0, 1) := by decide +kernel
theorem dX0_join_70 : decode cX0_join 70 = .ok (.getfield 21, 3) := by decide +kernel
theorem dX0_join_73 : decode cX0_join 73 = .ok (.iconst 3, 1) := by decide +kernel
theorem dX0_join_74 : decode cX0_join 74 = .ok (.if_icmp .lt 6, 3) := by decide +kernel
theorem dX0_join_77 : decode cX0_join 77 = .ok (.bipush (-4), 2) := by decide +kernel
theorem dX0_join_79 : decode cX0_join 79 = .ok (.ireturn, 1) := by decide +kernel
theorem dX0_join_80 : decode cX0_join 80 = .ok (.aload_n 0, 1) := by decide +kernel
theorem dX0_join_81 : decode cX0_join 81 = .ok (.getfield 25, 3) := by decide +kernel
theorem dX0_join_84 : decode cX0_join 84 = .ok (.aload_n 0, 1) := by decide +kernel
theorem dX0_join_85 : decode cX0_join 85 = .ok (.getfield 21, 3) := by decide +kernel
theorem dX0_join_88 : decode cX0_join 88 = .ok (.iload 4, 2) := by decide +kernel
theorem dX0_join_90 : decode cX0_join 90 = .ok (.iastore, 1) := by decide +kernel
theorem dX0_join_91 : decode cX0_join 91 = .ok (.aload_n 0, 1) := by decide +kernel
theorem dX0_join_92 : decode cX0_join 92 = .ok (.getfield 28, 3) := by decide +kernel
theorem dX0_join_95 : decode cX0_join 95 = .ok (.aload_n 0, 1) := by decide +kernel
theorem dX0_join_96 : decode cX0_join 96 = .ok (.getfield 21, 3) := by decide +kernel
theorem dX0_join_99 : decode cX0_join 99 = .ok (.iload_n 3, 1) := by decide +kernel
theorem dX0_join_100 : decode cX0_join 100 = .ok (.iastore, 1) := by decide +kernel
theorem dX0_join_101 : decode cX0_join 101 = .ok (.aload_n 0, 1) := by decide +kernel
theorem dX0_join_102 : decode cX0_join 102 = .ok (.dup, 1) := by decide +kernel
theorem dX0_join_103 : decode cX0_join 103 = .ok (.getfield 21, 3) := by decide +kernel
theorem dX0_join_106 : decode cX0_join 106 = .ok (.iconst 1, 1) := by decide +kernel
theorem dX0_join_107 : decode cX0_join 107 = .ok (.iadd, 1) := by decide +kernel
theorem dX0_join_108 : decode cX0_join 108 = .ok (.putfield 21, 3) := by decide +kernel
theorem dX0_join_111 : decode cX0_join 111 = .ok (.aload_n 0, 1) := by decide +kernel
theorem dX0_join_112 : decode cX0_join 112 = .ok (.invokevirtual 68, 3) := by decide +kernel
theorem dX0_join_115 : decode cX0_join 115 = .ok (.aload_n 0, 1) := by decide +kernel
theorem dX0_join_116 : decode cX0_join 116 = .ok (.getfield 21, 3) := by decide +kernel
theorem dX0_join_119 : decode cX0_join 119 = .ok (.iconst 1, 1) := by decide +kernel
theorem dX0_join_120 : decode cX0_join 120 = .ok (.isub, 1) := by decide +kernel
theorem dX0_join_121 : decode cX0_join 121 = .ok (.ireturn, 1) := by decide +kernel
set_option maxRecDepth 20000 in
theorem ggX0_hasNeighbourOf_X5_neighbourOf : GoodIn wsX0_hasNeighbourOf wsX5_neighbourOf := goodIn_r _ [4] (by decide +kernel) (by decide +kernel)
set_option maxRecDepth 20000 in
theorem gX0_hasNeighbourOf_X5_neighbourOf_n93 : GoodIn wsX0_hasNeighbourOf (wsX5_neighbourOf) := ggX0_hasNeighbourOf_X5_neighbourOf
theorem dX0_hasNeighbourOf_0 : decode cX0_hasNeighbourOf 0 = .ok (.iconst 0, 1) := by decide +kernel
theorem dX0_hasNeighbourOf_1 : decode cX0_hasNeighbourOf 1 = .ok (.istore_n 3, 1) := by decide +kernel
theorem dX0_hasNeighbourOf_2 : decode cX0_hasNeighbourOf 2 = .ok (.iload_n 3, 1) := by decide +kernel
theorem dX0_hasNeighbourOf_3 : decode cX0_hasNeighbourOf 3 = .ok (.iconst 4, 1) := by decide +kernel
theorem dX0_hasNeighbourOf_4 : decode cX0_hasNeighbourOf 4 = .ok (.if_icmp .ge 34, 3) := by decide +kernel
theorem dX0_hasNeighbourOf_7 : decode cX0_hasNeighbourOf 7 = .ok (.iload_n 1, 1) := by decide +kernel
theorem dX0_hasNeighbourOf_8 : decode cX0_hasNeighbourOf 8 = .ok (.iload_n 3, 1) := by decide +kernel
theorem dX0_hasNeighbourOf_9 : decode cX0_hasNeighbourOf 9 = .ok (.invokestatic 93, 3) := by decide +kernel
theorem dX0_hasNeighbourOf_12 : decode cX0_hasNeighbourOf 12 = .ok (.istore 4, 2) := by decide +kernel
theorem dX0_hasNeighbourOf_14 : decode cX0_hasNeighbourOf 14 = .ok (.iload 4, 2) := by decide +kernel
theorem dX0_hasNeighbourOf_16 : decode cX0_hasNeighbourOf 16 = .ok (.ifCond .lt 16, 3) := by decide +kernel
theorem dX0_hasNeighbourOf_19 : decode cX0_hasNeighbourOf 19 = .ok (.aload_n 0, 1) := by decide +kernel
theorem dX0_hasNeighbourOf_20 : decode cX0_hasNeighbourOf 20 = .ok (.getfield 15, 3) := by decide +kernel
theorem dX0_hasNeighbourOf_23 : decode cX0_hasNeighbourOf 23 = .ok (.iload 4, 2) := by decide +kernel
theorem dX0_hasNeighbourOf_25 : decode cX0_hasNeighbourOf 25 = .ok (.iaload, 1) := by decide +kernel
theorem dX0_hasNeighbourOf_26 : decode cX0_hasNeighbourOf 26 = .ok (.iload_n 2, 1) := by decide +kernel
theorem dX0_hasNeighbourOf_27 : decode cX0_hasNeighbourOf 27 = .ok (.if_icmp .ne 5, 3) := by decide +kernel
theorem dX0_hasNeighbourOf_30 : decode cX0_hasNeighbourOf 30 = .ok (.iconst 1, 1) := by decide +kernel
theorem dX0_hasNeighbourOf_31 : decode cX0_hasNeighbourOf 31 = .ok (.ireturn, 1) := by decide +kernel
theorem dX0_hasNeighbourOf_32 : decode cX0_hasNeighbourOf 32 = .ok (.iinc 3 1, 3) := by decide +kernel
theorem dX0_hasNeighbourOf_35 : decode cX0_hasNeighbourOf 35 = .ok (.goto (-33), 3) := by decide +kernel
theorem dX0_hasNeighbourOf_38 : decode cX0_hasNeighbourOf 38 = .ok (.iconst 0, 1) := by decide +kernel
theorem dX0_hasNeighbourOf_39 : decode cX0_hasNeighbourOf 39 = .ok (.ireturn, 1) := by decide +kernel
set_option maxRecDepth 20000 in
theorem ggX0_part_X0_beginRun : GoodIn wsX0_part wsX0_beginRun := goodIn_r _ [8, 9, 10, 11, 12, 13, 14, 15, 16, 17, 18, 19, 20, 21, 22, 23, 24] (by decide +kernel) (by decide +kernel)
set_option maxRecDepth 20000 in
theorem gX0_part_X0_beginRun : GoodIn wsX0_part (wsV RX0 68 RX0 yX0_beginRun wsX0_beginRun) := goodIn_app (goodIn_of _ (by decide +kernel)) ggX0_part_X0_beginRun
theorem dX0_part_0 : decode cX0_part 0 = .ok (.iload_n 1, 1) := by decide +kernel
theorem dX0_part_1 : decode cX0_part 1 = .ok (.ifCond .lt 11, 3) := by decide +kernel
theorem dX0_part_4 : decode cX0_part 4 = .ok (.iload_n 1, 1) := by decide +kernel
theorem dX0_part_5 : decode cX0_part 5 = .ok (.aload_n 0, 1) := by decide +kernel
theorem dX0_part_6 : decode cX0_part 6 = .ok (.getfield 21, 3) := by decide +kernel
theorem dX0_part_9 : decode cX0_part 9 = .ok (.if_icmp .lt 5, 3) := by decide +kernel
theorem dX0_part_12 : decode cX0_part 12 = .ok (.iconst (-1), 1) := by decide +kernel
theorem dX0_part_13 : decode cX0_part 13 = .ok (.ireturn, 1) := by decide +kernel
theorem dX0_part_14 : decode cX0_part 14 = .ok (.iload_n 1, 1) := by decide +kernel
theorem dX0_part_15 : decode cX0_part 15 = .ok (.istore_n 2, 1) := by decide +kernel
theorem dX0_part_16 : decode cX0_part 16 = .ok (.iload_n 2, 1) := by decide +kernel
theorem dX0_part_17 : decode cX0_part 17 = .ok (.aload_n 0, 1) := by decide +kernel
theorem dX0_part_18 : decode cX0_part 18 = .ok (.getfield 21, 3) := by decide +kernel
theorem dX0_part_21 : decode cX0_part 21 = .ok (.iconst 1, 1) := by decide +kernel
theorem dX0_part_22 : decode cX0_part 22 = .ok (.isub, 1) := by decide +kernel
theorem dX0_part_23 : decode cX0_part 23 = .ok (.if_icmp .ge 37, 3) := by decide +kernel
theorem dX0_part_26 : decode cX0_part 26 = .ok (.aload_n 0, 1) := by decide +kernel
theorem dX0_part_27 : decode cX0_part 27 = .ok (.getfield 25, 3) := by decide +kernel
theorem dX0_part_30 : decode cX0_part 30 = .ok (.iload_n 2, 1) := by decide +kernel
theorem dX0_part_31 : decode cX0_part 31 = .ok (.aload_n 0, 1) := by decide +kernel
theorem dX0_part_32 : decode cX0_part 32 = .ok (.getfield 25, 3) := by decide +kernel
theorem dX0_part_35 : decode cX0_part 35 = .ok (.iload_n 2, 1) := by decide +kernel
theorem dX0_part_36 : decode cX0_part 36 = .ok (.iconst 1, 1) := by decide +kernel
theorem dX0_part_37 : decode cX0_part 37 = .ok (.iadd, 1) := by decide +kernel
theorem dX0_part_38 : decode cX0_part 38 = .ok (.iaload, 1) := by decide +kernel
theorem dX0_part_39 : decode cX0_part 39 = .ok (.iastore, 1) := by decide +kernel
theorem dX0_part_40 : decode cX0_part 40 = .ok (.aload_n 0, 1) := by decide +kernel
theorem dX0_part_41 : decode cX0_part 41 = .ok (.getfield 28, 3) := by decide +kernel
theorem dX0_part_44 : decode cX0_part 44 = .ok (.iload_n 2, 1) := by decide +kernel
theorem dX0_part_45 : decode cX0_part 45 = .ok (.aload_n 0, 1) := by decide +kernel
theorem dX0_part_46 : decode cX0_part 46 = .ok (.getfield 28, 3) := by decide +kernel
theorem dX0_part_49 : decode cX0_part 49 = .ok (.iload_n 2, 1) := by decide +kernel
theorem dX0_part_50 : decode cX0_part 50 = .ok (.iconst 1, 1) := by decide +kernel
theorem dX0_part_51 : decode cX0_part 51 = .ok (.iadd, 1) := by decide +kernel
theorem dX0_part_52 : decode cX0_part 52 = .ok (.iaload, 1) := by decide +kernel
theorem dX0_part_53 : decode cX0_part 53 = .ok (.iastore, 1) := by decide +kernel
theorem dX0_part_54 : decode cX0_part 54 = .ok (.iinc 2 1, 3) := by decide +kernel
theorem dX0_part_57 : decode cX0_part 57 = .ok (.goto (-41), 3) := by decide +kernel
theorem dX0_part_60 : decode cX0_part 60 = .ok (.aload_n 0, 1) := by decide +kernel
theorem dX0_part_61 : decode cX0_part 61 = .ok (.dup, 1) := by decide +kernel
theorem dX0_part_62 : decode cX0_part 62 = .ok (.getfield 21, 3) := by decide +kernel
theorem dX0_part_65 : decode cX0_part 65 = .ok (.iconst 1, 1) := by decide +kernel
theorem dX0_part_66 : decode cX0_part 66 = .ok (.isub, 1) := by decide +kernel
theorem dX0_part_67 : decode cX0_part 67 = .ok (.putfield 21, 3) := by decide +kernel
theorem dX0_part_70 : decode cX0_part 70 = .ok (.aload_n 0, 1) := by decide +kernel
theorem dX0_part_71 : decode cX0_part 71 = .ok (.invokevirtual 68, 3) := by decide +kernel
theorem dX0_part_74 : decode cX0_part 74 = .ok (.aload_n 0, 1) := by decide +kernel
theorem dX0_part_75 : decode cX0_part 75 = .ok (.getfield 21, 3) := by decide +kernel
theorem dX0_part_78 : decode cX0_part 78 = .ok (.ireturn, 1) := by decide +kernel
set_option maxRecDepth 20000 in
theorem ggX0_turnPair_X5_isNet : GoodIn wsX0_turnPair wsX5_isNet := goodIn_r _ [4] (by decide +kernel) (by decide +kernel)
set_option maxRecDepth 20000 in
theorem gX0_turnPair_X5_isNet_n75 : GoodIn wsX0_turnPair (wsX5_isNet) := ggX0_turnPair_X5_isNet
set_option maxRecDepth 20000 in
theorem ggX0_turnPair_X0_beginRun : GoodIn wsX0_turnPair wsX0_beginRun := goodIn_r _ [9, 10, 11, 12, 17, 18, 19, 20, 21, 22, 23, 24, 25, 26, 27, 28, 29] (by decide +kernel) (by decide +kernel)
set_option maxRecDepth 20000 in
theorem gX0_turnPair_X0_beginRun : GoodIn wsX0_turnPair (wsV RX0 68 RX0 yX0_beginRun wsX0_beginRun) := goodIn_app (goodIn_of _ (by decide +kernel)) ggX0_turnPair_X0_beginRun
set_option maxRecDepth 20000 in
theorem ggX0_turnPair_X0_isFed : GoodIn wsX0_turnPair wsX0_isFed := goodIn_r _ [16, 1, 17, 18, 19, 20, 21, 22, 23, 24, 25, 26, 27, 28, 29] (by decide +kernel) (by decide +kernel)
set_option maxRecDepth 20000 in
theorem gX0_turnPair_X0_isFed : GoodIn wsX0_turnPair (wsV RX0 96 RX0 yX0_isFed wsX0_isFed) := goodIn_app (goodIn_of _ (by decide +kernel)) ggX0_turnPair_X0_isFed
theorem dX0_turnPair_0 : decode cX0_turnPair 0 = .ok (.iload_n 1, 1) := by decide +kernel
theorem dX0_turnPair_1 : decode cX0_turnPair 1 = .ok (.invokestatic 75, 3) := by decide +kernel
theorem dX0_turnPair_4 : decode cX0_turnPair 4 = .ok (.ifCond .eq 10, 3) := by decide +kernel
theorem dX0_turnPair_7 : decode cX0_turnPair 7 = .ok (.iload_n 2, 1) := by decide +kernel
theorem dX0_turnPair_8 : decode cX0_turnPair 8 = .ok (.invokestatic 75, 3) := by decide +kernel
theorem dX0_turnPair_11 : decode cX0_turnPair 11 = .ok (.ifCond .ne 5, 3) := by decide +kernel
end
section
theorem dX0_turnPair_14 : decode cX0_turnPair 14 = .ok (.iconst (-1), 1) := by decide +kernel
theorem dX0_turnPair_15 : decode cX0_turnPair 15 = .ok (.ireturn, 1) := by decide +kernel
theorem dX0_turnPair_16 : decode cX0_turnPair 16 = .ok (.iload_n 1, 1) := by decide +kernel
theorem dX0_turnPair_17 : decode cX0_turnPair 17 = .ok (.iload_n 2, 1) := by decide +kernel
theorem dX0_turnPair_18 : decode cX0_turnPair 18 = .ok (.if_icmp .ne 6, 3) := by decide +kernel
theorem dX0_turnPair_21 : decode cX0_turnPair 21 = .ok (.bipush (-2), 2) := by decide +kernel
theorem dX0_turnPair_23 : decode cX0_turnPair 23 = .ok (.ireturn, 1) := by decide +kernel
theorem dX0_turnPair_24 : decode cX0_turnPair 24 = .ok (.aload_n 0, 1) := by decide +kernel
theorem dX0_turnPair_25 : decode cX0_turnPair 25 = .ok (.getfield 18, 3) := by decide +kernel
theorem dX0_turnPair_28 : decode cX0_turnPair 28 = .ok (.iload_n 1, 1) := by decide +kernel
theorem dX0_turnPair_29 : decode cX0_turnPair 29 = .ok (.aload_n 0, 1) := by decide +kernel
theorem dX0_turnPair_30 : decode cX0_turnPair 30 = .ok (.getfield 18, 3) := by decide +kernel
theorem dX0_turnPair_33 : decode cX0_turnPair 33 = .ok (.iload_n 1, 1) := by decide +kernel
theorem dX0_turnPair_34 : decode cX0_turnPair 34 = .ok (.iaload, 1) := by decide +kernel
theorem dX0_turnPair_35 : decode cX0_turnPair 35 = .ok (.iconst 1, 1) := by decide +kernel
theorem dX0_turnPair_36 : decode cX0_turnPair 36 = .ok (.iload_n 2, 1) := by decide +kernel
theorem dX0_turnPair_37 : decode cX0_turnPair 37 = .ok (.ishl, 1) := by decide +kernel
theorem dX0_turnPair_38 : decode cX0_turnPair 38 = .ok (.ixor, 1) := by decide +kernel
theorem dX0_turnPair_39 : decode cX0_turnPair 39 = .ok (.iastore, 1) := by decide +kernel
theorem dX0_turnPair_40 : decode cX0_turnPair 40 = .ok (.aload_n 0, 1) := by decide +kernel
theorem dX0_turnPair_41 : decode cX0_turnPair 41 = .ok (.getfield 18, 3) := by decide +kernel
theorem dX0_turnPair_44 : decode cX0_turnPair 44 = .ok (.iload_n 2, 1) := by decide +kernel
theorem dX0_turnPair_45 : decode cX0_turnPair 45 = .ok (.aload_n 0, 1) := by decide +kernel
theorem dX0_turnPair_46 : decode cX0_turnPair 46 = .ok (.getfield 18, 3) := by decide +kernel
theorem dX0_turnPair_49 : decode cX0_turnPair 49 = .ok (.iload_n 2, 1) := by decide +kernel
theorem dX0_turnPair_50 : decode cX0_turnPair 50 = .ok (.iaload, 1) := by decide +kernel
theorem dX0_turnPair_51 : decode cX0_turnPair 51 = .ok (.iconst 1, 1) := by decide +kernel
theorem dX0_turnPair_52 : decode cX0_turnPair 52 = .ok (.iload_n 1, 1) := by decide +kernel
theorem dX0_turnPair_53 : decode cX0_turnPair 53 = .ok (.ishl, 1) := by decide +kernel
theorem dX0_turnPair_54 : decode cX0_turnPair 54 = .ok (.ixor, 1) := by decide +kernel
theorem dX0_turnPair_55 : decode cX0_turnPair 55 = .ok (.iastore, 1) := by decide +kernel
theorem dX0_turnPair_56 : decode cX0_turnPair 56 = .ok (.aload_n 0, 1) := by decide +kernel
theorem dX0_turnPair_57 : decode cX0_turnPair 57 = .ok (.invokevirtual 68, 3) := by decide +kernel
theorem dX0_turnPair_60 : decode cX0_turnPair 60 = .ok (.aload_n 0, 1) := by decide +kernel
theorem dX0_turnPair_61 : decode cX0_turnPair 61 = .ok (.iload_n 1, 1) := by decide +kernel
theorem dX0_turnPair_62 : decode cX0_turnPair 62 = .ok (.iload_n 2, 1) := by decide +kernel
theorem dX0_turnPair_63 : decode cX0_turnPair 63 = .ok (.invokevirtual 96, 3) := by decide +kernel
theorem dX0_turnPair_66 : decode cX0_turnPair 66 = .ok (.ifCond .eq 7, 3) := by decide +kernel
theorem dX0_turnPair_69 : decode cX0_turnPair 69 = .ok (.iconst 1, 1) := by decide +kernel
theorem dX0_turnPair_70 : decode cX0_turnPair 70 = .ok (.goto 4, 3) := by decide +kernel
theorem dX0_turnPair_73 : decode cX0_turnPair 73 = .ok (.iconst 0, 1) := by decide +kernel
theorem dX0_turnPair_74 : decode cX0_turnPair 74 = .ok (.ireturn, 1) := by decide +kernel
theorem dX0_isFed_0 : decode cX0_isFed 0 = .ok (.aload_n 0, 1) := by decide +kernel
theorem dX0_isFed_1 : decode cX0_isFed 1 = .ok (.getfield 18, 3) := by decide +kernel
theorem dX0_isFed_4 : decode cX0_isFed 4 = .ok (.iload_n 1, 1) := by decide +kernel
theorem dX0_isFed_5 : decode cX0_isFed 5 = .ok (.iaload, 1) := by decide +kernel
theorem dX0_isFed_6 : decode cX0_isFed 6 = .ok (.iload_n 2, 1) := by decide +kernel
theorem dX0_isFed_7 : decode cX0_isFed 7 = .ok (.iushr, 1) := by decide +kernel
theorem dX0_isFed_8 : decode cX0_isFed 8 = .ok (.iconst 1, 1) := by decide +kernel
theorem dX0_isFed_9 : decode cX0_isFed 9 = .ok (.iand, 1) := by decide +kernel
theorem dX0_isFed_10 : decode cX0_isFed 10 = .ok (.ifCond .eq 7, 3) := by decide +kernel
theorem dX0_isFed_13 : decode cX0_isFed 13 = .ok (.iconst 1, 1) := by decide +kernel
theorem dX0_isFed_14 : decode cX0_isFed 14 = .ok (.goto 4, 3) := by decide +kernel
theorem dX0_isFed_17 : decode cX0_isFed 17 = .ok (.iconst 0, 1) := by decide +kernel
theorem dX0_isFed_18 : decode cX0_isFed 18 = .ok (.ireturn, 1) := by decide +kernel
set_option maxRecDepth 20000 in
theorem ggX0_letPass_X0_heated : GoodIn wsX0_letPass wsX0_heated := goodIn_r _ [6, 7, 8, 9, 10, 11, 5, 12, 13, 14, 15, 16, 17, 18, 19, 38, 39, 40, 41, 42, 43, 44, 45, 46, 47, 48, 49, 50] (by decide +kernel) (by decide +kernel)
set_option maxRecDepth 20000 in
theorem gX0_letPass_X0_heated : GoodIn wsX0_letPass (wsV RX0 99 RX0 yX0_heated wsX0_heated) := goodIn_app (goodIn_of _ (by decide +kernel)) ggX0_letPass_X0_heated
set_option maxRecDepth 20000 in
theorem ggX0_letPass_X0_passOne : GoodIn wsX0_letPass wsX0_passOne := goodIn_r _ [23, 24, 25, 26, 27, 28, 29, 30, 31, 32, 33, 34, 35, 36, 37, 38, 39, 40, 41, 42, 43, 44, 45, 46, 47, 48, 49, 50] (by decide +kernel) (by decide +kernel)
set_option maxRecDepth 20000 in
theorem gX0_letPass_X0_passOne : GoodIn wsX0_letPass (wsV RX0 103 RX0 yX0_passOne wsX0_passOne) := goodIn_app (goodIn_of _ (by decide +kernel)) ggX0_letPass_X0_passOne
theorem dX0_letPass_0 : decode cX0_letPass 0 = .ok (.iload_n 1, 1) := by decide +kernel
theorem dX0_letPass_1 : decode cX0_letPass 1 = .ok (.iconst 1, 1) := by decide +kernel
theorem dX0_letPass_2 : decode cX0_letPass 2 = .ok (.if_icmp .lt 9, 3) := by decide +kernel
theorem dX0_letPass_5 : decode cX0_letPass 5 = .ok (.iload_n 1, 1) := by decide +kernel
theorem dX0_letPass_6 : decode cX0_letPass 6 = .ok (.bipush 50, 2) := by decide +kernel
theorem dX0_letPass_8 : decode cX0_letPass 8 = .ok (.if_icmp .le 6, 3) := by decide +kernel
theorem dX0_letPass_11 : decode cX0_letPass 11 = .ok (.bipush (-2), 2) := by decide +kernel
theorem dX0_letPass_13 : decode cX0_letPass 13 = .ok (.ireturn, 1) := by decide +kernel
theorem dX0_letPass_14 : decode cX0_letPass 14 = .ok (.aload_n 0, 1) := by decide +kernel
theorem dX0_letPass_15 : decode cX0_letPass 15 = .ok (.getfield 31, 3) := by decide +kernel
theorem dX0_letPass_18 : decode cX0_letPass 18 = .ok (.iload_n 1, 1) := by decide +kernel
theorem dX0_letPass_19 : decode cX0_letPass 19 = .ok (.iadd, 1) := by decide +kernel
theorem dX0_letPass_20 : decode cX0_letPass 20 = .ok (.bipush 100, 2) := by decide +kernel
theorem dX0_letPass_22 : decode cX0_letPass 22 = .ok (.if_icmp .le 6, 3) := by decide +kernel
theorem dX0_letPass_25 : decode cX0_letPass 25 = .ok (.bipush (-5), 2) := by decide +kernel
theorem dX0_letPass_27 : decode cX0_letPass 27 = .ok (.ireturn, 1) := by decide +kernel
theorem dX0_letPass_28 : decode cX0_letPass 28 = .ok (.aload_n 0, 1) := by decide +kernel
theorem dX0_letPass_29 : decode cX0_letPass 29 = .ok (.invokevirtual 99, 3) := by decide +kernel
theorem dX0_letPass_32 : decode cX0_letPass 32 = .ok (.lstore_n 2, 1) := by decide +kernel
theorem dX0_letPass_33 : decode cX0_letPass 33 = .ok (.iconst 0, 1) := by decide +kernel
theorem dX0_letPass_34 : decode cX0_letPass 34 = .ok (.istore 4, 2) := by decide +kernel
theorem dX0_letPass_36 : decode cX0_letPass 36 = .ok (.iload 4, 2) := by decide +kernel
theorem dX0_letPass_38 : decode cX0_letPass 38 = .ok (.iload_n 1, 1) := by decide +kernel
theorem dX0_letPass_39 : decode cX0_letPass 39 = .ok (.if_icmp .ge 14, 3) := by decide +kernel
theorem dX0_letPass_42 : decode cX0_letPass 42 = .ok (.aload_n 0, 1) := by decide +kernel
theorem dX0_letPass_43 : decode cX0_letPass 43 = .ok (.lload_n 2, 1) := by decide +kernel
theorem dX0_letPass_44 : decode cX0_letPass 44 = .ok (.invokevirtual 103, 3) := by decide +kernel
theorem dX0_letPass_47 : decode cX0_letPass 47 = .ok (.iinc 4 1, 3) := by decide +kernel
theorem dX0_letPass_50 : decode cX0_letPass 50 = .ok (.goto (-14), 3) := by decide +kernel
theorem dX0_letPass_53 : decode cX0_letPass 53 = .ok (.aload_n 0, 1) := by decide +kernel
theorem dX0_letPass_54 : decode cX0_letPass 54 = .ok (.aload_n 0, 1) := by decide +kernel
theorem dX0_letPass_55 : decode cX0_letPass 55 = .ok (.getfield 31, 3) := by decide +kernel
theorem dX0_letPass_58 : decode cX0_letPass 58 = .ok (.iload_n 1, 1) := by decide +kernel
theorem dX0_letPass_59 : decode cX0_letPass 59 = .ok (.iadd, 1) := by decide +kernel
theorem dX0_letPass_60 : decode cX0_letPass 60 = .ok (.putfield 31, 3) := by decide +kernel
theorem dX0_letPass_63 : decode cX0_letPass 63 = .ok (.aload_n 0, 1) := by decide +kernel
theorem dX0_letPass_64 : decode cX0_letPass 64 = .ok (.getfield 31, 3) := by decide +kernel
theorem dX0_letPass_67 : decode cX0_letPass 67 = .ok (.ireturn, 1) := by decide +kernel
set_option maxRecDepth 20000 in
theorem ggX0_passOne_X5_step : GoodIn wsX0_passOne wsX5_step := goodIn_r _ [10, 11, 12, 13, 9, 14] (by decide +kernel) (by decide +kernel)
set_option maxRecDepth 20000 in
theorem gX0_passOne_X5_step_n107 : GoodIn wsX0_passOne (wsX5_step) := ggX0_passOne_X5_step
theorem dX0_passOne_0 : decode cX0_passOne 0 = .ok (.aload_n 0, 1) := by decide +kernel
theorem dX0_passOne_1 : decode cX0_passOne 1 = .ok (.getfield 34, 3) := by decide +kernel
theorem dX0_passOne_4 : decode cX0_passOne 4 = .ok (.iconst 0, 1) := by decide +kernel
theorem dX0_passOne_5 : decode cX0_passOne 5 = .ok (.aload_n 0, 1) := by decide +kernel
theorem dX0_passOne_6 : decode cX0_passOne 6 = .ok (.getfield 38, 3) := by decide +kernel
theorem dX0_passOne_9 : decode cX0_passOne 9 = .ok (.iconst 0, 1) := by decide +kernel
theorem dX0_passOne_10 : decode cX0_passOne 10 = .ok (.lload_n 1, 1) := by decide +kernel
theorem dX0_passOne_11 : decode cX0_passOne 11 = .ok (.aload_n 0, 1) := by decide +kernel
theorem dX0_passOne_12 : decode cX0_passOne 12 = .ok (.getfield 9, 3) := by decide +kernel
theorem dX0_passOne_15 : decode cX0_passOne 15 = .ok (.invokestatic 107, 3) := by decide +kernel
theorem dX0_passOne_18 : decode cX0_passOne 18 = .ok (.aload_n 0, 1) := by decide +kernel
theorem dX0_passOne_19 : decode cX0_passOne 19 = .ok (.getfield 38, 3) := by decide +kernel
theorem dX0_passOne_22 : decode cX0_passOne 22 = .ok (.iconst 0, 1) := by decide +kernel
theorem dX0_passOne_23 : decode cX0_passOne 23 = .ok (.aload_n 0, 1) := by decide +kernel
theorem dX0_passOne_24 : decode cX0_passOne 24 = .ok (.getfield 34, 3) := by decide +kernel
theorem dX0_passOne_27 : decode cX0_passOne 27 = .ok (.iconst 0, 1) := by decide +kernel
theorem dX0_passOne_28 : decode cX0_passOne 28 = .ok (.bipush 64, 2) := by decide +kernel
theorem dX0_passOne_30 : decode cX0_passOne 30 = .ok (.invokestatic 56, 3) := by decide +kernel
theorem dX0_passOne_33 : decode cX0_passOne 33 = .ok (.return_, 1) := by decide +kernel
set_option maxRecDepth 20000 in
theorem ggX0_measure_X5_placeOf : GoodIn wsX0_measure wsX5_placeOf := goodIn_r _ [9] (by decide +kernel) (by decide +kernel)
set_option maxRecDepth 20000 in
theorem gX0_measure_X5_placeOf_n71 : GoodIn wsX0_measure (wsX5_placeOf) := ggX0_measure_X5_placeOf
set_option maxRecDepth 20000 in
theorem ggX0_measure_X5_readOf : GoodIn wsX0_measure wsX5_readOf := goodIn_r _ [11, 12] (by decide +kernel) (by decide +kernel)
set_option maxRecDepth 20000 in
theorem gX0_measure_X5_readOf_n111 : GoodIn wsX0_measure (wsX5_readOf) := ggX0_measure_X5_readOf
theorem dX0_measure_0 : decode cX0_measure 0 = .ok (.iload_n 1, 1) := by decide +kernel
theorem dX0_measure_1 : decode cX0_measure 1 = .ok (.iload_n 2, 1) := by decide +kernel
theorem dX0_measure_2 : decode cX0_measure 2 = .ok (.invokestatic 71, 3) := by decide +kernel
theorem dX0_measure_5 : decode cX0_measure 5 = .ok (.istore_n 3, 1) := by decide +kernel
theorem dX0_measure_6 : decode cX0_measure 6 = .ok (.iload_n 3, 1) := by decide +kernel
theorem dX0_measure_7 : decode cX0_measure 7 = .ok (.ifCond .ge 5, 3) := by decide +kernel
theorem dX0_measure_10 : decode cX0_measure 10 = .ok (.iconst (-1), 1) := by decide +kernel
theorem dX0_measure_11 : decode cX0_measure 11 = .ok (.ireturn, 1) := by decide +kernel
theorem dX0_measure_12 : decode cX0_measure 12 = .ok (.aload_n 0, 1) := by decide +kernel
theorem dX0_measure_13 : decode cX0_measure 13 = .ok (.getfield 41, 3) := by decide +kernel
theorem dX0_measure_16 : decode cX0_measure 16 = .ok (.bipush 8, 2) := by decide +kernel
theorem dX0_measure_18 : decode cX0_measure 18 = .ok (.if_icmp .lt 6, 3) := by decide +kernel
theorem dX0_measure_21 : decode cX0_measure 21 = .ok (.bipush (-4), 2) := by decide +kernel
theorem dX0_measure_23 : decode cX0_measure 23 = .ok (.ireturn, 1) := by decide +kernel
theorem dX0_measure_24 : decode cX0_measure 24 = .ok (.aload_n 0, 1) := by decide +kernel
theorem dX0_measure_25 : decode cX0_measure 25 = .ok (.getfield 34, 3) := by decide +kernel
theorem dX0_measure_28 : decode cX0_measure 28 = .ok (.iload_n 3, 1) := by decide +kernel
theorem dX0_measure_29 : decode cX0_measure 29 = .ok (.faload, 1) := by decide +kernel
theorem dX0_measure_30 : decode cX0_measure 30 = .ok (.invokestatic 111, 3) := by decide +kernel
theorem dX0_measure_33 : decode cX0_measure 33 = .ok (.istore 4, 2) := by decide +kernel
theorem dX0_measure_35 : decode cX0_measure 35 = .ok (.aload_n 0, 1) := by decide +kernel
theorem dX0_measure_36 : decode cX0_measure 36 = .ok (.getfield 44, 3) := by decide +kernel
theorem dX0_measure_39 : decode cX0_measure 39 = .ok (.aload_n 0, 1) := by decide +kernel
theorem dX0_measure_40 : decode cX0_measure 40 = .ok (.getfield 41, 3) := by decide +kernel
theorem dX0_measure_43 : decode cX0_measure 43 = .ok (.iload_n 3, 1) := by decide +kernel
theorem dX0_measure_44 : decode cX0_measure 44 = .ok (.iastore, 1) := by decide +kernel
theorem dX0_measure_45 : decode cX0_measure 45 = .ok (.aload_n 0, 1) := by decide +kernel
theorem dX0_measure_46 : decode cX0_measure 46 = .ok (.getfield 47, 3) := by decide +kernel
theorem dX0_measure_49 : decode cX0_measure 49 = .ok (.aload_n 0, 1) := by decide +kernel
theorem dX0_measure_50 : decode cX0_measure 50 = .ok (.getfield 41, 3) := by decide +kernel
theorem dX0_measure_53 : decode cX0_measure 53 = .ok (.iload 4, 2) := by decide +kernel
theorem dX0_measure_55 : decode cX0_measure 55 = .ok (.iastore, 1) := by decide +kernel
theorem dX0_measure_56 : decode cX0_measure 56 = .ok (.aload_n 0, 1) := by decide +kernel
theorem dX0_measure_57 : decode cX0_measure 57 = .ok (.getfield 50, 3) := by decide +kernel
theorem dX0_measure_60 : decode cX0_measure 60 = .ok (.aload_n 0, 1) := by decide +kernel
theorem dX0_measure_61 : decode cX0_measure 61 = .ok (.getfield 41, 3) := by decide +kernel
theorem dX0_measure_64 : decode cX0_measure 64 = .ok (.aload_n 0, 1) := by decide +kernel
theorem dX0_measure_65 : decode cX0_measure 65 = .ok (.getfield 31, 3) := by decide +kernel
theorem dX0_measure_68 : decode cX0_measure 68 = .ok (.iastore, 1) := by decide +kernel
theorem dX0_measure_69 : decode cX0_measure 69 = .ok (.aload_n 0, 1) := by decide +kernel
theorem dX0_measure_70 : decode cX0_measure 70 = .ok (.dup, 1) := by decide +kernel
theorem dX0_measure_71 : decode cX0_measure 71 = .ok (.getfield 41, 3) := by decide +kernel
theorem dX0_measure_74 : decode cX0_measure 74 = .ok (.iconst 1, 1) := by decide +kernel
theorem dX0_measure_75 : decode cX0_measure 75 = .ok (.iadd, 1) := by decide +kernel
theorem dX0_measure_76 : decode cX0_measure 76 = .ok (.putfield 41, 3) := by decide +kernel
theorem dX0_measure_79 : decode cX0_measure 79 = .ok (.iload 4, 2) := by decide +kernel
theorem dX0_measure_81 : decode cX0_measure 81 = .ok (.ireturn, 1) := by decide +kernel
theorem dX0_touchAt_0 : decode cX0_touchAt 0 = .ok (.iconst 0, 1) := by decide +kernel
theorem dX0_touchAt_1 : decode cX0_touchAt 1 = .ok (.istore_n 2, 1) := by decide +kernel
theorem dX0_touchAt_2 : decode cX0_touchAt 2 = .ok (.iload_n 2, 1) := by decide +kernel
theorem dX0_touchAt_3 : decode cX0_touchAt 3 = .ok (.aload_n 0, 1) := by decide +kernel
theorem dX0_touchAt_4 : decode cX0_touchAt 4 = .ok (.getfield 21, 3) := by decide +kernel
theorem dX0_touchAt_7 : decode cX0_touchAt 7 = .ok (.if_icmp .ge 21, 3) := by decide +kernel
theorem dX0_touchAt_10 : decode cX0_touchAt 10 = .ok (.aload_n 0, 1) := by decide +kernel
theorem dX0_touchAt_11 : decode cX0_touchAt 11 = .ok (.getfield 25, 3) := by decide +kernel
theorem dX0_touchAt_14 : decode cX0_touchAt 14 = .ok (.iload_n 2, 1) := by decide +kernel
theorem dX0_touchAt_15 : decode cX0_touchAt 15 = .ok (.iaload, 1) := by decide +kernel
theorem dX0_touchAt_16 : decode cX0_touchAt 16 = .ok (.iload_n 1, 1) := by decide +kernel
theorem dX0_touchAt_17 : decode cX0_touchAt 17 = .ok (.if_icmp .ne 5, 3) := by decide +kernel
theorem dX0_touchAt_20 : decode cX0_touchAt 20 = .ok (.iload_n 2, 1) := by decide +kernel
theorem dX0_touchAt_21 : decode cX0_touchAt 21 = .ok (.ireturn, 1) := by decide +kernel
theorem dX0_touchAt_22 : decode cX0_touchAt 22 = .ok (.iinc 2 1, 3) := by decide +kernel
theorem dX0_touchAt_25 : decode cX0_touchAt 25 = .ok (.goto (-23), 3) := by decide +kernel
theorem dX0_touchAt_28 : decode cX0_touchAt 28 = .ok (.bipush (-6), 2) := by decide +kernel
theorem dX0_touchAt_30 : decode cX0_touchAt 30 = .ok (.ireturn, 1) := by decide +kernel
set_option maxRecDepth 20000 in
theorem ggX0_isLive_X0_isFed : GoodIn wsX0_isLive wsX0_isFed := goodIn_r _ [8, 9, 10, 11, 12, 13, 14, 15, 16, 17, 18, 19, 20, 21, 22] (by decide +kernel) (by decide +kernel)
set_option maxRecDepth 20000 in
theorem gX0_isLive_X0_isFed : GoodIn wsX0_isLive (wsV RX0 96 RX0 yX0_isFed wsX0_isFed) := goodIn_app (goodIn_of _ (by decide +kernel)) ggX0_isLive_X0_isFed
theorem dX0_isLive_0 : decode cX0_isLive 0 = .ok (.aload_n 0, 1) := by decide +kernel
theorem dX0_isLive_1 : decode cX0_isLive 1 = .ok (.aload_n 0, 1) := by decide +kernel
theorem dX0_isLive_2 : decode cX0_isLive 2 = .ok (.getfield 15, 3) := by decide +kernel
theorem dX0_isLive_5 : decode cX0_isLive 5 = .ok (.aload_n 0, 1) := by decide +kernel
theorem dX0_isLive_6 : decode cX0_isLive 6 = .ok (.getfield 25, 3) := by decide +kernel
theorem dX0_isLive_9 : decode cX0_isLive 9 = .ok (.iload_n 1, 1) := by decide +kernel
theorem dX0_isLive_10 : decode cX0_isLive 10 = .ok (.iaload, 1) := by decide +kernel
theorem dX0_isLive_11 : decode cX0_isLive 11 = .ok (.iaload, 1) := by decide +kernel
theorem dX0_isLive_12 : decode cX0_isLive 12 = .ok (.aload_n 0, 1) := by decide +kernel
theorem dX0_isLive_13 : decode cX0_isLive 13 = .ok (.getfield 28, 3) := by decide +kernel
theorem dX0_isLive_16 : decode cX0_isLive 16 = .ok (.iload_n 1, 1) := by decide +kernel
theorem dX0_isLive_17 : decode cX0_isLive 17 = .ok (.iaload, 1) := by decide +kernel
theorem dX0_isLive_18 : decode cX0_isLive 18 = .ok (.invokevirtual 96, 3) := by decide +kernel
theorem dX0_isLive_21 : decode cX0_isLive 21 = .ok (.ireturn, 1) := by decide +kernel
set_option maxRecDepth 20000 in
theorem ggX0_heated_X0_isLive : GoodIn wsX0_heated wsX0_isLive := goodIn_r _ [7, 8, 2, 9, 10, 11, 12, 6, 13, 14, 15, 16, 17, 18, 19, 20, 21, 22, 23, 24, 25, 26, 27] (by decide +kernel) (by decide +kernel)
set_option maxRecDepth 20000 in
theorem gX0_heated_X0_isLive : GoodIn wsX0_heated (wsV RX0 115 RX0 yX0_isLive wsX0_isLive) := goodIn_app (goodIn_of _ (by decide +kernel)) ggX0_heated_X0_isLive
theorem dX0_heated_0 : decode cX0_heated 0 = .ok (.lconst 0, 1) := by decide +kernel
theorem dX0_heated_1 : decode cX0_heated 1 = .ok (.lstore_n 1, 1) := by decide +kernel
theorem dX0_heated_2 : decode cX0_heated 2 = .ok (.iconst 0, 1) := by decide +kernel
theorem dX0_heated_3 : decode cX0_heated 3 = .ok (.istore_n 3, 1) := by decide +kernel
theorem dX0_heated_4 : decode cX0_heated 4 = .ok (.iload_n 3, 1) := by decide +kernel
theorem dX0_heated_5 : decode cX0_heated 5 = .ok (.aload_n 0, 1) := by decide +kernel
theorem dX0_heated_6 : decode cX0_heated 6 = .ok (.getfield 21, 3) := by decide +kernel
theorem dX0_heated_9 : decode cX0_heated 9 = .ok (.if_icmp .ge 28, 3) := by decide +kernel
theorem dX0_heated_12 : decode cX0_heated 12 = .ok (.aload_n 0, 1) := by decide +kernel
theorem dX0_heated_13 : decode cX0_heated 13 = .ok (.iload_n 3, 1) := by decide +kernel
theorem dX0_heated_14 : decode cX0_heated 14 = .ok (.invokevirtual 115, 3) := by decide +kernel
theorem dX0_heated_17 : decode cX0_heated 17 = .ok (.ifCond .eq 14, 3) := by decide +kernel
theorem dX0_heated_20 : decode cX0_heated 20 = .ok (.lload_n 1, 1) := by decide +kernel
theorem dX0_heated_21 : decode cX0_heated 21 = .ok (.lconst 1, 1) := by decide +kernel
theorem dX0_heated_22 : decode cX0_heated 22 = .ok (.aload_n 0, 1) := by decide +kernel
theorem dX0_heated_23 : decode cX0_heated 23 = .ok (.getfield 25, 3) := by decide +kernel
theorem dX0_heated_26 : decode cX0_heated 26 = .ok (.iload_n 3, 1) := by decide +kernel
theorem dX0_heated_27 : decode cX0_heated 27 = .ok (.iaload, 1) := by decide +kernel
theorem dX0_heated_28 : decode cX0_heated 28 = .ok (.lshl, 1) := by decide +kernel
theorem dX0_heated_29 : decode cX0_heated 29 = .ok (.lor, 1) := by decide +kernel
theorem dX0_heated_30 : decode cX0_heated 30 = .ok (.lstore_n 1, 1) := by decide +kernel
theorem dX0_heated_31 : decode cX0_heated 31 = .ok (.iinc 3 1, 3) := by decide +kernel
theorem dX0_heated_34 : decode cX0_heated 34 = .ok (.goto (-30), 3) := by decide +kernel
theorem dX0_heated_37 : decode cX0_heated 37 = .ok (.lload_n 1, 1) := by decide +kernel
theorem dX0_heated_38 : decode cX0_heated 38 = .ok (.lreturn, 1) := by decide +kernel
theorem dX0_tracked_0 : decode cX0_tracked 0 = .ok (.lconst 0, 1) := by decide +kernel
theorem dX0_tracked_1 : decode cX0_tracked 1 = .ok (.lstore_n 1, 1) := by decide +kernel
theorem dX0_tracked_2 : decode cX0_tracked 2 = .ok (.iconst 0, 1) := by decide +kernel
theorem dX0_tracked_3 : decode cX0_tracked 3 = .ok (.istore_n 3, 1) := by decide +kernel
theorem dX0_tracked_4 : decode cX0_tracked 4 = .ok (.iload_n 3, 1) := by decide +kernel
theorem dX0_tracked_5 : decode cX0_tracked 5 = .ok (.bipush 64, 2) := by decide +kernel
theorem dX0_tracked_7 : decode cX0_tracked 7 = .ok (.if_icmp .ge 24, 3) := by decide +kernel
theorem dX0_tracked_10 : decode cX0_tracked 10 = .ok (.aload_n 0, 1) := by decide +kernel
theorem dX0_tracked_11 : decode cX0_tracked 11 = .ok (.getfield 15, 3) := by decide +kernel
theorem dX0_tracked_14 : decode cX0_tracked 14 = .ok (.iload_n 3, 1) := by decide +kernel
theorem dX0_tracked_15 : decode cX0_tracked 15 = .ok (.iaload, 1) := by decide +kernel
theorem dX0_tracked_16 : decode cX0_tracked 16 = .ok (.ifCond .eq 9, 3) := by decide +kernel
theorem dX0_tracked_19 : decode cX0_tracked 19 = .ok (.lload_n 1, 1) := by decide +kernel
theorem dX0_tracked_20 : decode cX0_tracked 20 = .ok (.lconst 1, 1) := by decide +kernel
theorem dX0_tracked_21 : decode cX0_tracked 21 = .ok (.iload_n 3, 1) := by decide +kernel
theorem dX0_tracked_22 : decode cX0_tracked 22 = .ok (.lshl, 1) := by decide +kernel
theorem dX0_tracked_23 : decode cX0_tracked 23 = .ok (.lor, 1) := by decide +kernel
theorem dX0_tracked_24 : decode cX0_tracked 24 = .ok (.lstore_n 1, 1) := by decide +kernel
theorem dX0_tracked_25 : decode cX0_tracked 25 = .ok (.iinc 3 1, 3) := by decide +kernel
theorem dX0_tracked_28 : decode cX0_tracked 28 = .ok (.goto (-24), 3) := by decide +kernel
theorem dX0_tracked_31 : decode cX0_tracked 31 = .ok (.lload_n 1, 1) := by decide +kernel
theorem dX0_tracked_32 : decode cX0_tracked 32 = .ok (.lreturn, 1) := by decide +kernel
set_option maxRecDepth 20000 in
theorem ggX0_suspects_X0_isSuspect : GoodIn wsX0_suspects wsX0_isSuspect := goodIn_r _ [5, 6, 7, 8, 9, 10, 11, 12, 4, 13, 14, 15, 16, 17, 18, 19, 20, 21, 22, 23, 24, 25, 26, 27] (by decide +kernel) (by decide +kernel)
set_option maxRecDepth 20000 in
theorem gX0_suspects_X0_isSuspect : GoodIn wsX0_suspects (wsV RX0 118 RX0 yX0_isSuspect wsX0_isSuspect) := goodIn_app (goodIn_of _ (by decide +kernel)) ggX0_suspects_X0_isSuspect
theorem dX0_suspects_0 : decode cX0_suspects 0 = .ok (.lconst 0, 1) := by decide +kernel
theorem dX0_suspects_1 : decode cX0_suspects 1 = .ok (.lstore_n 1, 1) := by decide +kernel
theorem dX0_suspects_2 : decode cX0_suspects 2 = .ok (.iconst 0, 1) := by decide +kernel
theorem dX0_suspects_3 : decode cX0_suspects 3 = .ok (.istore_n 3, 1) := by decide +kernel
theorem dX0_suspects_4 : decode cX0_suspects 4 = .ok (.iload_n 3, 1) := by decide +kernel
theorem dX0_suspects_5 : decode cX0_suspects 5 = .ok (.bipush 64, 2) := by decide +kernel
theorem dX0_suspects_7 : decode cX0_suspects 7 = .ok (.if_icmp .ge 23, 3) := by decide +kernel
theorem dX0_suspects_10 : decode cX0_suspects 10 = .ok (.aload_n 0, 1) := by decide +kernel
theorem dX0_suspects_11 : decode cX0_suspects 11 = .ok (.iload_n 3, 1) := by decide +kernel
theorem dX0_suspects_12 : decode cX0_suspects 12 = .ok (.invokevirtual 118, 3) := by decide +kernel
theorem dX0_suspects_15 : decode cX0_suspects 15 = .ok (.ifCond .eq 9, 3) := by decide +kernel
theorem dX0_suspects_18 : decode cX0_suspects 18 = .ok (.lload_n 1, 1) := by decide +kernel
theorem dX0_suspects_19 : decode cX0_suspects 19 = .ok (.lconst 1, 1) := by decide +kernel
theorem dX0_suspects_20 : decode cX0_suspects 20 = .ok (.iload_n 3, 1) := by decide +kernel
theorem dX0_suspects_21 : decode cX0_suspects 21 = .ok (.lshl, 1) := by decide +kernel
theorem dX0_suspects_22 : decode cX0_suspects 22 = .ok (.lor, 1) := by decide +kernel
theorem dX0_suspects_23 : decode cX0_suspects 23 = .ok (.lstore_n 1, 1) := by decide +kernel
theorem dX0_suspects_24 : decode cX0_suspects 24 = .ok (.iinc 3 1, 3) := by decide +kernel
theorem dX0_suspects_27 : decode cX0_suspects 27 = .ok (.goto (-23), 3) := by decide +kernel
theorem dX0_suspects_30 : decode cX0_suspects 30 = .ok (.lload_n 1, 1) := by decide +kernel
theorem dX0_suspects_31 : decode cX0_suspects 31 = .ok (.lreturn, 1) := by decide +kernel
set_option maxRecDepth 20000 in
theorem ggX0_isSuspect_X5_neighbourOf : GoodIn wsX0_isSuspect wsX5_neighbourOf := goodIn_r _ [4] (by decide +kernel) (by decide +kernel)
set_option maxRecDepth 20000 in
theorem gX0_isSuspect_X5_neighbourOf_n93 : GoodIn wsX0_isSuspect (wsX5_neighbourOf) := ggX0_isSuspect_X5_neighbourOf
set_option maxRecDepth 20000 in
theorem ggX0_isSuspect_X0_isFed : GoodIn wsX0_isSuspect wsX0_isFed := goodIn_r _ [9, 10, 11, 12, 13, 14, 15, 16, 17, 18, 19, 20, 21, 22, 23] (by decide +kernel) (by decide +kernel)
set_option maxRecDepth 20000 in
theorem gX0_isSuspect_X0_isFed : GoodIn wsX0_isSuspect (wsV RX0 96 RX0 yX0_isFed wsX0_isFed) := goodIn_app (goodIn_of _ (by decide +kernel)) ggX0_isSuspect_X0_isFed
theorem dX0_isSuspect_0 : decode cX0_isSuspect 0 = .ok (.iconst 0, 1) := by decide +kernel
theorem dX0_isSuspect_1 : decode cX0_isSuspect 1 = .ok (.istore_n 2, 1) := by decide +kernel
theorem dX0_isSuspect_2 : decode cX0_isSuspect 2 = .ok (.iload_n 2, 1) := by decide +kernel
theorem dX0_isSuspect_3 : decode cX0_isSuspect 3 = .ok (.iconst 4, 1) := by decide +kernel
theorem dX0_isSuspect_4 : decode cX0_isSuspect 4 = .ok (.if_icmp .ge 40, 3) := by decide +kernel
theorem dX0_isSuspect_7 : decode cX0_isSuspect 7 = .ok (.iload_n 1, 1) := by decide +kernel
theorem dX0_isSuspect_8 : decode cX0_isSuspect 8 = .ok (.iload_n 2, 1) := by decide +kernel
theorem dX0_isSuspect_9 : decode cX0_isSuspect 9 = .ok (.invokestatic 93, 3) := by decide +kernel
theorem dX0_isSuspect_12 : decode cX0_isSuspect 12 = .ok (.istore_n 3, 1) := by decide +kernel
theorem dX0_isSuspect_13 : decode cX0_isSuspect 13 = .ok (.iload_n 3, 1) := by decide +kernel
theorem dX0_isSuspect_14 : decode cX0_isSuspect 14 = .ok (.ifCond .lt 24, 3) := by decide +kernel
theorem dX0_isSuspect_17 : decode cX0_isSuspect 17 = .ok (.aload_n 0, 1) := by decide +kernel
theorem dX0_isSuspect_18 : decode cX0_isSuspect 18 = .ok (.aload_n 0, 1) := by decide +kernel
theorem dX0_isSuspect_19 : decode cX0_isSuspect 19 = .ok (.getfield 15, 3) := by decide +kernel
theorem dX0_isSuspect_22 : decode cX0_isSuspect 22 = .ok (.iload_n 1, 1) := by decide +kernel
theorem dX0_isSuspect_23 : decode cX0_isSuspect 23 = .ok (.iaload, 1) := by decide +kernel
theorem dX0_isSuspect_24 : decode cX0_isSuspect 24 = .ok (.aload_n 0, 1) := by decide +kernel
theorem dX0_isSuspect_25 : decode cX0_isSuspect 25 = .ok (.getfield 15, 3) := by decide +kernel
theorem dX0_isSuspect_28 : decode cX0_isSuspect 28 = .ok (.iload_n 3, 1) := by decide +kernel
theorem dX0_isSuspect_29 : decode cX0_isSuspect 29 = .ok (.iaload, 1) := by decide +kernel
theorem dX0_isSuspect_30 : decode cX0_isSuspect 30 = .ok (.invokevirtual 96, 3) := by decide +kernel
theorem dX0_isSuspect_33 : decode cX0_isSuspect 33 = .ok (.ifCond .eq 5, 3) := by decide +kernel
theorem dX0_isSuspect_36 : decode cX0_isSuspect 36 = .ok (.iconst 1, 1) := by decide +kernel
theorem dX0_isSuspect_37 : decode cX0_isSuspect 37 = .ok (.ireturn, 1) := by decide +kernel
theorem dX0_isSuspect_38 : decode cX0_isSuspect 38 = .ok (.iinc 2 1, 3) := by decide +kernel
theorem dX0_isSuspect_41 : decode cX0_isSuspect 41 = .ok (.goto (-39), 3) := by decide +kernel
theorem dX0_isSuspect_44 : decode cX0_isSuspect 44 = .ok (.iconst 0, 1) := by decide +kernel
theorem dX0_isSuspect_45 : decode cX0_isSuspect 45 = .ok (.ireturn, 1) := by decide +kernel
theorem dX0_placesOf_0 : decode cX0_placesOf 0 = .ok (.iconst 0, 1) := by decide +kernel
theorem dX0_placesOf_1 : decode cX0_placesOf 1 = .ok (.istore_n 2, 1) := by decide +kernel
theorem dX0_placesOf_2 : decode cX0_placesOf 2 = .ok (.iconst 0, 1) := by decide +kernel
theorem dX0_placesOf_3 : decode cX0_placesOf 3 = .ok (.istore_n 3, 1) := by decide +kernel
theorem dX0_placesOf_4 : decode cX0_placesOf 4 = .ok (.iload_n 3, 1) := by decide +kernel
theorem dX0_placesOf_5 : decode cX0_placesOf 5 = .ok (.bipush 64, 2) := by decide +kernel
theorem dX0_placesOf_7 : decode cX0_placesOf 7 = .ok (.if_icmp .ge 22, 3) := by decide +kernel
theorem dX0_placesOf_10 : decode cX0_placesOf 10 = .ok (.aload_n 0, 1) := by decide +kernel
theorem dX0_placesOf_11 : decode cX0_placesOf 11 = .ok (.getfield 15, 3) := by decide +kernel
theorem dX0_placesOf_14 : decode cX0_placesOf 14 = .ok (.iload_n 3, 1) := by decide +kernel
theorem dX0_placesOf_15 : decode cX0_placesOf 15 = .ok (.iaload, 1) := by decide +kernel
theorem dX0_placesOf_16 : decode cX0_placesOf 16 = .ok (.iload_n 1, 1) := by decide +kernel
theorem dX0_placesOf_17 : decode cX0_placesOf 17 = .ok (.if_icmp .ne 6, 3) := by decide +kernel
theorem dX0_placesOf_20 : decode cX0_placesOf 20 = .ok (.iinc 2 1, 3) := by decide +kernel
theorem dX0_placesOf_23 : decode cX0_placesOf 23 = .ok (.iinc 3 1, 3) := by decide +kernel
theorem dX0_placesOf_26 : decode cX0_placesOf 26 = .ok (.goto (-22), 3) := by decide +kernel
theorem dX0_placesOf_29 : decode cX0_placesOf 29 = .ok (.iload_n 2, 1) := by decide +kernel
theorem dX0_placesOf_30 : decode cX0_placesOf 30 = .ok (.ireturn, 1) := by decide +kernel
theorem dX0_warmthOf_0 : decode cX0_warmthOf 0 = .ok (.fconst 0, 1) := by decide +kernel
theorem dX0_warmthOf_1 : decode cX0_warmthOf 1 = .ok (.fstore_n 2, 1) := by decide +kernel
theorem dX0_warmthOf_2 : decode cX0_warmthOf 2 = .ok (.iconst 0, 1) := by decide +kernel
theorem dX0_warmthOf_3 : decode cX0_warmthOf 3 = .ok (.istore_n 3, 1) := by decide +kernel
theorem dX0_warmthOf_4 : decode cX0_warmthOf 4 = .ok (.iload_n 3, 1) := by decide +kernel
theorem dX0_warmthOf_5 : decode cX0_warmthOf 5 = .ok (.bipush 64, 2) := by decide +kernel
theorem dX0_warmthOf_7 : decode cX0_warmthOf 7 = .ok (.if_icmp .ge 28, 3) := by decide +kernel
theorem dX0_warmthOf_10 : decode cX0_warmthOf 10 = .ok (.aload_n 0, 1) := by decide +kernel
theorem dX0_warmthOf_11 : decode cX0_warmthOf 11 = .ok (.getfield 15, 3) := by decide +kernel
theorem dX0_warmthOf_14 : decode cX0_warmthOf 14 = .ok (.iload_n 3, 1) := by decide +kernel
theorem dX0_warmthOf_15 : decode cX0_warmthOf 15 = .ok (.iaload, 1) := by decide +kernel
theorem dX0_warmthOf_16 : decode cX0_warmthOf 16 = .ok (.iload_n 1, 1) := by decide +kernel
theorem dX0_warmthOf_17 : decode cX0_warmthOf 17 = .ok (.if_icmp .ne 12, 3) := by decide +kernel
theorem dX0_warmthOf_20 : decode cX0_warmthOf 20 = .ok (.fload_n 2, 1) := by decide +kernel
theorem dX0_warmthOf_21 : decode cX0_warmthOf 21 = .ok (.aload_n 0, 1) := by decide +kernel
theorem dX0_warmthOf_22 : decode cX0_warmthOf 22 = .ok (.getfield 34, 3) := by decide +kernel
theorem dX0_warmthOf_25 : decode cX0_warmthOf 25 = .ok (.iload_n 3, 1) := by decide +kernel
theorem dX0_warmthOf_26 : decode cX0_warmthOf 26 = .ok (.faload, 1) := by decide +kernel
theorem dX0_warmthOf_27 : decode cX0_warmthOf 27 = .ok (.fadd, 1) := by decide +kernel
theorem dX0_warmthOf_28 : decode cX0_warmthOf 28 = .ok (.fstore_n 2, 1) := by decide +kernel
theorem dX0_warmthOf_29 : decode cX0_warmthOf 29 = .ok (.iinc 3 1, 3) := by decide +kernel
theorem dX0_warmthOf_32 : decode cX0_warmthOf 32 = .ok (.goto (-28), 3) := by decide +kernel
theorem dX0_warmthOf_35 : decode cX0_warmthOf 35 = .ok (.fload_n 2, 1) := by decide +kernel
theorem dX0_warmthOf_36 : decode cX0_warmthOf 36 = .ok (.freturn, 1) := by decide +kernel
theorem dX0_warmest_0 : decode cX0_warmest 0 = .ok (.iconst 0, 1) := by decide +kernel
theorem dX0_warmest_1 : decode cX0_warmest 1 = .ok (.istore_n 1, 1) := by decide +kernel
theorem dX0_warmest_2 : decode cX0_warmest 2 = .ok (.iconst 1, 1) := by decide +kernel
theorem dX0_warmest_3 : decode cX0_warmest 3 = .ok (.istore_n 2, 1) := by decide +kernel
theorem dX0_warmest_4 : decode cX0_warmest 4 = .ok (.iload_n 2, 1) := by decide +kernel
theorem dX0_warmest_5 : decode cX0_warmest 5 = .ok (.bipush 64, 2) := by decide +kernel
theorem dX0_warmest_7 : decode cX0_warmest 7 = .ok (.if_icmp .ge 27, 3) := by decide +kernel
theorem dX0_warmest_10 : decode cX0_warmest 10 = .ok (.aload_n 0, 1) := by decide +kernel
theorem dX0_warmest_11 : decode cX0_warmest 11 = .ok (.getfield 34, 3) := by decide +kernel
theorem dX0_warmest_14 : decode cX0_warmest 14 = .ok (.iload_n 2, 1) := by decide +kernel
theorem dX0_warmest_15 : decode cX0_warmest 15 = .ok (.faload, 1) := by decide +kernel
theorem dX0_warmest_16 : decode cX0_warmest 16 = .ok (.aload_n 0, 1) := by decide +kernel
theorem dX0_warmest_17 : decode cX0_warmest 17 = .ok (.getfield 34, 3) := by decide +kernel
theorem dX0_warmest_20 : decode cX0_warmest 20 = .ok (.iload_n 1, 1) := by decide +kernel
theorem dX0_warmest_21 : decode cX0_warmest 21 = .ok (.faload, 1) := by decide +kernel
theorem dX0_warmest_22 : decode cX0_warmest 22 = .ok (.fcmp .l, 1) := by decide +kernel
theorem dX0_warmest_23 : decode cX0_warmest 23 = .ok (.ifCond .le 5, 3) := by decide +kernel
theorem dX0_warmest_26 : decode cX0_warmest 26 = .ok (.iload_n 2, 1) := by decide +kernel
theorem dX0_warmest_27 : decode cX0_warmest 27 = .ok (.istore_n 1, 1) := by decide +kernel
theorem dX0_warmest_28 : decode cX0_warmest 28 = .ok (.iinc 2 1, 3) := by decide +kernel
theorem dX0_warmest_31 : decode cX0_warmest 31 = .ok (.goto (-27), 3) := by decide +kernel
theorem dX0_warmest_34 : decode cX0_warmest 34 = .ok (.iload_n 1, 1) := by decide +kernel
theorem dX0_warmest_35 : decode cX0_warmest 35 = .ok (.ireturn, 1) := by decide +kernel
theorem dX1_init_0 : decode cX1_init 0 = .ok (.aload_n 0, 1) := by decide +kernel
theorem dX1_init_1 : decode cX1_init 1 = .ok (.invokespecial 3, 3) := by decide +kernel
theorem dX1_init_4 : decode cX1_init 4 = .ok (.aload_n 0, 1) := by decide +kernel
theorem dX1_init_5 : decode cX1_init 5 = .ok (.iconst 4, 1) := by decide +kernel
theorem dX1_init_6 : decode cX1_init 6 = .ok (.newarray .int, 2) := by decide +kernel
theorem dX1_init_8 : decode cX1_init 8 = .ok (.putfield 9, 3) := by decide +kernel
theorem dX1_init_11 : decode cX1_init 11 = .ok (.aload_n 0, 1) := by decide +kernel
theorem dX1_init_12 : decode cX1_init 12 = .ok (.bipush 64, 2) := by decide +kernel
theorem dX1_init_14 : decode cX1_init 14 = .ok (.anewarray 15, 3) := by decide +kernel
theorem dX1_init_17 : decode cX1_init 17 = .ok (.putfield 17, 3) := by decide +kernel
theorem dX1_init_20 : decode cX1_init 20 = .ok (.aload_n 0, 1) := by decide +kernel
theorem dX1_init_21 : decode cX1_init 21 = .ok (.bipush 64, 2) := by decide +kernel
theorem dX1_init_23 : decode cX1_init 23 = .ok (.newarray .int, 2) := by decide +kernel
theorem dX1_init_25 : decode cX1_init 25 = .ok (.putfield 21, 3) := by decide +kernel
theorem dX1_init_28 : decode cX1_init 28 = .ok (.return_, 1) := by decide +kernel
theorem dX1_follow_0 : decode cX1_follow 0 = .ok (.aload_n 0, 1) := by decide +kernel
theorem dX1_follow_1 : decode cX1_follow 1 = .ok (.getfield 9, 3) := by decide +kernel
theorem dX1_follow_4 : decode cX1_follow 4 = .ok (.iconst 0, 1) := by decide +kernel
theorem dX1_follow_5 : decode cX1_follow 5 = .ok (.iaload, 1) := by decide +kernel
theorem dX1_follow_6 : decode cX1_follow 6 = .ok (.aload_n 1, 1) := by decide +kernel
theorem dX1_follow_7 : decode cX1_follow 7 = .ok (.iconst 0, 1) := by decide +kernel
theorem dX1_follow_8 : decode cX1_follow 8 = .ok (.iaload, 1) := by decide +kernel
theorem dX1_follow_9 : decode cX1_follow 9 = .ok (.if_icmp .ne 28, 3) := by decide +kernel
theorem dX1_follow_12 : decode cX1_follow 12 = .ok (.aload_n 0, 1) := by decide +kernel
theorem dX1_follow_13 : decode cX1_follow 13 = .ok (.getfield 9, 3) := by decide +kernel
theorem dX1_follow_16 : decode cX1_follow 16 = .ok (.iconst 1, 1) := by decide +kernel
theorem dX1_follow_17 : decode cX1_follow 17 = .ok (.iaload, 1) := by decide +kernel
theorem dX1_follow_18 : decode cX1_follow 18 = .ok (.aload_n 1, 1) := by decide +kernel
theorem dX1_follow_19 : decode cX1_follow 19 = .ok (.iconst 1, 1) := by decide +kernel
theorem dX1_follow_20 : decode cX1_follow 20 = .ok (.iaload, 1) := by decide +kernel
theorem dX1_follow_21 : decode cX1_follow 21 = .ok (.if_icmp .ne 16, 3) := by decide +kernel
theorem dX1_follow_24 : decode cX1_follow 24 = .ok (.aload_n 0, 1) := by decide +kernel
theorem dX1_follow_25 : decode cX1_follow 25 = .ok (.getfield 9, 3) := by decide +kernel
theorem dX1_follow_28 : decode cX1_follow 28 = .ok (.iconst 2, 1) := by decide +kernel
theorem dX1_follow_29 : decode cX1_follow 29 = .ok (.iaload, 1) := by decide +kernel
theorem dX1_follow_30 : decode cX1_follow 30 = .ok (.aload_n 1, 1) := by decide +kernel
theorem dX1_follow_31 : decode cX1_follow 31 = .ok (.iconst 2, 1) := by decide +kernel
theorem dX1_follow_32 : decode cX1_follow 32 = .ok (.iaload, 1) := by decide +kernel
theorem dX1_follow_33 : decode cX1_follow 33 = .ok (.if_icmp .ne 4, 3) := by decide +kernel
theorem dX1_follow_36 : decode cX1_follow 36 = .ok (.return_, 1) := by decide +kernel
theorem dX1_follow_37 : decode cX1_follow 37 = .ok (.aload_n 1, 1) := by decide +kernel
theorem dX1_follow_38 : decode cX1_follow 38 = .ok (.iconst 0, 1) := by decide +kernel
theorem dX1_follow_39 : decode cX1_follow 39 = .ok (.aload_n 0, 1) := by decide +kernel
theorem dX1_follow_40 : decode cX1_follow 40 = .ok (.getfield 9, 3) := by decide +kernel
theorem dX1_follow_43 : decode cX1_follow 43 = .ok (.iconst 0, 1) := by decide +kernel
theorem dX1_follow_44 : decode cX1_follow 44 = .ok (.iconst 4, 1) := by decide +kernel
theorem dX1_follow_45 : decode cX1_follow 45 = .ok (.invokestatic 24, 3) := by decide +kernel
theorem dX1_follow_48 : decode cX1_follow 48 = .ok (.iconst 0, 1) := by decide +kernel
theorem dX1_follow_49 : decode cX1_follow 49 = .ok (.istore_n 2, 1) := by decide +kernel
theorem dX1_follow_50 : decode cX1_follow 50 = .ok (.iload_n 2, 1) := by decide +kernel
theorem dX1_follow_51 : decode cX1_follow 51 = .ok (.bipush 64, 2) := by decide +kernel
theorem dX1_follow_53 : decode cX1_follow 53 = .ok (.if_icmp .ge 16, 3) := by decide +kernel
theorem dX1_follow_56 : decode cX1_follow 56 = .ok (.aload_n 0, 1) := by decide +kernel
theorem dX1_follow_57 : decode cX1_follow 57 = .ok (.getfield 21, 3) := by decide +kernel
theorem dX1_follow_60 : decode cX1_follow 60 = .ok (.iload_n 2, 1) := by decide +kernel
theorem dX1_follow_61 : decode cX1_follow 61 = .ok (.iconst 0, 1) := by decide +kernel
theorem dX1_follow_62 : decode cX1_follow 62 = .ok (.iastore, 1) := by decide +kernel
theorem dX1_follow_63 : decode cX1_follow 63 = .ok (.iinc 2 1, 3) := by decide +kernel
theorem dX1_follow_66 : decode cX1_follow 66 = .ok (.goto (-16), 3) := by decide +kernel
theorem dX1_follow_69 : decode cX1_follow 69 = .ok (.return_, 1) := by decide +kernel
set_option maxRecDepth 20000 in
theorem ggX1_warmthBy_X5_step : GoodIn wsX1_warmthBy wsX5_step := goodIn_r _ [7, 8, 9, 10, 6, 11] (by decide +kernel) (by decide +kernel)
set_option maxRecDepth 20000 in
theorem gX1_warmthBy_X5_step_n30 : GoodIn wsX1_warmthBy (wsX5_step) := ggX1_warmthBy_X5_step
theorem dX1_warmthBy_0 : decode cX1_warmthBy 0 = .ok (.aload_n 0, 1) := by decide +kernel
theorem dX1_warmthBy_1 : decode cX1_warmthBy 1 = .ok (.getfield 17, 3) := by decide +kernel
theorem dX1_warmthBy_4 : decode cX1_warmthBy 4 = .ok (.iload_n 1, 1) := by decide +kernel
theorem dX1_warmthBy_5 : decode cX1_warmthBy 5 = .ok (.aaload, 1) := by decide +kernel
theorem dX1_warmthBy_6 : decode cX1_warmthBy 6 = .ok (.ifnonnull 14, 3) := by decide +kernel
theorem dX1_warmthBy_9 : decode cX1_warmthBy 9 = .ok (.aload_n 0, 1) := by decide +kernel
theorem dX1_warmthBy_10 : decode cX1_warmthBy 10 = .ok (.getfield 17, 3) := by decide +kernel
theorem dX1_warmthBy_13 : decode cX1_warmthBy 13 = .ok (.iload_n 1, 1) := by decide +kernel
theorem dX1_warmthBy_14 : decode cX1_warmthBy 14 = .ok (.sipush 6464, 3) := by decide +kernel
theorem dX1_warmthBy_17 : decode cX1_warmthBy 17 = .ok (.newarray .float, 2) := by decide +kernel
theorem dX1_warmthBy_19 : decode cX1_warmthBy 19 = .ok (.aastore, 1) := by decide +kernel
theorem dX1_warmthBy_20 : decode cX1_warmthBy 20 = .ok (.aload_n 0, 1) := by decide +kernel
theorem dX1_warmthBy_21 : decode cX1_warmthBy 21 = .ok (.getfield 17, 3) := by decide +kernel
theorem dX1_warmthBy_24 : decode cX1_warmthBy 24 = .ok (.iload_n 1, 1) := by decide +kernel
theorem dX1_warmthBy_25 : decode cX1_warmthBy 25 = .ok (.aaload, 1) := by decide +kernel
theorem dX1_warmthBy_26 : decode cX1_warmthBy 26 = .ok (.astore 4, 2) := by decide +kernel
theorem dX1_warmthBy_28 : decode cX1_warmthBy 28 = .ok (.aload_n 0, 1) := by decide +kernel
theorem dX1_warmthBy_29 : decode cX1_warmthBy 29 = .ok (.getfield 21, 3) := by decide +kernel
theorem dX1_warmthBy_32 : decode cX1_warmthBy 32 = .ok (.iload_n 1, 1) := by decide +kernel
theorem dX1_warmthBy_33 : decode cX1_warmthBy 33 = .ok (.iaload, 1) := by decide +kernel
theorem dX1_warmthBy_34 : decode cX1_warmthBy 34 = .ok (.istore 5, 2) := by decide +kernel
theorem dX1_warmthBy_36 : decode cX1_warmthBy 36 = .ok (.iload 5, 2) := by decide +kernel
theorem dX1_warmthBy_38 : decode cX1_warmthBy 38 = .ok (.iload_n 2, 1) := by decide +kernel
theorem dX1_warmthBy_39 : decode cX1_warmthBy 39 = .ok (.if_icmp .ge 52, 3) := by decide +kernel
theorem dX1_warmthBy_42 : decode cX1_warmthBy 42 = .ok (.iload 5, 2) := by decide +kernel
theorem dX1_warmthBy_44 : decode cX1_warmthBy 44 = .ok (.bipush 100, 2) := by decide +kernel
theorem dX1_warmthBy_46 : decode cX1_warmthBy 46 = .ok (.if_icmp .ge 45, 3) := by decide +kernel
theorem dX1_warmthBy_49 : decode cX1_warmthBy 49 = .ok (.aload 4, 2) := by decide +kernel
theorem dX1_warmthBy_51 : decode cX1_warmthBy 51 = .ok (.iload 5, 2) := by decide +kernel
theorem dX1_warmthBy_53 : decode cX1_warmthBy 53 = .ok (.bipush 64, 2) := by decide +kernel
theorem dX1_warmthBy_55 : decode cX1_warmthBy 55 = .ok (.imul, 1) := by decide +kernel
theorem dX1_warmthBy_56 : decode cX1_warmthBy 56 = .ok (.aload 4, 2) := by decide +kernel
theorem dX1_warmthBy_58 : decode cX1_warmthBy 58 = .ok (.iload 5, 2) := by decide +kernel
theorem dX1_warmthBy_60 : decode cX1_warmthBy 60 = .ok (.iconst 1, 1) := by decide +kernel
theorem dX1_warmthBy_61 : decode cX1_warmthBy 61 = .ok (.iadd, 1) := by decide +kernel
theorem dX1_warmthBy_62 : decode cX1_warmthBy 62 = .ok (.bipush 64, 2) := by decide +kernel
theorem dX1_warmthBy_64 : decode cX1_warmthBy 64 = .ok (.imul, 1) := by decide +kernel
theorem dX1_warmthBy_65 : decode cX1_warmthBy 65 = .ok (.lconst 1, 1) := by decide +kernel
theorem dX1_warmthBy_66 : decode cX1_warmthBy 66 = .ok (.iload_n 1, 1) := by decide +kernel
theorem dX1_warmthBy_67 : decode cX1_warmthBy 67 = .ok (.lshl, 1) := by decide +kernel
theorem dX1_warmthBy_68 : decode cX1_warmthBy 68 = .ok (.aload_n 0, 1) := by decide +kernel
theorem dX1_warmthBy_69 : decode cX1_warmthBy 69 = .ok (.getfield 9, 3) := by decide +kernel
theorem dX1_warmthBy_72 : decode cX1_warmthBy 72 = .ok (.invokestatic 30, 3) := by decide +kernel
theorem dX1_warmthBy_75 : decode cX1_warmthBy 75 = .ok (.aload_n 0, 1) := by decide +kernel
theorem dX1_warmthBy_76 : decode cX1_warmthBy 76 = .ok (.getfield 21, 3) := by decide +kernel
theorem dX1_warmthBy_79 : decode cX1_warmthBy 79 = .ok (.iload_n 1, 1) := by decide +kernel
theorem dX1_warmthBy_80 : decode cX1_warmthBy 80 = .ok (.iload 5, 2) := by decide +kernel
theorem dX1_warmthBy_82 : decode cX1_warmthBy 82 = .ok (.iconst 1, 1) := by decide +kernel
theorem dX1_warmthBy_83 : decode cX1_warmthBy 83 = .ok (.iadd, 1) := by decide +kernel
theorem dX1_warmthBy_84 : decode cX1_warmthBy 84 = .ok (.iastore, 1) := by decide +kernel
theorem dX1_warmthBy_85 : decode cX1_warmthBy 85 = .ok (.iinc 5 1, 3) := by decide +kernel
theorem dX1_warmthBy_88 : decode cX1_warmthBy 88 = .ok (.goto (-52), 3) := by decide +kernel
theorem dX1_warmthBy_91 : decode cX1_warmthBy 91 = .ok (.aload 4, 2) := by decide +kernel
theorem dX1_warmthBy_93 : decode cX1_warmthBy 93 = .ok (.iload_n 2, 1) := by decide +kernel
theorem dX1_warmthBy_94 : decode cX1_warmthBy 94 = .ok (.bipush 64, 2) := by decide +kernel
theorem dX1_warmthBy_96 : decode cX1_warmthBy 96 = .ok (.imul, 1) := by decide +kernel
theorem dX1_warmthBy_97 : decode cX1_warmthBy 97 = .ok (.iload_n 3, 1) := by decide +kernel
theorem dX1_warmthBy_98 : decode cX1_warmthBy 98 = .ok (.iadd, 1) := by decide +kernel
theorem dX1_warmthBy_99 : decode cX1_warmthBy 99 = .ok (.faload, 1) := by decide +kernel
theorem dX1_warmthBy_100 : decode cX1_warmthBy 100 = .ok (.freturn, 1) := by decide +kernel
theorem dX2_init_0 : decode cX2_init 0 = .ok (.aload_n 0, 1) := by decide +kernel
theorem dX2_init_1 : decode cX2_init 1 = .ok (.invokespecial 3, 3) := by decide +kernel
theorem dX2_init_4 : decode cX2_init 4 = .ok (.aload_n 0, 1) := by decide +kernel
theorem dX2_init_5 : decode cX2_init 5 = .ok (.bipush 80, 2) := by decide +kernel
theorem dX2_init_7 : decode cX2_init 7 = .ok (.newarray .int, 2) := by decide +kernel
theorem dX2_init_9 : decode cX2_init 9 = .ok (.putfield 9, 3) := by decide +kernel
theorem dX2_init_12 : decode cX2_init 12 = .ok (.aload_n 0, 1) := by decide +kernel
theorem dX2_init_13 : decode cX2_init 13 = .ok (.iconst 0, 1) := by decide +kernel
theorem dX2_init_14 : decode cX2_init 14 = .ok (.putfield 15, 3) := by decide +kernel
theorem dX2_init_17 : decode cX2_init 17 = .ok (.return_, 1) := by decide +kernel
set_option maxRecDepth 20000 in
theorem ggX3_init_X0_init : GoodIn wsX3_init wsX0_init := goodIn_r _ [10, 11, 2, 3, 12, 13, 14, 15, 16, 17, 18, 19, 20, 21, 22, 23, 24, 25, 26, 27, 28, 29, 30, 33, 34, 35, 36, 37, 38, 39, 40, 41, 42, 43, 44, 45] (by decide +kernel) (by decide +kernel)
set_option maxRecDepth 20000 in
theorem gX3_init_X0_init_n21 : GoodIn wsX3_init (wsX0_init) := ggX3_init_X0_init
theorem dX3_init_0 : decode cX3_init 0 = .ok (.aload_n 0, 1) := by decide +kernel
theorem dX3_init_1 : decode cX3_init 1 = .ok (.invokespecial 3, 3) := by decide +kernel
theorem dX3_init_4 : decode cX3_init 4 = .ok (.aload_n 0, 1) := by decide +kernel
theorem dX3_init_5 : decode cX3_init 5 = .ok (.bipush 7, 2) := by decide +kernel
theorem dX3_init_7 : decode cX3_init 7 = .ok (.anewarray 9, 3) := by decide +kernel
theorem dX3_init_10 : decode cX3_init 10 = .ok (.putfield 11, 3) := by decide +kernel
theorem dX3_init_13 : decode cX3_init 13 = .ok (.aload_n 0, 1) := by decide +kernel
theorem dX3_init_14 : decode cX3_init 14 = .ok (.iconst 0, 1) := by decide +kernel
theorem dX3_init_15 : decode cX3_init 15 = .ok (.putfield 17, 3) := by decide +kernel
theorem dX3_init_18 : decode cX3_init 18 = .ok (.iconst 0, 1) := by decide +kernel
theorem dX3_init_19 : decode cX3_init 19 = .ok (.istore_n 1, 1) := by decide +kernel
theorem dX3_init_20 : decode cX3_init 20 = .ok (.iload_n 1, 1) := by decide +kernel
theorem dX3_init_21 : decode cX3_init 21 = .ok (.bipush 6, 2) := by decide +kernel
theorem dX3_init_23 : decode cX3_init 23 = .ok (.if_icmp .gt 22, 3) := by decide +kernel
theorem dX3_init_26 : decode cX3_init 26 = .ok (.aload_n 0, 1) := by decide +kernel
theorem dX3_init_27 : decode cX3_init 27 = .ok (.getfield 11, 3) := by decide +kernel
theorem dX3_init_30 : decode cX3_init 30 = .ok (.iload_n 1, 1) := by decide +kernel
theorem dX3_init_31 : decode cX3_init 31 = .ok (.new 9, 3) := by decide +kernel
theorem dX3_init_34 : decode cX3_init 34 = .ok (.dup, 1) := by decide +kernel
theorem dX3_init_35 : decode cX3_init 35 = .ok (.invokespecial 21, 3) := by decide +kernel
theorem dX3_init_38 : decode cX3_init 38 = .ok (.aastore, 1) := by decide +kernel
theorem dX3_init_39 : decode cX3_init 39 = .ok (.iinc 1 1, 3) := by decide +kernel
theorem dX3_init_42 : decode cX3_init 42 = .ok (.goto (-22), 3) := by decide +kernel
theorem dX3_init_45 : decode cX3_init 45 = .ok (.return_, 1) := by decide +kernel
set_option maxRecDepth 20000 in
theorem ggX3_prepare_X0_takeOver : GoodIn wsX3_prepare wsX0_takeOver := goodIn_r _ [6, 7, 8, 9, 10, 11, 12, 13, 14, 15, 16, 17, 18, 19, 20, 21, 22, 25, 26, 27, 28, 29, 30, 31, 32, 33, 34, 35, 36, 37] (by decide +kernel) (by decide +kernel)
set_option maxRecDepth 20000 in
theorem gX3_prepare_X0_takeOver_n22 : GoodIn wsX3_prepare (wsX0_takeOver) := ggX3_prepare_X0_takeOver
theorem dX3_prepare_0 : decode cX3_prepare 0 = .ok (.aload_n 0, 1) := by decide +kernel
theorem dX3_prepare_1 : decode cX3_prepare 1 = .ok (.getfield 11, 3) := by decide +kernel
theorem dX3_prepare_4 : decode cX3_prepare 4 = .ok (.aload_n 0, 1) := by decide +kernel
theorem dX3_prepare_5 : decode cX3_prepare 5 = .ok (.getfield 17, 3) := by decide +kernel
theorem dX3_prepare_8 : decode cX3_prepare 8 = .ok (.aaload, 1) := by decide +kernel
theorem dX3_prepare_9 : decode cX3_prepare 9 = .ok (.aload_n 1, 1) := by decide +kernel
theorem dX3_prepare_10 : decode cX3_prepare 10 = .ok (.invokevirtual 22, 3) := by decide +kernel
theorem dX3_prepare_13 : decode cX3_prepare 13 = .ok (.return_, 1) := by decide +kernel
theorem dX3_kept_0 : decode cX3_kept 0 = .ok (.iload_n 1, 1) := by decide +kernel
theorem dX3_kept_1 : decode cX3_kept 1 = .ok (.ifCond .ge 5, 3) := by decide +kernel
theorem dX3_kept_4 : decode cX3_kept 4 = .ok (.iload_n 1, 1) := by decide +kernel
theorem dX3_kept_5 : decode cX3_kept 5 = .ok (.ireturn, 1) := by decide +kernel
theorem dX3_kept_6 : decode cX3_kept 6 = .ok (.aload_n 0, 1) := by decide +kernel
theorem dX3_kept_7 : decode cX3_kept 7 = .ok (.getfield 17, 3) := by decide +kernel
theorem dX3_kept_10 : decode cX3_kept 10 = .ok (.bipush 6, 2) := by decide +kernel
theorem dX3_kept_12 : decode cX3_kept 12 = .ok (.if_icmp .ge 15, 3) := by decide +kernel
theorem dX3_kept_15 : decode cX3_kept 15 = .ok (.aload_n 0, 1) := by decide +kernel
theorem dX3_kept_16 : decode cX3_kept 16 = .ok (.dup, 1) := by decide +kernel
theorem dX3_kept_17 : decode cX3_kept 17 = .ok (.getfield 17, 3) := by decide +kernel
theorem dX3_kept_20 : decode cX3_kept 20 = .ok (.iconst 1, 1) := by decide +kernel
theorem dX3_kept_21 : decode cX3_kept 21 = .ok (.iadd, 1) := by decide +kernel
theorem dX3_kept_22 : decode cX3_kept 22 = .ok (.putfield 17, 3) := by decide +kernel
theorem dX3_kept_25 : decode cX3_kept 25 = .ok (.iload_n 1, 1) := by decide +kernel
theorem dX3_kept_26 : decode cX3_kept 26 = .ok (.ireturn, 1) := by decide +kernel
theorem dX3_kept_27 : decode cX3_kept 27 = .ok (.aload_n 0, 1) := by decide +kernel
theorem dX3_kept_28 : decode cX3_kept 28 = .ok (.getfield 11, 3) := by decide +kernel
theorem dX3_kept_31 : decode cX3_kept 31 = .ok (.iconst 0, 1) := by decide +kernel
theorem dX3_kept_32 : decode cX3_kept 32 = .ok (.aaload, 1) := by decide +kernel
theorem dX3_kept_33 : decode cX3_kept 33 = .ok (.astore_n 2, 1) := by decide +kernel
theorem dX3_kept_34 : decode cX3_kept 34 = .ok (.iconst 0, 1) := by decide +kernel
theorem dX3_kept_35 : decode cX3_kept 35 = .ok (.istore_n 3, 1) := by decide +kernel
theorem dX3_kept_36 : decode cX3_kept 36 = .ok (.iload_n 3, 1) := by decide +kernel
theorem dX3_kept_37 : decode cX3_kept 37 = .ok (.bipush 6, 2) := by decide +kernel
theorem dX3_kept_39 : decode cX3_kept 39 = .ok (.if_icmp .ge 23, 3) := by decide +kernel
theorem dX3_kept_42 : decode cX3_kept 42 = .ok (.aload_n 0, 1) := by decide +kernel
theorem dX3_kept_43 : decode cX3_kept 43 = .ok (.getfield 11, 3) := by decide +kernel
theorem dX3_kept_46 : decode cX3_kept 46 = .ok (.iload_n 3, 1) := by decide +kernel
theorem dX3_kept_47 : decode cX3_kept 47 = .ok (.aload_n 0, 1) := by decide +kernel
theorem dX3_kept_48 : decode cX3_kept 48 = .ok (.getfield 11, 3) := by decide +kernel
theorem dX3_kept_51 : decode cX3_kept 51 = .ok (.iload_n 3, 1) := by decide +kernel
theorem dX3_kept_52 : decode cX3_kept 52 = .ok (.iconst 1, 1) := by decide +kernel
theorem dX3_kept_53 : decode cX3_kept 53 = .ok (.iadd, 1) := by decide +kernel
theorem dX3_kept_54 : decode cX3_kept 54 = .ok (.aaload, 1) := by decide +kernel
theorem dX3_kept_55 : decode cX3_kept 55 = .ok (.aastore, 1) := by decide +kernel
theorem dX3_kept_56 : decode cX3_kept 56 = .ok (.iinc 3 1, 3) := by decide +kernel
theorem dX3_kept_59 : decode cX3_kept 59 = .ok (.goto (-23), 3) := by decide +kernel
theorem dX3_kept_62 : decode cX3_kept 62 = .ok (.aload_n 0, 1) := by decide +kernel
theorem dX3_kept_63 : decode cX3_kept 63 = .ok (.getfield 11, 3) := by decide +kernel
theorem dX3_kept_66 : decode cX3_kept 66 = .ok (.bipush 6, 2) := by decide +kernel
theorem dX3_kept_68 : decode cX3_kept 68 = .ok (.aload_n 2, 1) := by decide +kernel
theorem dX3_kept_69 : decode cX3_kept 69 = .ok (.aastore, 1) := by decide +kernel
theorem dX3_kept_70 : decode cX3_kept 70 = .ok (.iload_n 1, 1) := by decide +kernel
theorem dX3_kept_71 : decode cX3_kept 71 = .ok (.ireturn, 1) := by decide +kernel
set_option maxRecDepth 20000 in
theorem ggX4_init_X1_init : GoodIn wsX4_init wsX1_init := goodIn_r _ [11, 12, 2, 3, 8, 13, 14, 15, 16, 17, 18, 19] (by decide +kernel) (by decide +kernel)
set_option maxRecDepth 20000 in
theorem gX4_init_X1_init_n11 : GoodIn wsX4_init (wsX1_init) := ggX4_init_X1_init
theorem dX4_init_0 : decode cX4_init 0 = .ok (.aload_n 0, 1) := by decide +kernel
theorem dX4_init_1 : decode cX4_init 1 = .ok (.invokespecial 3, 3) := by decide +kernel
theorem dX4_init_4 : decode cX4_init 4 = .ok (.aload_n 0, 1) := by decide +kernel
theorem dX4_init_5 : decode cX4_init 5 = .ok (.new 9, 3) := by decide +kernel
theorem dX4_init_8 : decode cX4_init 8 = .ok (.dup, 1) := by decide +kernel
theorem dX4_init_9 : decode cX4_init 9 = .ok (.invokespecial 11, 3) := by decide +kernel
theorem dX4_init_12 : decode cX4_init 12 = .ok (.putfield 12, 3) := by decide +kernel
theorem dX4_init_15 : decode cX4_init 15 = .ok (.aload_n 0, 1) := by decide +kernel
theorem dX4_init_16 : decode cX4_init 16 = .ok (.bipush 64, 2) := by decide +kernel
theorem dX4_init_18 : decode cX4_init 18 = .ok (.newarray .int, 2) := by decide +kernel
theorem dX4_init_20 : decode cX4_init 20 = .ok (.putfield 18, 3) := by decide +kernel
theorem dX4_init_23 : decode cX4_init 23 = .ok (.return_, 1) := by decide +kernel
set_option maxRecDepth 20000 in
theorem ggX4_couldBe_X0_isSuspect : GoodIn wsX4_couldBe wsX0_isSuspect := goodIn_r _ [4, 5, 6, 7, 8, 9, 10, 11, 2, 12, 13, 48, 49, 50, 51, 52, 53, 54, 55, 56, 57, 58, 59, 60] (by decide +kernel) (by decide +kernel)
set_option maxRecDepth 20000 in
theorem gX4_couldBe_X0_isSuspect_n22 : GoodIn wsX4_couldBe (wsX0_isSuspect) := ggX4_couldBe_X0_isSuspect
set_option maxRecDepth 20000 in
theorem ggX4_couldBe_X4_fits : GoodIn wsX4_couldBe wsX4_fits := goodIn_r _ [18, 19, 20, 21, 22, 23, 24, 25, 26, 27, 28, 29, 30, 31, 32, 33, 34, 35, 36, 37, 38, 39, 7, 40, 41, 42, 43, 44, 45, 46, 47, 61, 62, 48, 49, 50, 51, 52, 53, 54, 55, 56, 57, 58, 59, 60, 63, 64, 65] (by decide +kernel) (by decide +kernel)
set_option maxRecDepth 20000 in
theorem gX4_couldBe_X4_fits : GoodIn wsX4_couldBe (wsV RX4 28 RX4 yX4_fits wsX4_fits) := goodIn_app (goodIn_of _ (by decide +kernel)) ggX4_couldBe_X4_fits
theorem dX4_couldBe_0 : decode cX4_couldBe 0 = .ok (.aload_n 1, 1) := by decide +kernel
theorem dX4_couldBe_1 : decode cX4_couldBe 1 = .ok (.iload_n 2, 1) := by decide +kernel
theorem dX4_couldBe_2 : decode cX4_couldBe 2 = .ok (.invokevirtual 22, 3) := by decide +kernel
theorem dX4_couldBe_5 : decode cX4_couldBe 5 = .ok (.ifCond .eq 18, 3) := by decide +kernel
theorem dX4_couldBe_8 : decode cX4_couldBe 8 = .ok (.aload_n 0, 1) := by decide +kernel
theorem dX4_couldBe_9 : decode cX4_couldBe 9 = .ok (.aload_n 1, 1) := by decide +kernel
theorem dX4_couldBe_10 : decode cX4_couldBe 10 = .ok (.iload_n 2, 1) := by decide +kernel
theorem dX4_couldBe_11 : decode cX4_couldBe 11 = .ok (.bipush (-6), 2) := by decide +kernel
theorem dX4_couldBe_13 : decode cX4_couldBe 13 = .ok (.invokevirtual 28, 3) := by decide +kernel
theorem dX4_couldBe_16 : decode cX4_couldBe 16 = .ok (.ifCond .eq 7, 3) := by decide +kernel
theorem dX4_couldBe_19 : decode cX4_couldBe 19 = .ok (.iconst 1, 1) := by decide +kernel
theorem dX4_couldBe_20 : decode cX4_couldBe 20 = .ok (.goto 4, 3) := by decide +kernel
theorem dX4_couldBe_23 : decode cX4_couldBe 23 = .ok (.iconst 0, 1) := by decide +kernel
theorem dX4_couldBe_24 : decode cX4_couldBe 24 = .ok (.ireturn, 1) := by decide +kernel
set_option maxRecDepth 20000 in
theorem ggX4_fitting_X4_couldBe : GoodIn wsX4_fitting wsX4_couldBe := goodIn_r _ [5, 6, 7, 8, 9, 10, 11, 12, 13, 14, 15, 16, 17, 18, 19, 20, 21, 4, 22, 23, 24, 25, 26, 27, 28, 29, 30, 31, 32, 33, 34, 35, 36, 37, 38, 39, 40, 41, 42, 43, 44, 45, 46, 47, 48, 49, 50, 51, 52, 53, 54, 55, 56, 57, 58, 59, 60, 61, 62, 63, 64, 65, 66, 67, 68, 69] (by decide +kernel) (by decide +kernel)
set_option maxRecDepth 20000 in
theorem gX4_fitting_X4_couldBe : GoodIn wsX4_fitting (wsV RX4 32 RX4 yX4_couldBe wsX4_couldBe) := goodIn_app (goodIn_of _ (by decide +kernel)) ggX4_fitting_X4_couldBe
theorem dX4_fitting_0 : decode cX4_fitting 0 = .ok (.lconst 0, 1) := by decide +kernel
theorem dX4_fitting_1 : decode cX4_fitting 1 = .ok (.lstore_n 2, 1) := by decide +kernel
theorem dX4_fitting_2 : decode cX4_fitting 2 = .ok (.iconst 0, 1) := by decide +kernel
theorem dX4_fitting_3 : decode cX4_fitting 3 = .ok (.istore 4, 2) := by decide +kernel
theorem dX4_fitting_5 : decode cX4_fitting 5 = .ok (.iload 4, 2) := by decide +kernel
theorem dX4_fitting_7 : decode cX4_fitting 7 = .ok (.bipush 64, 2) := by decide +kernel
theorem dX4_fitting_9 : decode cX4_fitting 9 = .ok (.if_icmp .ge 26, 3) := by decide +kernel
theorem dX4_fitting_12 : decode cX4_fitting 12 = .ok (.aload_n 0, 1) := by decide +kernel
theorem dX4_fitting_13 : decode cX4_fitting 13 = .ok (.aload_n 1, 1) := by decide +kernel
theorem dX4_fitting_14 : decode cX4_fitting 14 = .ok (.iload 4, 2) := by decide +kernel
theorem dX4_fitting_16 : decode cX4_fitting 16 = .ok (.invokevirtual 32, 3) := by decide +kernel
theorem dX4_fitting_19 : decode cX4_fitting 19 = .ok (.ifCond .eq 10, 3) := by decide +kernel
theorem dX4_fitting_22 : decode cX4_fitting 22 = .ok (.lload_n 2, 1) := by decide +kernel
theorem dX4_fitting_23 : decode cX4_fitting 23 = .ok (.lconst 1, 1) := by decide +kernel
theorem dX4_fitting_24 : decode cX4_fitting 24 = .ok (.iload 4, 2) := by decide +kernel
theorem dX4_fitting_26 : decode cX4_fitting 26 = .ok (.lshl, 1) := by decide +kernel
theorem dX4_fitting_27 : decode cX4_fitting 27 = .ok (.lor, 1) := by decide +kernel
theorem dX4_fitting_28 : decode cX4_fitting 28 = .ok (.lstore_n 2, 1) := by decide +kernel
theorem dX4_fitting_29 : decode cX4_fitting 29 = .ok (.iinc 4 1, 3) := by decide +kernel
theorem dX4_fitting_32 : decode cX4_fitting 32 = .ok (.goto (-27), 3) := by decide +kernel
theorem dX4_fitting_35 : decode cX4_fitting 35 = .ok (.lload_n 2, 1) := by decide +kernel
theorem dX4_fitting_36 : decode cX4_fitting 36 = .ok (.lreturn, 1) := by decide +kernel
set_option maxRecDepth 20000 in
theorem ggX4_pairs_X0_suspects : GoodIn wsX4_pairs wsX0_suspects := goodIn_r _ [4, 5, 6, 7, 2, 8, 9, 10, 11, 12, 13, 14, 15, 16, 17, 52, 53, 54, 55, 56, 57, 58, 59, 60, 61, 62, 63, 64] (by decide +kernel) (by decide +kernel)
set_option maxRecDepth 20000 in
theorem gX4_pairs_X0_suspects_n36 : GoodIn wsX4_pairs (wsX0_suspects) := ggX4_pairs_X0_suspects
set_option maxRecDepth 20000 in
theorem ggX4_pairs_X5_isIn : GoodIn wsX4_pairs wsX5_isIn := goodIn_r _ [19] (by decide +kernel) (by decide +kernel)
set_option maxRecDepth 20000 in
theorem gX4_pairs_X5_isIn_n40 : GoodIn wsX4_pairs (wsX5_isIn) := ggX4_pairs_X5_isIn
set_option maxRecDepth 20000 in
theorem ggX4_pairs_X4_fits : GoodIn wsX4_pairs wsX4_fits := goodIn_r _ [24, 25, 26, 27, 28, 29, 30, 31, 32, 33, 34, 35, 36, 37, 38, 39, 40, 41, 42, 43, 44, 45, 11, 46, 47, 48, 18, 19, 49, 50, 51, 65, 66, 52, 53, 54, 55, 56, 57, 58, 59, 60, 61, 62, 63, 64, 67, 68, 69] (by decide +kernel) (by decide +kernel)
set_option maxRecDepth 20000 in
theorem gX4_pairs_X4_fits : GoodIn wsX4_pairs (wsV RX4 28 RX4 yX4_fits wsX4_fits) := goodIn_app (goodIn_of _ (by decide +kernel)) ggX4_pairs_X4_fits
theorem dX4_pairs_0 : decode cX4_pairs 0 = .ok (.aload_n 1, 1) := by decide +kernel
theorem dX4_pairs_1 : decode cX4_pairs 1 = .ok (.invokevirtual 36, 3) := by decide +kernel
theorem dX4_pairs_4 : decode cX4_pairs 4 = .ok (.lstore_n 2, 1) := by decide +kernel
theorem dX4_pairs_5 : decode cX4_pairs 5 = .ok (.iconst 0, 1) := by decide +kernel
theorem dX4_pairs_6 : decode cX4_pairs 6 = .ok (.istore 4, 2) := by decide +kernel
theorem dX4_pairs_8 : decode cX4_pairs 8 = .ok (.iconst 0, 1) := by decide +kernel
theorem dX4_pairs_9 : decode cX4_pairs 9 = .ok (.istore 5, 2) := by decide +kernel
theorem dX4_pairs_11 : decode cX4_pairs 11 = .ok (.iload 5, 2) := by decide +kernel
theorem dX4_pairs_13 : decode cX4_pairs 13 = .ok (.bipush 64, 2) := by decide +kernel
theorem dX4_pairs_15 : decode cX4_pairs 15 = .ok (.if_icmp .ge 61, 3) := by decide +kernel
theorem dX4_pairs_18 : decode cX4_pairs 18 = .ok (.iload 5, 2) := by decide +kernel
theorem dX4_pairs_20 : decode cX4_pairs 20 = .ok (.iconst 1, 1) := by decide +kernel
theorem dX4_pairs_21 : decode cX4_pairs 21 = .ok (.iadd, 1) := by decide +kernel
theorem dX4_pairs_22 : decode cX4_pairs 22 = .ok (.istore 6, 2) := by decide +kernel
theorem dX4_pairs_24 : decode cX4_pairs 24 = .ok (.iload 6, 2) := by decide +kernel
theorem dX4_pairs_26 : decode cX4_pairs 26 = .ok (.bipush 64, 2) := by decide +kernel
theorem dX4_pairs_28 : decode cX4_pairs 28 = .ok (.if_icmp .ge 42, 3) := by decide +kernel
theorem dX4_pairs_31 : decode cX4_pairs 31 = .ok (.lload_n 2, 1) := by decide +kernel
theorem dX4_pairs_32 : decode cX4_pairs 32 = .ok (.iload 5, 2) := by decide +kernel
theorem dX4_pairs_34 : decode cX4_pairs 34 = .ok (.invokestatic 40, 3) := by decide +kernel
theorem dX4_pairs_37 : decode cX4_pairs 37 = .ok (.ifCond .eq 27, 3) := by decide +kernel
theorem dX4_pairs_40 : decode cX4_pairs 40 = .ok (.lload_n 2, 1) := by decide +kernel
theorem dX4_pairs_41 : decode cX4_pairs 41 = .ok (.iload 6, 2) := by decide +kernel
theorem dX4_pairs_43 : decode cX4_pairs 43 = .ok (.invokestatic 40, 3) := by decide +kernel
theorem dX4_pairs_46 : decode cX4_pairs 46 = .ok (.ifCond .eq 18, 3) := by decide +kernel
theorem dX4_pairs_49 : decode cX4_pairs 49 = .ok (.aload_n 0, 1) := by decide +kernel
theorem dX4_pairs_50 : decode cX4_pairs 50 = .ok (.aload_n 1, 1) := by decide +kernel
theorem dX4_pairs_51 : decode cX4_pairs 51 = .ok (.iload 5, 2) := by decide +kernel
theorem dX4_pairs_53 : decode cX4_pairs 53 = .ok (.iload 6, 2) := by decide +kernel
theorem dX4_pairs_55 : decode cX4_pairs 55 = .ok (.invokevirtual 28, 3) := by decide +kernel
theorem dX4_pairs_58 : decode cX4_pairs 58 = .ok (.ifCond .eq 6, 3) := by decide +kernel
theorem dX4_pairs_61 : decode cX4_pairs 61 = .ok (.iinc 4 1, 3) := by decide +kernel
theorem dX4_pairs_64 : decode cX4_pairs 64 = .ok (.iinc 6 1, 3) := by decide +kernel
theorem dX4_pairs_67 : decode cX4_pairs 67 = .ok (.goto (-43), 3) := by decide +kernel
theorem dX4_pairs_70 : decode cX4_pairs 70 = .ok (.iinc 5 1, 3) := by decide +kernel
theorem dX4_pairs_73 : decode cX4_pairs 73 = .ok (.goto (-62), 3) := by decide +kernel
theorem dX4_pairs_76 : decode cX4_pairs 76 = .ok (.iload 4, 2) := by decide +kernel
theorem dX4_pairs_78 : decode cX4_pairs 78 = .ok (.ireturn, 1) := by decide +kernel
set_option maxRecDepth 20000 in
theorem ggX4_couldBeOneOfTwo_X0_isSuspect : GoodIn wsX4_couldBeOneOfTwo wsX0_isSuspect := goodIn_r _ [11, 12, 13, 14, 15, 16, 17, 18, 9, 19, 20, 54, 55, 56, 57, 58, 59, 60, 61, 62, 63, 64, 65, 66] (by decide +kernel) (by decide +kernel)
set_option maxRecDepth 20000 in
theorem gX4_couldBeOneOfTwo_X0_isSuspect_n22 : GoodIn wsX4_couldBeOneOfTwo (wsX0_isSuspect) := ggX4_couldBeOneOfTwo_X0_isSuspect
set_option maxRecDepth 20000 in
theorem ggX4_couldBeOneOfTwo_X4_fits : GoodIn wsX4_couldBeOneOfTwo wsX4_fits := goodIn_r _ [25, 26, 27, 28, 3, 29, 30, 31, 32, 33, 34, 35, 36, 37, 38, 39, 40, 41, 42, 43, 44, 45, 14, 46, 47, 48, 49, 50, 51, 52, 53, 67, 68, 54, 55, 56, 57, 58, 59, 60, 61, 62, 63, 64, 65, 66, 69, 70, 71] (by decide +kernel) (by decide +kernel)
set_option maxRecDepth 20000 in
theorem gX4_couldBeOneOfTwo_X4_fits : GoodIn wsX4_couldBeOneOfTwo (wsV RX4 28 RX4 yX4_fits wsX4_fits) := goodIn_app (goodIn_of _ (by decide +kernel)) ggX4_couldBeOneOfTwo_X4_fits
theorem dX4_couldBeOneOfTwo_0 : decode cX4_couldBeOneOfTwo 0 = .ok (.aload_n 1, 1) := by decide +kernel
theorem dX4_couldBeOneOfTwo_1 : decode cX4_couldBeOneOfTwo 1 = .ok (.iload_n 2, 1) := by decide +kernel
theorem dX4_couldBeOneOfTwo_2 : decode cX4_couldBeOneOfTwo 2 = .ok (.invokevirtual 22, 3) := by decide +kernel
theorem dX4_couldBeOneOfTwo_5 : decode cX4_couldBeOneOfTwo 5 = .ok (.ifCond .ne 5, 3) := by decide +kernel
theorem dX4_couldBeOneOfTwo_8 : decode cX4_couldBeOneOfTwo 8 = .ok (.iconst 0, 1) := by decide +kernel
theorem dX4_couldBeOneOfTwo_9 : decode cX4_couldBeOneOfTwo 9 = .ok (.ireturn, 1) := by decide +kernel
theorem dX4_couldBeOneOfTwo_10 : decode cX4_couldBeOneOfTwo 10 = .ok (.iconst 0, 1) := by decide +kernel
theorem dX4_couldBeOneOfTwo_11 : decode cX4_couldBeOneOfTwo 11 = .ok (.istore_n 3, 1) := by decide +kernel
theorem dX4_couldBeOneOfTwo_12 : decode cX4_couldBeOneOfTwo 12 = .ok (.iload_n 3, 1) := by decide +kernel
theorem dX4_couldBeOneOfTwo_13 : decode cX4_couldBeOneOfTwo 13 = .ok (.bipush 64, 2) := by decide +kernel
theorem dX4_couldBeOneOfTwo_15 : decode cX4_couldBeOneOfTwo 15 = .ok (.if_icmp .ge 42, 3) := by decide +kernel
theorem dX4_couldBeOneOfTwo_18 : decode cX4_couldBeOneOfTwo 18 = .ok (.iload_n 3, 1) := by decide +kernel
theorem dX4_couldBeOneOfTwo_19 : decode cX4_couldBeOneOfTwo 19 = .ok (.iload_n 2, 1) := by decide +kernel
theorem dX4_couldBeOneOfTwo_20 : decode cX4_couldBeOneOfTwo 20 = .ok (.if_icmp .eq 31, 3) := by decide +kernel
theorem dX4_couldBeOneOfTwo_23 : decode cX4_couldBeOneOfTwo 23 = .ok (.aload_n 1, 1) := by decide +kernel
theorem dX4_couldBeOneOfTwo_24 : decode cX4_couldBeOneOfTwo 24 = .ok (.iload_n 3, 1) := by decide +kernel
theorem dX4_couldBeOneOfTwo_25 : decode cX4_couldBeOneOfTwo 25 = .ok (.invokevirtual 22, 3) := by decide +kernel
theorem dX4_couldBeOneOfTwo_28 : decode cX4_couldBeOneOfTwo 28 = .ok (.ifCond .eq 23, 3) := by decide +kernel
theorem dX4_couldBeOneOfTwo_31 : decode cX4_couldBeOneOfTwo 31 = .ok (.aload_n 0, 1) := by decide +kernel
theorem dX4_couldBeOneOfTwo_32 : decode cX4_couldBeOneOfTwo 32 = .ok (.aload_n 1, 1) := by decide +kernel
theorem dX4_couldBeOneOfTwo_33 : decode cX4_couldBeOneOfTwo 33 = .ok (.iload_n 2, 1) := by decide +kernel
theorem dX4_couldBeOneOfTwo_34 : decode cX4_couldBeOneOfTwo 34 = .ok (.iload_n 3, 1) := by decide +kernel
theorem dX4_couldBeOneOfTwo_35 : decode cX4_couldBeOneOfTwo 35 = .ok (.invokestatic 44, 3) := by decide +kernel
theorem dX4_couldBeOneOfTwo_38 : decode cX4_couldBeOneOfTwo 38 = .ok (.iload_n 2, 1) := by decide +kernel
theorem dX4_couldBeOneOfTwo_39 : decode cX4_couldBeOneOfTwo 39 = .ok (.iload_n 3, 1) := by decide +kernel
theorem dX4_couldBeOneOfTwo_40 : decode cX4_couldBeOneOfTwo 40 = .ok (.invokestatic 50, 3) := by decide +kernel
theorem dX4_couldBeOneOfTwo_43 : decode cX4_couldBeOneOfTwo 43 = .ok (.invokevirtual 28, 3) := by decide +kernel
theorem dX4_couldBeOneOfTwo_46 : decode cX4_couldBeOneOfTwo 46 = .ok (.ifCond .eq 5, 3) := by decide +kernel
theorem dX4_couldBeOneOfTwo_49 : decode cX4_couldBeOneOfTwo 49 = .ok (.iconst 1, 1) := by decide +kernel
theorem dX4_couldBeOneOfTwo_50 : decode cX4_couldBeOneOfTwo 50 = .ok (.ireturn, 1) := by decide +kernel
theorem dX4_couldBeOneOfTwo_51 : decode cX4_couldBeOneOfTwo 51 = .ok (.iinc 3 1, 3) := by decide +kernel
theorem dX4_couldBeOneOfTwo_54 : decode cX4_couldBeOneOfTwo 54 = .ok (.goto (-42), 3) := by decide +kernel
theorem dX4_couldBeOneOfTwo_57 : decode cX4_couldBeOneOfTwo 57 = .ok (.iconst 0, 1) := by decide +kernel
theorem dX4_couldBeOneOfTwo_58 : decode cX4_couldBeOneOfTwo 58 = .ok (.ireturn, 1) := by decide +kernel
set_option maxRecDepth 20000 in
theorem ggX4_fits_X1_follow : GoodIn wsX4_fits wsX1_follow := goodIn_r _ [9, 10, 11, 12, 13, 14, 15, 46, 47, 48] (by decide +kernel) (by decide +kernel)
set_option maxRecDepth 20000 in
theorem gX4_fits_X1_follow_n56 : GoodIn wsX4_fits (wsX1_follow) := ggX4_fits_X1_follow
set_option maxRecDepth 20000 in
theorem ggX4_fits_X1_warmthBy : GoodIn wsX4_fits wsX1_warmthBy := goodIn_r _ [18, 19, 20, 15, 10, 21, 22, 23, 24, 25, 26, 27, 46, 47, 48] (by decide +kernel) (by decide +kernel)
set_option maxRecDepth 20000 in
theorem gX4_fits_X1_warmthBy_n70 : GoodIn wsX4_fits (wsX1_warmthBy) := ggX4_fits_X1_warmthBy
set_option maxRecDepth 20000 in
theorem ggX4_fits_X5_readOf : GoodIn wsX4_fits wsX5_readOf := goodIn_r _ [29, 30] (by decide +kernel) (by decide +kernel)
set_option maxRecDepth 20000 in
theorem gX4_fits_X5_readOf_n74 : GoodIn wsX4_fits (wsX5_readOf) := ggX4_fits_X5_readOf
theorem dX4_fits_0 : decode cX4_fits 0 = .ok (.aload_n 0, 1) := by decide +kernel
theorem dX4_fits_1 : decode cX4_fits 1 = .ok (.getfield 12, 3) := by decide +kernel
theorem dX4_fits_4 : decode cX4_fits 4 = .ok (.aload_n 1, 1) := by decide +kernel
theorem dX4_fits_5 : decode cX4_fits 5 = .ok (.getfield 53, 3) := by decide +kernel
theorem dX4_fits_8 : decode cX4_fits 8 = .ok (.invokevirtual 56, 3) := by decide +kernel
theorem dX4_fits_11 : decode cX4_fits 11 = .ok (.iconst 0, 1) := by decide +kernel
theorem dX4_fits_12 : decode cX4_fits 12 = .ok (.istore 4, 2) := by decide +kernel
theorem dX4_fits_14 : decode cX4_fits 14 = .ok (.iload 4, 2) := by decide +kernel
theorem dX4_fits_16 : decode cX4_fits 16 = .ok (.aload_n 1, 1) := by decide +kernel
theorem dX4_fits_17 : decode cX4_fits 17 = .ok (.getfield 60, 3) := by decide +kernel
theorem dX4_fits_20 : decode cX4_fits 20 = .ok (.if_icmp .ge 93, 3) := by decide +kernel
theorem dX4_fits_23 : decode cX4_fits 23 = .ok (.aload_n 0, 1) := by decide +kernel
theorem dX4_fits_24 : decode cX4_fits 24 = .ok (.getfield 12, 3) := by decide +kernel
theorem dX4_fits_27 : decode cX4_fits 27 = .ok (.iload_n 2, 1) := by decide +kernel
theorem dX4_fits_28 : decode cX4_fits 28 = .ok (.aload_n 1, 1) := by decide +kernel
theorem dX4_fits_29 : decode cX4_fits 29 = .ok (.getfield 64, 3) := by decide +kernel
theorem dX4_fits_32 : decode cX4_fits 32 = .ok (.iload 4, 2) := by decide +kernel
theorem dX4_fits_34 : decode cX4_fits 34 = .ok (.iaload, 1) := by decide +kernel
theorem dX4_fits_35 : decode cX4_fits 35 = .ok (.aload_n 1, 1) := by decide +kernel
theorem dX4_fits_36 : decode cX4_fits 36 = .ok (.getfield 67, 3) := by decide +kernel
theorem dX4_fits_39 : decode cX4_fits 39 = .ok (.iload 4, 2) := by decide +kernel
theorem dX4_fits_41 : decode cX4_fits 41 = .ok (.iaload, 1) := by decide +kernel
theorem dX4_fits_42 : decode cX4_fits 42 = .ok (.invokevirtual 70, 3) := by decide +kernel
theorem dX4_fits_45 : decode cX4_fits 45 = .ok (.fstore 5, 2) := by decide +kernel
theorem dX4_fits_47 : decode cX4_fits 47 = .ok (.iload_n 3, 1) := by decide +kernel
theorem dX4_fits_48 : decode cX4_fits 48 = .ok (.bipush (-6), 2) := by decide +kernel
theorem dX4_fits_50 : decode cX4_fits 50 = .ok (.if_icmp .eq 30, 3) := by decide +kernel
theorem dX4_fits_53 : decode cX4_fits 53 = .ok (.fload 5, 2) := by decide +kernel
theorem dX4_fits_55 : decode cX4_fits 55 = .ok (.aload_n 0, 1) := by decide +kernel
theorem dX4_fits_56 : decode cX4_fits 56 = .ok (.getfield 12, 3) := by decide +kernel
theorem dX4_fits_59 : decode cX4_fits 59 = .ok (.iload_n 3, 1) := by decide +kernel
theorem dX4_fits_60 : decode cX4_fits 60 = .ok (.aload_n 1, 1) := by decide +kernel
theorem dX4_fits_61 : decode cX4_fits 61 = .ok (.getfield 64, 3) := by decide +kernel
theorem dX4_fits_64 : decode cX4_fits 64 = .ok (.iload 4, 2) := by decide +kernel
theorem dX4_fits_66 : decode cX4_fits 66 = .ok (.iaload, 1) := by decide +kernel
theorem dX4_fits_67 : decode cX4_fits 67 = .ok (.aload_n 1, 1) := by decide +kernel
theorem dX4_fits_68 : decode cX4_fits 68 = .ok (.getfield 67, 3) := by decide +kernel
theorem dX4_fits_71 : decode cX4_fits 71 = .ok (.iload 4, 2) := by decide +kernel
theorem dX4_fits_73 : decode cX4_fits 73 = .ok (.iaload, 1) := by decide +kernel
theorem dX4_fits_74 : decode cX4_fits 74 = .ok (.invokevirtual 70, 3) := by decide +kernel
theorem dX4_fits_77 : decode cX4_fits 77 = .ok (.fadd, 1) := by decide +kernel
theorem dX4_fits_78 : decode cX4_fits 78 = .ok (.fstore 5, 2) := by decide +kernel
theorem dX4_fits_80 : decode cX4_fits 80 = .ok (.fload 5, 2) := by decide +kernel
theorem dX4_fits_82 : decode cX4_fits 82 = .ok (.invokestatic 74, 3) := by decide +kernel
theorem dX4_fits_85 : decode cX4_fits 85 = .ok (.aload_n 1, 1) := by decide +kernel
theorem dX4_fits_86 : decode cX4_fits 86 = .ok (.getfield 78, 3) := by decide +kernel
theorem dX4_fits_89 : decode cX4_fits 89 = .ok (.iload 4, 2) := by decide +kernel
theorem dX4_fits_91 : decode cX4_fits 91 = .ok (.iaload, 1) := by decide +kernel
theorem dX4_fits_92 : decode cX4_fits 92 = .ok (.isub, 1) := by decide +kernel
theorem dX4_fits_93 : decode cX4_fits 93 = .ok (.invokestatic 81, 3) := by decide +kernel
theorem dX4_fits_96 : decode cX4_fits 96 = .ok (.aload_n 1, 1) := by decide +kernel
theorem dX4_fits_97 : decode cX4_fits 97 = .ok (.getfield 53, 3) := by decide +kernel
theorem dX4_fits_100 : decode cX4_fits 100 = .ok (.iconst 3, 1) := by decide +kernel
theorem dX4_fits_101 : decode cX4_fits 101 = .ok (.iaload, 1) := by decide +kernel
theorem dX4_fits_102 : decode cX4_fits 102 = .ok (.if_icmp .le 5, 3) := by decide +kernel
theorem dX4_fits_105 : decode cX4_fits 105 = .ok (.iconst 0, 1) := by decide +kernel
theorem dX4_fits_106 : decode cX4_fits 106 = .ok (.ireturn, 1) := by decide +kernel
theorem dX4_fits_107 : decode cX4_fits 107 = .ok (.iinc 4 1, 3) := by decide +kernel
theorem dX4_fits_110 : decode cX4_fits 110 = .ok (.goto (-96), 3) := by decide +kernel
theorem dX4_fits_113 : decode cX4_fits 113 = .ok (.iconst 1, 1) := by decide +kernel
theorem dX4_fits_114 : decode cX4_fits 114 = .ok (.ireturn, 1) := by decide +kernel
set_option maxRecDepth 20000 in
theorem ggX4_readBy_X1_follow : GoodIn wsX4_readBy wsX1_follow := goodIn_r _ [5, 6, 7, 8, 9, 10, 11, 42, 43, 44] (by decide +kernel) (by decide +kernel)
set_option maxRecDepth 20000 in
theorem gX4_readBy_X1_follow_n56 : GoodIn wsX4_readBy (wsX1_follow) := ggX4_readBy_X1_follow
set_option maxRecDepth 20000 in
theorem ggX4_readBy_X1_warmthBy : GoodIn wsX4_readBy wsX1_warmthBy := goodIn_r _ [14, 15, 16, 11, 6, 17, 18, 19, 20, 21, 22, 23, 42, 43, 44] (by decide +kernel) (by decide +kernel)
set_option maxRecDepth 20000 in
theorem gX4_readBy_X1_warmthBy_n70 : GoodIn wsX4_readBy (wsX1_warmthBy) := ggX4_readBy_X1_warmthBy
set_option maxRecDepth 20000 in
theorem ggX4_readBy_X5_readOf : GoodIn wsX4_readBy wsX5_readOf := goodIn_r _ [25, 26] (by decide +kernel) (by decide +kernel)
set_option maxRecDepth 20000 in
theorem gX4_readBy_X5_readOf_n74 : GoodIn wsX4_readBy (wsX5_readOf) := ggX4_readBy_X5_readOf
theorem dX4_readBy_0 : decode cX4_readBy 0 = .ok (.aload_n 0, 1) := by decide +kernel
theorem dX4_readBy_1 : decode cX4_readBy 1 = .ok (.getfield 12, 3) := by decide +kernel
theorem dX4_readBy_4 : decode cX4_readBy 4 = .ok (.aload_n 1, 1) := by decide +kernel
theorem dX4_readBy_5 : decode cX4_readBy 5 = .ok (.getfield 53, 3) := by decide +kernel
theorem dX4_readBy_8 : decode cX4_readBy 8 = .ok (.invokevirtual 56, 3) := by decide +kernel
theorem dX4_readBy_11 : decode cX4_readBy 11 = .ok (.aload_n 0, 1) := by decide +kernel
theorem dX4_readBy_12 : decode cX4_readBy 12 = .ok (.getfield 12, 3) := by decide +kernel
theorem dX4_readBy_15 : decode cX4_readBy 15 = .ok (.iload_n 2, 1) := by decide +kernel
theorem dX4_readBy_16 : decode cX4_readBy 16 = .ok (.aload_n 1, 1) := by decide +kernel
theorem dX4_readBy_17 : decode cX4_readBy 17 = .ok (.getfield 85, 3) := by decide +kernel
theorem dX4_readBy_20 : decode cX4_readBy 20 = .ok (.iload_n 3, 1) := by decide +kernel
theorem dX4_readBy_21 : decode cX4_readBy 21 = .ok (.invokevirtual 70, 3) := by decide +kernel
theorem dX4_readBy_24 : decode cX4_readBy 24 = .ok (.invokestatic 74, 3) := by decide +kernel
theorem dX4_readBy_27 : decode cX4_readBy 27 = .ok (.ireturn, 1) := by decide +kernel
set_option maxRecDepth 20000 in
theorem ggX5_init_X0_init : GoodIn wsX5_init wsX0_init := goodIn_r _ [25, 26, 2, 3, 27, 28, 29, 30, 31, 32, 33, 34, 35, 36, 37, 38, 39, 40, 41, 42, 43, 44, 45, 72, 73, 74, 75, 76, 77, 78, 79, 80, 81, 82, 83, 84] (by decide +kernel) (by decide +kernel)
set_option maxRecDepth 20000 in
theorem gX5_init_X0_init_n9 : GoodIn wsX5_init (wsX0_init) := ggX5_init_X0_init
set_option maxRecDepth 20000 in
theorem ggX5_init_X4_init : GoodIn wsX5_init wsX4_init := goodIn_r _ [47, 48, 2, 3, 49, 50, 51, 52, 27, 53, 54, 55, 56, 57, 58, 59, 60, 98, 99, 100, 92, 93] (by decide +kernel) (by decide +kernel)
set_option maxRecDepth 20000 in
theorem gX5_init_X4_init_n21 : GoodIn wsX5_init (wsX4_init) := ggX5_init_X4_init
set_option maxRecDepth 20000 in
theorem ggX5_init_X3_init : GoodIn wsX5_init wsX3_init := goodIn_r _ [62, 63, 2, 3, 64, 65, 66, 5, 6, 24, 25, 26, 27, 28, 29, 30, 31, 32, 33, 34, 35, 36, 37, 38, 39, 40, 41, 42, 43, 44, 45, 94, 95, 72, 73, 74, 75, 76, 77, 78, 79, 80, 81, 82, 83, 84] (by decide +kernel) (by decide +kernel)
set_option maxRecDepth 20000 in
theorem gX5_init_X3_init_n28 : GoodIn wsX5_init (wsX3_init) := ggX5_init_X3_init
set_option maxRecDepth 20000 in
theorem ggX5_init_X2_init : GoodIn wsX5_init wsX2_init := goodIn_r _ [68, 69, 2, 3, 27, 70, 71, 96, 97] (by decide +kernel) (by decide +kernel)
set_option maxRecDepth 20000 in
theorem gX5_init_X2_init_n35 : GoodIn wsX5_init (wsX2_init) := ggX5_init_X2_init
theorem dX5_init_0 : decode cX5_init 0 = .ok (.aload_n 0, 1) := by decide +kernel
theorem dX5_init_1 : decode cX5_init 1 = .ok (.invokespecial 1, 3) := by decide +kernel
theorem dX5_init_4 : decode cX5_init 4 = .ok (.aload_n 0, 1) := by decide +kernel
theorem dX5_init_5 : decode cX5_init 5 = .ok (.new 7, 3) := by decide +kernel
theorem dX5_init_8 : decode cX5_init 8 = .ok (.dup, 1) := by decide +kernel
theorem dX5_init_9 : decode cX5_init 9 = .ok (.invokespecial 9, 3) := by decide +kernel
theorem dX5_init_12 : decode cX5_init 12 = .ok (.putfield 10, 3) := by decide +kernel
theorem dX5_init_15 : decode cX5_init 15 = .ok (.aload_n 0, 1) := by decide +kernel
theorem dX5_init_16 : decode cX5_init 16 = .ok (.new 7, 3) := by decide +kernel
theorem dX5_init_19 : decode cX5_init 19 = .ok (.dup, 1) := by decide +kernel
theorem dX5_init_20 : decode cX5_init 20 = .ok (.invokespecial 9, 3) := by decide +kernel
theorem dX5_init_23 : decode cX5_init 23 = .ok (.putfield 16, 3) := by decide +kernel
theorem dX5_init_26 : decode cX5_init 26 = .ok (.aload_n 0, 1) := by decide +kernel
theorem dX5_init_27 : decode cX5_init 27 = .ok (.new 19, 3) := by decide +kernel
theorem dX5_init_30 : decode cX5_init 30 = .ok (.dup, 1) := by decide +kernel
theorem dX5_init_31 : decode cX5_init 31 = .ok (.invokespecial 21, 3) := by decide +kernel
theorem dX5_init_34 : decode cX5_init 34 = .ok (.putfield 22, 3) := by decide +kernel
theorem dX5_init_37 : decode cX5_init 37 = .ok (.aload_n 0, 1) := by decide +kernel
theorem dX5_init_38 : decode cX5_init 38 = .ok (.new 26, 3) := by decide +kernel
theorem dX5_init_41 : decode cX5_init 41 = .ok (.dup, 1) := by decide +kernel
theorem dX5_init_42 : decode cX5_init 42 = .ok (.invokespecial 28, 3) := by decide +kernel
theorem dX5_init_45 : decode cX5_init 45 = .ok (.putfield 29, 3) := by decide +kernel
theorem dX5_init_48 : decode cX5_init 48 = .ok (.aload_n 0, 1) := by decide +kernel
theorem dX5_init_49 : decode cX5_init 49 = .ok (.new 33, 3) := by decide +kernel
theorem dX5_init_52 : decode cX5_init 52 = .ok (.dup, 1) := by decide +kernel
theorem dX5_init_53 : decode cX5_init 53 = .ok (.invokespecial 35, 3) := by decide +kernel
theorem dX5_init_56 : decode cX5_init 56 = .ok (.putfield 36, 3) := by decide +kernel
theorem dX5_init_59 : decode cX5_init 59 = .ok (.aload_n 0, 1) := by decide +kernel
theorem dX5_init_60 : decode cX5_init 60 = .ok (.iconst 2, 1) := by decide +kernel
theorem dX5_init_61 : decode cX5_init 61 = .ok (.anewarray 7, 3) := by decide +kernel
theorem dX5_init_64 : decode cX5_init 64 = .ok (.putfield 40, 3) := by decide +kernel
theorem dX5_init_67 : decode cX5_init 67 = .ok (.aload_n 0, 1) := by decide +kernel
theorem dX5_init_68 : decode cX5_init 68 = .ok (.iconst 2, 1) := by decide +kernel
theorem dX5_init_69 : decode cX5_init 69 = .ok (.newarray .boolean, 2) := by decide +kernel
theorem dX5_init_71 : decode cX5_init 71 = .ok (.putfield 44, 3) := by decide +kernel
theorem dX5_init_74 : decode cX5_init 74 = .ok (.iconst 0, 1) := by decide +kernel
theorem dX5_init_75 : decode cX5_init 75 = .ok (.istore_n 1, 1) := by decide +kernel
theorem dX5_init_76 : decode cX5_init 76 = .ok (.iload_n 1, 1) := by decide +kernel
theorem dX5_init_77 : decode cX5_init 77 = .ok (.iconst 2, 1) := by decide +kernel
theorem dX5_init_78 : decode cX5_init 78 = .ok (.if_icmp .ge 22, 3) := by decide +kernel
theorem dX5_init_81 : decode cX5_init 81 = .ok (.aload_n 0, 1) := by decide +kernel
theorem dX5_init_82 : decode cX5_init 82 = .ok (.getfield 40, 3) := by decide +kernel
theorem dX5_init_85 : decode cX5_init 85 = .ok (.iload_n 1, 1) := by decide +kernel
theorem dX5_init_86 : decode cX5_init 86 = .ok (.new 7, 3) := by decide +kernel
theorem dX5_init_89 : decode cX5_init 89 = .ok (.dup, 1) := by decide +kernel
theorem dX5_init_90 : decode cX5_init 90 = .ok (.invokespecial 9, 3) := by decide +kernel
theorem dX5_init_93 : decode cX5_init 93 = .ok (.aastore, 1) := by decide +kernel
theorem dX5_init_94 : decode cX5_init 94 = .ok (.iinc 1 1, 3) := by decide +kernel
theorem dX5_init_97 : decode cX5_init 97 = .ok (.goto (-21), 3) := by decide +kernel
theorem dX5_init_100 : decode cX5_init 100 = .ok (.return_, 1) := by decide +kernel
set_option maxRecDepth 20000 in
theorem ggX5_set_X3_prepare : GoodIn wsX5_set wsX3_prepare := goodIn_r _ [6, 7, 8, 9, 10, 11, 12, 13, 14, 15, 16, 17, 18, 19, 20, 21, 22, 23, 24, 25, 26, 27, 28, 46, 47, 48, 49, 50, 51, 52, 53, 54, 55, 56, 57, 58, 59, 60] (by decide +kernel) (by decide +kernel)
set_option maxRecDepth 20000 in
theorem gX5_set_X3_prepare_n48 : GoodIn wsX5_set (wsX3_prepare) := ggX5_set_X3_prepare
set_option maxRecDepth 20000 in
theorem ggX5_set_X0_change : GoodIn wsX5_set wsX0_change := goodIn_r _ [31, 13, 32, 33, 34, 10, 35, 23, 25, 24, 48, 49, 50, 51, 52, 53, 54, 55, 56, 57, 58, 59, 60] (by decide +kernel) (by decide +kernel)
set_option maxRecDepth 20000 in
theorem gX5_set_X0_change_n52 : GoodIn wsX5_set (wsX0_change) := ggX5_set_X0_change
set_option maxRecDepth 20000 in
theorem ggX5_set_X3_kept : GoodIn wsX5_set wsX3_kept := goodIn_r _ [38, 8, 7, 46, 47] (by decide +kernel) (by decide +kernel)
set_option maxRecDepth 20000 in
theorem gX5_set_X3_kept_n56 : GoodIn wsX5_set (wsX3_kept) := ggX5_set_X3_kept
theorem dX5_set_0 : decode cX5_set 0 = .ok (.aload_n 0, 1) := by decide +kernel
theorem dX5_set_1 : decode cX5_set 1 = .ok (.getfield 29, 3) := by decide +kernel
theorem dX5_set_4 : decode cX5_set 4 = .ok (.aload_n 0, 1) := by decide +kernel
theorem dX5_set_5 : decode cX5_set 5 = .ok (.getfield 10, 3) := by decide +kernel
theorem dX5_set_8 : decode cX5_set 8 = .ok (.invokevirtual 48, 3) := by decide +kernel
theorem dX5_set_11 : decode cX5_set 11 = .ok (.aload_n 0, 1) := by decide +kernel
theorem dX5_set_12 : decode cX5_set 12 = .ok (.getfield 29, 3) := by decide +kernel
theorem dX5_set_15 : decode cX5_set 15 = .ok (.aload_n 0, 1) := by decide +kernel
theorem dX5_set_16 : decode cX5_set 16 = .ok (.getfield 10, 3) := by decide +kernel
theorem dX5_set_19 : decode cX5_set 19 = .ok (.iload_n 1, 1) := by decide +kernel
theorem dX5_set_20 : decode cX5_set 20 = .ok (.iload_n 2, 1) := by decide +kernel
theorem dX5_set_21 : decode cX5_set 21 = .ok (.invokevirtual 52, 3) := by decide +kernel
theorem dX5_set_24 : decode cX5_set 24 = .ok (.invokevirtual 56, 3) := by decide +kernel
theorem dX5_set_27 : decode cX5_set 27 = .ok (.ireturn, 1) := by decide +kernel
set_option maxRecDepth 20000 in
theorem ggX5_track_X3_prepare : GoodIn wsX5_track wsX3_prepare := goodIn_r _ [6, 7, 8, 9, 10, 11, 12, 13, 14, 15, 16, 17, 18, 19, 20, 21, 22, 23, 24, 25, 26, 27, 28, 60, 61, 62, 63, 64, 65, 66, 67, 68, 69, 70, 71, 72, 73, 74] (by decide +kernel) (by decide +kernel)
set_option maxRecDepth 20000 in
theorem gX5_track_X3_prepare_n48 : GoodIn wsX5_track (wsX3_prepare) := ggX5_track_X3_prepare
set_option maxRecDepth 20000 in
theorem ggX5_track_X0_lay : GoodIn wsX5_track wsX0_lay := goodIn_r _ [31, 18, 32, 33, 34, 35, 36, 37, 38, 39, 10, 40, 20, 21, 22, 41, 42, 43, 44, 45, 46, 47, 48, 49, 23, 25, 24, 62, 63, 64, 65, 66, 67, 68, 69, 70, 71, 72, 73, 74] (by decide +kernel) (by decide +kernel)
set_option maxRecDepth 20000 in
theorem gX5_track_X0_lay_n60 : GoodIn wsX5_track (wsX0_lay) := ggX5_track_X0_lay
set_option maxRecDepth 20000 in
theorem ggX5_track_X3_kept : GoodIn wsX5_track wsX3_kept := goodIn_r _ [52, 8, 7, 60, 61] (by decide +kernel) (by decide +kernel)
set_option maxRecDepth 20000 in
theorem gX5_track_X3_kept_n56 : GoodIn wsX5_track (wsX3_kept) := ggX5_track_X3_kept
theorem dX5_track_0 : decode cX5_track 0 = .ok (.aload_n 0, 1) := by decide +kernel
theorem dX5_track_1 : decode cX5_track 1 = .ok (.getfield 29, 3) := by decide +kernel
theorem dX5_track_4 : decode cX5_track 4 = .ok (.aload_n 0, 1) := by decide +kernel
theorem dX5_track_5 : decode cX5_track 5 = .ok (.getfield 10, 3) := by decide +kernel
theorem dX5_track_8 : decode cX5_track 8 = .ok (.invokevirtual 48, 3) := by decide +kernel
theorem dX5_track_11 : decode cX5_track 11 = .ok (.aload_n 0, 1) := by decide +kernel
theorem dX5_track_12 : decode cX5_track 12 = .ok (.getfield 29, 3) := by decide +kernel
theorem dX5_track_15 : decode cX5_track 15 = .ok (.aload_n 0, 1) := by decide +kernel
theorem dX5_track_16 : decode cX5_track 16 = .ok (.getfield 10, 3) := by decide +kernel
theorem dX5_track_19 : decode cX5_track 19 = .ok (.iload_n 1, 1) := by decide +kernel
theorem dX5_track_20 : decode cX5_track 20 = .ok (.iload_n 2, 1) := by decide +kernel
theorem dX5_track_21 : decode cX5_track 21 = .ok (.iload_n 3, 1) := by decide +kernel
theorem dX5_track_22 : decode cX5_track 22 = .ok (.invokevirtual 60, 3) := by decide +kernel
theorem dX5_track_25 : decode cX5_track 25 = .ok (.invokevirtual 56, 3) := by decide +kernel
theorem dX5_track_28 : decode cX5_track 28 = .ok (.ireturn, 1) := by decide +kernel
set_option maxRecDepth 20000 in
theorem ggX5_touch_X3_prepare : GoodIn wsX5_touch wsX3_prepare := goodIn_r _ [6, 7, 8, 9, 10, 11, 12, 13, 14, 15, 16, 17, 18, 19, 20, 21, 22, 23, 24, 25, 26, 27, 28, 61, 62, 63, 64, 65, 66, 67, 68, 69, 70, 71, 72, 73, 74, 75] (by decide +kernel) (by decide +kernel)
set_option maxRecDepth 20000 in
theorem gX5_touch_X3_prepare_n48 : GoodIn wsX5_touch (wsX3_prepare) := ggX5_touch_X3_prepare
set_option maxRecDepth 20000 in
theorem ggX5_touch_X0_join : GoodIn wsX5_touch wsX0_join := goodIn_r _ [31, 18, 20, 21, 22, 32, 33, 34, 35, 36, 37, 38, 39, 10, 40, 41, 42, 43, 44, 45, 46, 47, 48, 49, 50, 23, 25, 24, 63, 64, 65, 66, 67, 68, 69, 70, 71, 72, 73, 74, 75] (by decide +kernel) (by decide +kernel)
set_option maxRecDepth 20000 in
theorem gX5_touch_X0_join_n64 : GoodIn wsX5_touch (wsX0_join) := ggX5_touch_X0_join
set_option maxRecDepth 20000 in
theorem ggX5_touch_X3_kept : GoodIn wsX5_touch wsX3_kept := goodIn_r _ [53, 8, 7, 61, 62] (by decide +kernel) (by decide +kernel)
set_option maxRecDepth 20000 in
theorem gX5_touch_X3_kept_n56 : GoodIn wsX5_touch (wsX3_kept) := ggX5_touch_X3_kept
theorem dX5_touch_0 : decode cX5_touch 0 = .ok (.aload_n 0, 1) := by decide +kernel
theorem dX5_touch_1 : decode cX5_touch 1 = .ok (.getfield 29, 3) := by decide +kernel
theorem dX5_touch_4 : decode cX5_touch 4 = .ok (.aload_n 0, 1) := by decide +kernel
end
section
theorem dX5_touch_5 : decode cX5_touch 5 = .ok (.getfield 10, 3) := by decide +kernel
theorem dX5_touch_8 : decode cX5_touch 8 = .ok (.invokevirtual 48, 3) := by decide +kernel
theorem dX5_touch_11 : decode cX5_touch 11 = .ok (.aload_n 0, 1) := by decide +kernel
theorem dX5_touch_12 : decode cX5_touch 12 = .ok (.getfield 29, 3) := by decide +kernel
theorem dX5_touch_15 : decode cX5_touch 15 = .ok (.aload_n 0, 1) := by decide +kernel
theorem dX5_touch_16 : decode cX5_touch 16 = .ok (.getfield 10, 3) := by decide +kernel
theorem dX5_touch_19 : decode cX5_touch 19 = .ok (.iload_n 1, 1) := by decide +kernel
theorem dX5_touch_20 : decode cX5_touch 20 = .ok (.iload_n 2, 1) := by decide +kernel
theorem dX5_touch_21 : decode cX5_touch 21 = .ok (.iload_n 3, 1) := by decide +kernel
theorem dX5_touch_22 : decode cX5_touch 22 = .ok (.invokevirtual 64, 3) := by decide +kernel
theorem dX5_touch_25 : decode cX5_touch 25 = .ok (.invokevirtual 56, 3) := by decide +kernel
theorem dX5_touch_28 : decode cX5_touch 28 = .ok (.ireturn, 1) := by decide +kernel
set_option maxRecDepth 20000 in
theorem ggX5_mend_X3_prepare : GoodIn wsX5_mend wsX3_prepare := goodIn_r _ [6, 7, 8, 9, 10, 11, 12, 13, 14, 15, 16, 17, 18, 19, 20, 21, 22, 23, 24, 25, 26, 27, 28, 46, 47, 48, 49, 50, 51, 52, 53, 54, 55, 56, 57, 58, 59, 60] (by decide +kernel) (by decide +kernel)
set_option maxRecDepth 20000 in
theorem gX5_mend_X3_prepare_n48 : GoodIn wsX5_mend (wsX3_prepare) := ggX5_mend_X3_prepare
set_option maxRecDepth 20000 in
theorem ggX5_mend_X0_part : GoodIn wsX5_mend wsX0_part := goodIn_r _ [31, 20, 21, 22, 32, 33, 34, 10, 35, 23, 25, 24, 48, 49, 50, 51, 52, 53, 54, 55, 56, 57, 58, 59, 60] (by decide +kernel) (by decide +kernel)
set_option maxRecDepth 20000 in
theorem gX5_mend_X0_part_n67 : GoodIn wsX5_mend (wsX0_part) := ggX5_mend_X0_part
set_option maxRecDepth 20000 in
theorem ggX5_mend_X3_kept : GoodIn wsX5_mend wsX3_kept := goodIn_r _ [38, 8, 7, 46, 47] (by decide +kernel) (by decide +kernel)
set_option maxRecDepth 20000 in
theorem gX5_mend_X3_kept_n56 : GoodIn wsX5_mend (wsX3_kept) := ggX5_mend_X3_kept
theorem dX5_mend_0 : decode cX5_mend 0 = .ok (.aload_n 0, 1) := by decide +kernel
theorem dX5_mend_1 : decode cX5_mend 1 = .ok (.getfield 29, 3) := by decide +kernel
theorem dX5_mend_4 : decode cX5_mend 4 = .ok (.aload_n 0, 1) := by decide +kernel
theorem dX5_mend_5 : decode cX5_mend 5 = .ok (.getfield 10, 3) := by decide +kernel
theorem dX5_mend_8 : decode cX5_mend 8 = .ok (.invokevirtual 48, 3) := by decide +kernel
theorem dX5_mend_11 : decode cX5_mend 11 = .ok (.aload_n 0, 1) := by decide +kernel
theorem dX5_mend_12 : decode cX5_mend 12 = .ok (.getfield 29, 3) := by decide +kernel
theorem dX5_mend_15 : decode cX5_mend 15 = .ok (.aload_n 0, 1) := by decide +kernel
theorem dX5_mend_16 : decode cX5_mend 16 = .ok (.getfield 10, 3) := by decide +kernel
theorem dX5_mend_19 : decode cX5_mend 19 = .ok (.iload_n 1, 1) := by decide +kernel
theorem dX5_mend_20 : decode cX5_mend 20 = .ok (.invokevirtual 67, 3) := by decide +kernel
theorem dX5_mend_23 : decode cX5_mend 23 = .ok (.invokevirtual 56, 3) := by decide +kernel
theorem dX5_mend_26 : decode cX5_mend 26 = .ok (.ireturn, 1) := by decide +kernel
set_option maxRecDepth 20000 in
theorem ggX5_feed_X3_prepare : GoodIn wsX5_feed wsX3_prepare := goodIn_r _ [6, 7, 8, 9, 10, 11, 12, 13, 14, 15, 16, 17, 18, 19, 20, 21, 22, 23, 24, 25, 26, 27, 28, 53, 54, 55, 56, 57, 58, 59, 60, 61, 62, 63, 64, 65, 66, 67] (by decide +kernel) (by decide +kernel)
set_option maxRecDepth 20000 in
theorem gX5_feed_X3_prepare_n48 : GoodIn wsX5_feed (wsX3_prepare) := ggX5_feed_X3_prepare
set_option maxRecDepth 20000 in
theorem ggX5_feed_X0_turnPair : GoodIn wsX5_feed wsX0_turnPair := goodIn_r _ [31, 19, 32, 33, 34, 35, 36, 37, 10, 38, 23, 25, 24, 39, 40, 41, 42, 55, 56, 57, 58, 59, 60, 61, 62, 63, 64, 65, 66, 67] (by decide +kernel) (by decide +kernel)
set_option maxRecDepth 20000 in
theorem gX5_feed_X0_turnPair_n70 : GoodIn wsX5_feed (wsX0_turnPair) := ggX5_feed_X0_turnPair
set_option maxRecDepth 20000 in
theorem ggX5_feed_X3_kept : GoodIn wsX5_feed wsX3_kept := goodIn_r _ [45, 8, 7, 53, 54] (by decide +kernel) (by decide +kernel)
set_option maxRecDepth 20000 in
theorem gX5_feed_X3_kept_n56 : GoodIn wsX5_feed (wsX3_kept) := ggX5_feed_X3_kept
theorem dX5_feed_0 : decode cX5_feed 0 = .ok (.aload_n 0, 1) := by decide +kernel
theorem dX5_feed_1 : decode cX5_feed 1 = .ok (.getfield 29, 3) := by decide +kernel
theorem dX5_feed_4 : decode cX5_feed 4 = .ok (.aload_n 0, 1) := by decide +kernel
theorem dX5_feed_5 : decode cX5_feed 5 = .ok (.getfield 10, 3) := by decide +kernel
theorem dX5_feed_8 : decode cX5_feed 8 = .ok (.invokevirtual 48, 3) := by decide +kernel
theorem dX5_feed_11 : decode cX5_feed 11 = .ok (.aload_n 0, 1) := by decide +kernel
theorem dX5_feed_12 : decode cX5_feed 12 = .ok (.getfield 29, 3) := by decide +kernel
theorem dX5_feed_15 : decode cX5_feed 15 = .ok (.aload_n 0, 1) := by decide +kernel
theorem dX5_feed_16 : decode cX5_feed 16 = .ok (.getfield 10, 3) := by decide +kernel
theorem dX5_feed_19 : decode cX5_feed 19 = .ok (.iload_n 1, 1) := by decide +kernel
theorem dX5_feed_20 : decode cX5_feed 20 = .ok (.iload_n 2, 1) := by decide +kernel
theorem dX5_feed_21 : decode cX5_feed 21 = .ok (.invokevirtual 70, 3) := by decide +kernel
theorem dX5_feed_24 : decode cX5_feed 24 = .ok (.invokevirtual 56, 3) := by decide +kernel
theorem dX5_feed_27 : decode cX5_feed 27 = .ok (.ireturn, 1) := by decide +kernel
set_option maxRecDepth 20000 in
theorem ggX5_cool_X3_prepare : GoodIn wsX5_cool wsX3_prepare := goodIn_r _ [6, 7, 8, 9, 10, 11, 12, 13, 14, 15, 16, 17, 18, 19, 20, 21, 22, 23, 24, 25, 26, 27, 28, 55, 56, 42, 43, 44, 45, 46, 47, 48, 49, 50, 51, 52, 53, 54] (by decide +kernel) (by decide +kernel)
set_option maxRecDepth 20000 in
theorem gX5_cool_X3_prepare_n48 : GoodIn wsX5_cool (wsX3_prepare) := ggX5_cool_X3_prepare
set_option maxRecDepth 20000 in
theorem ggX5_cool_X0_beginRun : GoodIn wsX5_cool wsX0_beginRun := goodIn_r _ [31, 23, 25, 24, 42, 43, 44, 45, 46, 47, 48, 49, 50, 51, 52, 53, 54] (by decide +kernel) (by decide +kernel)
set_option maxRecDepth 20000 in
theorem gX5_cool_X0_beginRun_n77 : GoodIn wsX5_cool (wsX0_beginRun) := ggX5_cool_X0_beginRun
set_option maxRecDepth 20000 in
theorem ggX5_cool_X3_kept : GoodIn wsX5_cool wsX3_kept := goodIn_r _ [34, 8, 7, 55, 56] (by decide +kernel) (by decide +kernel)
set_option maxRecDepth 20000 in
theorem gX5_cool_X3_kept_n56 : GoodIn wsX5_cool (wsX3_kept) := ggX5_cool_X3_kept
theorem dX5_cool_0 : decode cX5_cool 0 = .ok (.aload_n 0, 1) := by decide +kernel
theorem dX5_cool_1 : decode cX5_cool 1 = .ok (.getfield 29, 3) := by decide +kernel
theorem dX5_cool_4 : decode cX5_cool 4 = .ok (.aload_n 0, 1) := by decide +kernel
theorem dX5_cool_5 : decode cX5_cool 5 = .ok (.getfield 10, 3) := by decide +kernel
theorem dX5_cool_8 : decode cX5_cool 8 = .ok (.invokevirtual 48, 3) := by decide +kernel
theorem dX5_cool_11 : decode cX5_cool 11 = .ok (.aload_n 0, 1) := by decide +kernel
theorem dX5_cool_12 : decode cX5_cool 12 = .ok (.getfield 10, 3) := by decide +kernel
theorem dX5_cool_15 : decode cX5_cool 15 = .ok (.getfield 73, 3) := by decide +kernel
theorem dX5_cool_18 : decode cX5_cool 18 = .ok (.istore_n 1, 1) := by decide +kernel
theorem dX5_cool_19 : decode cX5_cool 19 = .ok (.aload_n 0, 1) := by decide +kernel
theorem dX5_cool_20 : decode cX5_cool 20 = .ok (.getfield 10, 3) := by decide +kernel
theorem dX5_cool_23 : decode cX5_cool 23 = .ok (.invokevirtual 77, 3) := by decide +kernel
theorem dX5_cool_26 : decode cX5_cool 26 = .ok (.aload_n 0, 1) := by decide +kernel
theorem dX5_cool_27 : decode cX5_cool 27 = .ok (.getfield 29, 3) := by decide +kernel
theorem dX5_cool_30 : decode cX5_cool 30 = .ok (.iload_n 1, 1) := by decide +kernel
theorem dX5_cool_31 : decode cX5_cool 31 = .ok (.invokevirtual 56, 3) := by decide +kernel
theorem dX5_cool_34 : decode cX5_cool 34 = .ok (.ireturn, 1) := by decide +kernel
set_option maxRecDepth 20000 in
theorem ggX5_warm_X3_prepare : GoodIn wsX5_warm wsX3_prepare := goodIn_r _ [6, 7, 8, 9, 10, 11, 12, 13, 14, 15, 16, 17, 18, 19, 20, 21, 22, 23, 24, 25, 26, 27, 28, 66, 67, 68, 69, 70, 71, 72, 73, 74, 75, 76, 77, 78, 79, 80] (by decide +kernel) (by decide +kernel)
set_option maxRecDepth 20000 in
theorem gX5_warm_X3_prepare_n48 : GoodIn wsX5_warm (wsX3_prepare) := ggX5_warm_X3_prepare
set_option maxRecDepth 20000 in
theorem ggX5_warm_X0_letPass : GoodIn wsX5_warm wsX0_letPass := goodIn_r _ [31, 23, 32, 33, 34, 10, 35, 20, 21, 36, 37, 38, 39, 18, 22, 40, 41, 42, 43, 19, 44, 45, 46, 47, 24, 48, 13, 14, 15, 16, 17, 49, 50, 51, 52, 53, 54, 55, 68, 69, 70, 71, 72, 73, 74, 75, 76, 77, 78, 79, 80] (by decide +kernel) (by decide +kernel)
set_option maxRecDepth 20000 in
theorem gX5_warm_X0_letPass_n80 : GoodIn wsX5_warm (wsX0_letPass) := ggX5_warm_X0_letPass
set_option maxRecDepth 20000 in
theorem ggX5_warm_X3_kept : GoodIn wsX5_warm wsX3_kept := goodIn_r _ [58, 8, 7, 66, 67] (by decide +kernel) (by decide +kernel)
set_option maxRecDepth 20000 in
theorem gX5_warm_X3_kept_n56 : GoodIn wsX5_warm (wsX3_kept) := ggX5_warm_X3_kept
theorem dX5_warm_0 : decode cX5_warm 0 = .ok (.aload_n 0, 1) := by decide +kernel
theorem dX5_warm_1 : decode cX5_warm 1 = .ok (.getfield 29, 3) := by decide +kernel
theorem dX5_warm_4 : decode cX5_warm 4 = .ok (.aload_n 0, 1) := by decide +kernel
theorem dX5_warm_5 : decode cX5_warm 5 = .ok (.getfield 10, 3) := by decide +kernel
theorem dX5_warm_8 : decode cX5_warm 8 = .ok (.invokevirtual 48, 3) := by decide +kernel
theorem dX5_warm_11 : decode cX5_warm 11 = .ok (.aload_n 0, 1) := by decide +kernel
theorem dX5_warm_12 : decode cX5_warm 12 = .ok (.getfield 29, 3) := by decide +kernel
theorem dX5_warm_15 : decode cX5_warm 15 = .ok (.aload_n 0, 1) := by decide +kernel
theorem dX5_warm_16 : decode cX5_warm 16 = .ok (.getfield 10, 3) := by decide +kernel
theorem dX5_warm_19 : decode cX5_warm 19 = .ok (.iload_n 1, 1) := by decide +kernel
theorem dX5_warm_20 : decode cX5_warm 20 = .ok (.invokevirtual 80, 3) := by decide +kernel
theorem dX5_warm_23 : decode cX5_warm 23 = .ok (.invokevirtual 56, 3) := by decide +kernel
theorem dX5_warm_26 : decode cX5_warm 26 = .ok (.ireturn, 1) := by decide +kernel
set_option maxRecDepth 20000 in
theorem ggX5_probe_X3_prepare : GoodIn wsX5_probe wsX3_prepare := goodIn_r _ [6, 7, 8, 9, 10, 11, 12, 13, 14, 15, 16, 17, 18, 19, 20, 21, 22, 23, 24, 25, 26, 27, 28, 48, 49, 50, 51, 52, 53, 54, 55, 56, 57, 58, 59, 60, 61, 62] (by decide +kernel) (by decide +kernel)
set_option maxRecDepth 20000 in
theorem gX5_probe_X3_prepare_n48 : GoodIn wsX5_probe (wsX3_prepare) := ggX5_probe_X3_prepare
set_option maxRecDepth 20000 in
theorem ggX5_probe_X0_measure : GoodIn wsX5_probe wsX0_measure := goodIn_r _ [31, 25, 24, 26, 27, 28, 23, 32, 33, 34, 35, 36, 37, 50, 51, 52, 53, 54, 55, 56, 57, 58, 59, 60, 61, 62] (by decide +kernel) (by decide +kernel)
set_option maxRecDepth 20000 in
theorem gX5_probe_X0_measure_n83 : GoodIn wsX5_probe (wsX0_measure) := ggX5_probe_X0_measure
set_option maxRecDepth 20000 in
theorem ggX5_probe_X3_kept : GoodIn wsX5_probe wsX3_kept := goodIn_r _ [40, 8, 7, 48, 49] (by decide +kernel) (by decide +kernel)
set_option maxRecDepth 20000 in
theorem gX5_probe_X3_kept_n56 : GoodIn wsX5_probe (wsX3_kept) := ggX5_probe_X3_kept
theorem dX5_probe_0 : decode cX5_probe 0 = .ok (.aload_n 0, 1) := by decide +kernel
theorem dX5_probe_1 : decode cX5_probe 1 = .ok (.getfield 29, 3) := by decide +kernel
theorem dX5_probe_4 : decode cX5_probe 4 = .ok (.aload_n 0, 1) := by decide +kernel
theorem dX5_probe_5 : decode cX5_probe 5 = .ok (.getfield 10, 3) := by decide +kernel
theorem dX5_probe_8 : decode cX5_probe 8 = .ok (.invokevirtual 48, 3) := by decide +kernel
theorem dX5_probe_11 : decode cX5_probe 11 = .ok (.aload_n 0, 1) := by decide +kernel
theorem dX5_probe_12 : decode cX5_probe 12 = .ok (.getfield 29, 3) := by decide +kernel
theorem dX5_probe_15 : decode cX5_probe 15 = .ok (.aload_n 0, 1) := by decide +kernel
theorem dX5_probe_16 : decode cX5_probe 16 = .ok (.getfield 10, 3) := by decide +kernel
theorem dX5_probe_19 : decode cX5_probe 19 = .ok (.iload_n 1, 1) := by decide +kernel
theorem dX5_probe_20 : decode cX5_probe 20 = .ok (.iload_n 2, 1) := by decide +kernel
theorem dX5_probe_21 : decode cX5_probe 21 = .ok (.invokevirtual 83, 3) := by decide +kernel
theorem dX5_probe_24 : decode cX5_probe 24 = .ok (.invokevirtual 56, 3) := by decide +kernel
theorem dX5_probe_27 : decode cX5_probe 27 = .ok (.ireturn, 1) := by decide +kernel
set_option maxRecDepth 20000 in
theorem ggX5_at_X5_placeOf : GoodIn wsX5_at wsX5_placeOf := goodIn_r _ [6] (by decide +kernel) (by decide +kernel)
set_option maxRecDepth 20000 in
theorem gX5_at_X5_placeOf : GoodIn wsX5_at (va_wsS RX5 86 yX5_placeOf wsX5_placeOf) := goodIn_app (goodIn_of _ (by decide +kernel)) ggX5_at_X5_placeOf
set_option maxRecDepth 20000 in
theorem ggX5_at_X5_bitsOfFloat : GoodIn wsX5_at wsX5_bitsOfFloat := goodIn_r _ [9, 10, 11] (by decide +kernel) (by decide +kernel)
set_option maxRecDepth 20000 in
theorem gX5_at_X5_bitsOfFloat : GoodIn wsX5_at (va_wsS RX5 97 yX5_bitsOfFloat wsX5_bitsOfFloat) := goodIn_app (goodIn_of _ (by decide +kernel)) ggX5_at_X5_bitsOfFloat
set_option maxRecDepth 20000 in
theorem ggX5_at_X5_readOf : GoodIn wsX5_at wsX5_readOf := goodIn_r _ [14, 15] (by decide +kernel) (by decide +kernel)
set_option maxRecDepth 20000 in
theorem gX5_at_X5_readOf : GoodIn wsX5_at (va_wsS RX5 101 yX5_readOf wsX5_readOf) := goodIn_app (goodIn_of _ (by decide +kernel)) ggX5_at_X5_readOf
set_option maxRecDepth 20000 in
theorem ggX5_at_X0_isSuspect : GoodIn wsX5_at wsX0_isSuspect := goodIn_r _ [19, 20, 21, 5, 22, 23, 24, 25, 17, 26, 27, 83, 84, 85, 86, 87, 88, 89, 90, 91, 92, 93, 94, 95] (by decide +kernel) (by decide +kernel)
set_option maxRecDepth 20000 in
theorem gX5_at_X0_isSuspect_n104 : GoodIn wsX5_at (wsX0_isSuspect) := ggX5_at_X0_isSuspect
set_option maxRecDepth 20000 in
theorem ggX5_at_X4_couldBe : GoodIn wsX5_at wsX4_couldBe := goodIn_r _ [31, 16, 17, 18, 19, 20, 21, 5, 22, 23, 24, 25, 26, 27, 32, 33, 34, 29, 35, 36, 37, 38, 39, 40, 41, 42, 43, 44, 45, 46, 47, 48, 49, 50, 51, 52, 53, 54, 55, 56, 57, 58, 59, 60, 61, 13, 14, 15, 83, 84, 85, 86, 87, 88, 89, 90, 91, 92, 93, 94, 95, 96, 97, 98, 99, 100] (by decide +kernel) (by decide +kernel)
set_option maxRecDepth 20000 in
theorem gX5_at_X4_couldBe_n108 : GoodIn wsX5_at (wsX4_couldBe) := ggX5_at_X4_couldBe
set_option maxRecDepth 20000 in
theorem ggX5_at_X4_couldBeOneOfTwo : GoodIn wsX5_at wsX4_couldBeOneOfTwo := goodIn_r _ [64, 65, 66, 39, 67, 68, 69, 70, 16, 17, 18, 19, 20, 21, 5, 22, 23, 24, 25, 26, 27, 32, 33, 34, 29, 35, 36, 37, 38, 40, 41, 42, 43, 44, 45, 46, 47, 48, 49, 50, 51, 52, 53, 54, 55, 56, 57, 58, 59, 60, 61, 13, 14, 15, 83, 84, 85, 86, 87, 88, 89, 90, 91, 92, 93, 94, 95, 96, 97, 98, 99, 100] (by decide +kernel) (by decide +kernel)
set_option maxRecDepth 20000 in
theorem gX5_at_X4_couldBeOneOfTwo_n112 : GoodIn wsX5_at (wsX4_couldBeOneOfTwo) := ggX5_at_X4_couldBeOneOfTwo
set_option maxRecDepth 20000 in
theorem ggX5_at_X0_touchAt : GoodIn wsX5_at wsX0_touchAt := goodIn_r _ [73, 74, 75, 83, 84, 85, 86, 87, 88, 89, 90, 91, 92, 93, 94, 95] (by decide +kernel) (by decide +kernel)
set_option maxRecDepth 20000 in
theorem gX5_at_X0_touchAt_n115 : GoodIn wsX5_at (wsX0_touchAt) := ggX5_at_X0_touchAt
theorem dX5_at_0 : decode cX5_at 0 = .ok (.iload_n 1, 1) := by decide +kernel
theorem dX5_at_1 : decode cX5_at 1 = .ok (.iload_n 2, 1) := by decide +kernel
theorem dX5_at_2 : decode cX5_at 2 = .ok (.invokestatic 86, 3) := by decide +kernel
theorem dX5_at_5 : decode cX5_at 5 = .ok (.istore 4, 2) := by decide +kernel
theorem dX5_at_7 : decode cX5_at 7 = .ok (.iload 4, 2) := by decide +kernel
theorem dX5_at_9 : decode cX5_at 9 = .ok (.ifCond .ge 5, 3) := by decide +kernel
theorem dX5_at_12 : decode cX5_at 12 = .ok (.iconst (-1), 1) := by decide +kernel
theorem dX5_at_13 : decode cX5_at 13 = .ok (.ireturn, 1) := by decide +kernel
theorem dX5_at_14 : decode cX5_at 14 = .ok (.iload_n 3, 1) := by decide +kernel
theorem dX5_at_15 : decode cX5_at 15 = .ok (.tableswitch 152 0 6 #[41, 52, 66, 80, 98, 120, 142], 41) := by decide +kernel
theorem dX5_at_56 : decode cX5_at 56 = .ok (.aload_n 0, 1) := by decide +kernel
theorem dX5_at_57 : decode cX5_at 57 = .ok (.getfield 10, 3) := by decide +kernel
theorem dX5_at_60 : decode cX5_at 60 = .ok (.getfield 89, 3) := by decide +kernel
theorem dX5_at_63 : decode cX5_at 63 = .ok (.iload 4, 2) := by decide +kernel
theorem dX5_at_65 : decode cX5_at 65 = .ok (.iaload, 1) := by decide +kernel
theorem dX5_at_66 : decode cX5_at 66 = .ok (.ireturn, 1) := by decide +kernel
theorem dX5_at_67 : decode cX5_at 67 = .ok (.aload_n 0, 1) := by decide +kernel
theorem dX5_at_68 : decode cX5_at 68 = .ok (.getfield 10, 3) := by decide +kernel
theorem dX5_at_71 : decode cX5_at 71 = .ok (.getfield 93, 3) := by decide +kernel
theorem dX5_at_74 : decode cX5_at 74 = .ok (.iload 4, 2) := by decide +kernel
theorem dX5_at_76 : decode cX5_at 76 = .ok (.faload, 1) := by decide +kernel
theorem dX5_at_77 : decode cX5_at 77 = .ok (.invokestatic 97, 3) := by decide +kernel
theorem dX5_at_80 : decode cX5_at 80 = .ok (.ireturn, 1) := by decide +kernel
theorem dX5_at_81 : decode cX5_at 81 = .ok (.aload_n 0, 1) := by decide +kernel
theorem dX5_at_82 : decode cX5_at 82 = .ok (.getfield 10, 3) := by decide +kernel
theorem dX5_at_85 : decode cX5_at 85 = .ok (.getfield 93, 3) := by decide +kernel
theorem dX5_at_88 : decode cX5_at 88 = .ok (.iload 4, 2) := by decide +kernel
theorem dX5_at_90 : decode cX5_at 90 = .ok (.faload, 1) := by decide +kernel
theorem dX5_at_91 : decode cX5_at 91 = .ok (.invokestatic 101, 3) := by decide +kernel
theorem dX5_at_94 : decode cX5_at 94 = .ok (.ireturn, 1) := by decide +kernel
theorem dX5_at_95 : decode cX5_at 95 = .ok (.aload_n 0, 1) := by decide +kernel
theorem dX5_at_96 : decode cX5_at 96 = .ok (.getfield 10, 3) := by decide +kernel
theorem dX5_at_99 : decode cX5_at 99 = .ok (.iload 4, 2) := by decide +kernel
theorem dX5_at_101 : decode cX5_at 101 = .ok (.invokevirtual 104, 3) := by decide +kernel
theorem dX5_at_104 : decode cX5_at 104 = .ok (.ifCond .eq 7, 3) := by decide +kernel
theorem dX5_at_107 : decode cX5_at 107 = .ok (.iconst 1, 1) := by decide +kernel
theorem dX5_at_108 : decode cX5_at 108 = .ok (.goto 4, 3) := by decide +kernel
theorem dX5_at_111 : decode cX5_at 111 = .ok (.iconst 0, 1) := by decide +kernel
theorem dX5_at_112 : decode cX5_at 112 = .ok (.ireturn, 1) := by decide +kernel
theorem dX5_at_113 : decode cX5_at 113 = .ok (.aload_n 0, 1) := by decide +kernel
theorem dX5_at_114 : decode cX5_at 114 = .ok (.getfield 22, 3) := by decide +kernel
theorem dX5_at_117 : decode cX5_at 117 = .ok (.aload_n 0, 1) := by decide +kernel
theorem dX5_at_118 : decode cX5_at 118 = .ok (.getfield 10, 3) := by decide +kernel
theorem dX5_at_121 : decode cX5_at 121 = .ok (.iload 4, 2) := by decide +kernel
theorem dX5_at_123 : decode cX5_at 123 = .ok (.invokevirtual 108, 3) := by decide +kernel
theorem dX5_at_126 : decode cX5_at 126 = .ok (.ifCond .eq 7, 3) := by decide +kernel
theorem dX5_at_129 : decode cX5_at 129 = .ok (.iconst 1, 1) := by decide +kernel
theorem dX5_at_130 : decode cX5_at 130 = .ok (.goto 4, 3) := by decide +kernel
theorem dX5_at_133 : decode cX5_at 133 = .ok (.iconst 0, 1) := by decide +kernel
theorem dX5_at_134 : decode cX5_at 134 = .ok (.ireturn, 1) := by decide +kernel
theorem dX5_at_135 : decode cX5_at 135 = .ok (.aload_n 0, 1) := by decide +kernel
theorem dX5_at_136 : decode cX5_at 136 = .ok (.getfield 22, 3) := by decide +kernel
theorem dX5_at_139 : decode cX5_at 139 = .ok (.aload_n 0, 1) := by decide +kernel
theorem dX5_at_140 : decode cX5_at 140 = .ok (.getfield 10, 3) := by decide +kernel
theorem dX5_at_143 : decode cX5_at 143 = .ok (.iload 4, 2) := by decide +kernel
theorem dX5_at_145 : decode cX5_at 145 = .ok (.invokevirtual 112, 3) := by decide +kernel
theorem dX5_at_148 : decode cX5_at 148 = .ok (.ifCond .eq 7, 3) := by decide +kernel
theorem dX5_at_151 : decode cX5_at 151 = .ok (.iconst 1, 1) := by decide +kernel
theorem dX5_at_152 : decode cX5_at 152 = .ok (.goto 4, 3) := by decide +kernel
theorem dX5_at_155 : decode cX5_at 155 = .ok (.iconst 0, 1) := by decide +kernel
theorem dX5_at_156 : decode cX5_at 156 = .ok (.ireturn, 1) := by decide +kernel
theorem dX5_at_157 : decode cX5_at 157 = .ok (.aload_n 0, 1) := by decide +kernel
theorem dX5_at_158 : decode cX5_at 158 = .ok (.getfield 10, 3) := by decide +kernel
theorem dX5_at_161 : decode cX5_at 161 = .ok (.iload 4, 2) := by decide +kernel
theorem dX5_at_163 : decode cX5_at 163 = .ok (.invokevirtual 115, 3) := by decide +kernel
theorem dX5_at_166 : decode cX5_at 166 = .ok (.ireturn, 1) := by decide +kernel
theorem dX5_at_167 : decode cX5_at 167 = .ok (.bipush (-2), 2) := by decide +kernel
theorem dX5_at_169 : decode cX5_at 169 = .ok (.ireturn, 1) := by decide +kernel
set_option maxRecDepth 20000 in
theorem ggX5_row_X0_tracked : GoodIn wsX5_row wsX0_tracked := goodIn_r _ [6, 7, 75, 76, 77, 78, 79, 80, 81, 82, 83, 84, 85, 86, 87] (by decide +kernel) (by decide +kernel)
set_option maxRecDepth 20000 in
theorem gX5_row_X0_tracked_n118 : GoodIn wsX5_row (wsX0_tracked) := ggX5_row_X0_tracked
set_option maxRecDepth 20000 in
theorem ggX5_row_X5_columnsOf : GoodIn wsX5_row wsX5_columnsOf := goodIn_r _ [11, 12] (by decide +kernel) (by decide +kernel)
set_option maxRecDepth 20000 in
theorem gX5_row_X5_columnsOf : GoodIn wsX5_row (va_wsS RX5 122 yX5_columnsOf wsX5_columnsOf) := goodIn_app (goodIn_of _ (by decide +kernel)) ggX5_row_X5_columnsOf
set_option maxRecDepth 20000 in
theorem ggX5_row_X0_suspects : GoodIn wsX5_row wsX0_suspects := goodIn_r _ [15, 16, 17, 18, 4, 19, 7, 20, 10, 21, 22, 23, 24, 25, 26, 75, 76, 77, 78, 79, 80, 81, 82, 83, 84, 85, 86, 87] (by decide +kernel) (by decide +kernel)
set_option maxRecDepth 20000 in
theorem gX5_row_X0_suspects_n126 : GoodIn wsX5_row (wsX0_suspects) := ggX5_row_X0_suspects
set_option maxRecDepth 20000 in
theorem ggX5_row_X4_fitting : GoodIn wsX5_row wsX4_fitting := goodIn_r _ [30, 31, 32, 33, 28, 34, 17, 4, 18, 19, 7, 20, 10, 21, 22, 23, 24, 25, 26, 35, 36, 37, 38, 39, 40, 41, 42, 43, 44, 45, 46, 47, 48, 49, 50, 51, 52, 53, 54, 55, 56, 57, 58, 59, 60, 61, 62, 63, 64, 65, 66, 67, 75, 76, 77, 78, 79, 80, 81, 82, 83, 84, 85, 86, 87, 88, 89, 90, 91, 92] (by decide +kernel) (by decide +kernel)
set_option maxRecDepth 20000 in
theorem gX5_row_X4_fitting_n129 : GoodIn wsX5_row (wsX4_fitting) := ggX5_row_X4_fitting
theorem dX5_row_0 : decode cX5_row 0 = .ok (.iload_n 1, 1) := by decide +kernel
theorem dX5_row_1 : decode cX5_row 1 = .ok (.ifCond .lt 9, 3) := by decide +kernel
theorem dX5_row_4 : decode cX5_row 4 = .ok (.iload_n 1, 1) := by decide +kernel
theorem dX5_row_5 : decode cX5_row 5 = .ok (.bipush 8, 2) := by decide +kernel
theorem dX5_row_7 : decode cX5_row 7 = .ok (.if_icmp .lt 5, 3) := by decide +kernel
theorem dX5_row_10 : decode cX5_row 10 = .ok (.iconst (-1), 1) := by decide +kernel
theorem dX5_row_11 : decode cX5_row 11 = .ok (.ireturn, 1) := by decide +kernel
theorem dX5_row_12 : decode cX5_row 12 = .ok (.iload_n 2, 1) := by decide +kernel
theorem dX5_row_13 : decode cX5_row 13 = .ok (.tableswitch 67 0 2 #[27, 39, 51], 27) := by decide +kernel
theorem dX5_row_40 : decode cX5_row 40 = .ok (.aload_n 0, 1) := by decide +kernel
theorem dX5_row_41 : decode cX5_row 41 = .ok (.getfield 10, 3) := by decide +kernel
theorem dX5_row_44 : decode cX5_row 44 = .ok (.invokevirtual 118, 3) := by decide +kernel
theorem dX5_row_47 : decode cX5_row 47 = .ok (.iload_n 1, 1) := by decide +kernel
theorem dX5_row_48 : decode cX5_row 48 = .ok (.invokestatic 122, 3) := by decide +kernel
theorem dX5_row_51 : decode cX5_row 51 = .ok (.ireturn, 1) := by decide +kernel
theorem dX5_row_52 : decode cX5_row 52 = .ok (.aload_n 0, 1) := by decide +kernel
theorem dX5_row_53 : decode cX5_row 53 = .ok (.getfield 10, 3) := by decide +kernel
theorem dX5_row_56 : decode cX5_row 56 = .ok (.invokevirtual 126, 3) := by decide +kernel
theorem dX5_row_59 : decode cX5_row 59 = .ok (.iload_n 1, 1) := by decide +kernel
theorem dX5_row_60 : decode cX5_row 60 = .ok (.invokestatic 122, 3) := by decide +kernel
theorem dX5_row_63 : decode cX5_row 63 = .ok (.ireturn, 1) := by decide +kernel
theorem dX5_row_64 : decode cX5_row 64 = .ok (.aload_n 0, 1) := by decide +kernel
theorem dX5_row_65 : decode cX5_row 65 = .ok (.getfield 22, 3) := by decide +kernel
theorem dX5_row_68 : decode cX5_row 68 = .ok (.aload_n 0, 1) := by decide +kernel
theorem dX5_row_69 : decode cX5_row 69 = .ok (.getfield 10, 3) := by decide +kernel
theorem dX5_row_72 : decode cX5_row 72 = .ok (.invokevirtual 129, 3) := by decide +kernel
theorem dX5_row_75 : decode cX5_row 75 = .ok (.iload_n 1, 1) := by decide +kernel
theorem dX5_row_76 : decode cX5_row 76 = .ok (.invokestatic 122, 3) := by decide +kernel
theorem dX5_row_79 : decode cX5_row 79 = .ok (.ireturn, 1) := by decide +kernel
theorem dX5_row_80 : decode cX5_row 80 = .ok (.bipush (-2), 2) := by decide +kernel
theorem dX5_row_82 : decode cX5_row 82 = .ok (.ireturn, 1) := by decide +kernel
set_option maxRecDepth 20000 in
theorem ggX5_ofTouch_X0_isLive : GoodIn wsX5_ofTouch wsX0_isLive := goodIn_r _ [5, 6, 7, 8, 9, 10, 11, 3, 12, 13, 21, 22, 23, 24, 25, 26, 27, 28, 29, 30, 31, 32, 33] (by decide +kernel) (by decide +kernel)
set_option maxRecDepth 20000 in
theorem gX5_ofTouch_X0_isLive_n142 : GoodIn wsX5_ofTouch (wsX0_isLive) := ggX5_ofTouch_X0_isLive
theorem dX5_ofTouch_0 : decode cX5_ofTouch 0 = .ok (.iload_n 1, 1) := by decide +kernel
theorem dX5_ofTouch_1 : decode cX5_ofTouch 1 = .ok (.ifCond .lt 14, 3) := by decide +kernel
theorem dX5_ofTouch_4 : decode cX5_ofTouch 4 = .ok (.iload_n 1, 1) := by decide +kernel
theorem dX5_ofTouch_5 : decode cX5_ofTouch 5 = .ok (.aload_n 0, 1) := by decide +kernel
theorem dX5_ofTouch_6 : decode cX5_ofTouch 6 = .ok (.getfield 10, 3) := by decide +kernel
theorem dX5_ofTouch_9 : decode cX5_ofTouch 9 = .ok (.getfield 133, 3) := by decide +kernel
theorem dX5_ofTouch_12 : decode cX5_ofTouch 12 = .ok (.if_icmp .lt 5, 3) := by decide +kernel
theorem dX5_ofTouch_15 : decode cX5_ofTouch 15 = .ok (.iconst (-1), 1) := by decide +kernel
theorem dX5_ofTouch_16 : decode cX5_ofTouch 16 = .ok (.ireturn, 1) := by decide +kernel
theorem dX5_ofTouch_17 : decode cX5_ofTouch 17 = .ok (.iload_n 2, 1) := by decide +kernel
theorem dX5_ofTouch_18 : decode cX5_ofTouch 18 = .ok (.tableswitch 85 0 3 #[30, 40, 58, 68], 30) := by decide +kernel
theorem dX5_ofTouch_48 : decode cX5_ofTouch 48 = .ok (.aload_n 0, 1) := by decide +kernel
theorem dX5_ofTouch_49 : decode cX5_ofTouch 49 = .ok (.getfield 10, 3) := by decide +kernel
theorem dX5_ofTouch_52 : decode cX5_ofTouch 52 = .ok (.getfield 136, 3) := by decide +kernel
theorem dX5_ofTouch_55 : decode cX5_ofTouch 55 = .ok (.iload_n 1, 1) := by decide +kernel
theorem dX5_ofTouch_56 : decode cX5_ofTouch 56 = .ok (.iaload, 1) := by decide +kernel
theorem dX5_ofTouch_57 : decode cX5_ofTouch 57 = .ok (.ireturn, 1) := by decide +kernel
theorem dX5_ofTouch_58 : decode cX5_ofTouch 58 = .ok (.aload_n 0, 1) := by decide +kernel
theorem dX5_ofTouch_59 : decode cX5_ofTouch 59 = .ok (.getfield 10, 3) := by decide +kernel
theorem dX5_ofTouch_62 : decode cX5_ofTouch 62 = .ok (.getfield 89, 3) := by decide +kernel
theorem dX5_ofTouch_65 : decode cX5_ofTouch 65 = .ok (.aload_n 0, 1) := by decide +kernel
theorem dX5_ofTouch_66 : decode cX5_ofTouch 66 = .ok (.getfield 10, 3) := by decide +kernel
theorem dX5_ofTouch_69 : decode cX5_ofTouch 69 = .ok (.getfield 136, 3) := by decide +kernel
theorem dX5_ofTouch_72 : decode cX5_ofTouch 72 = .ok (.iload_n 1, 1) := by decide +kernel
theorem dX5_ofTouch_73 : decode cX5_ofTouch 73 = .ok (.iaload, 1) := by decide +kernel
theorem dX5_ofTouch_74 : decode cX5_ofTouch 74 = .ok (.iaload, 1) := by decide +kernel
theorem dX5_ofTouch_75 : decode cX5_ofTouch 75 = .ok (.ireturn, 1) := by decide +kernel
theorem dX5_ofTouch_76 : decode cX5_ofTouch 76 = .ok (.aload_n 0, 1) := by decide +kernel
theorem dX5_ofTouch_77 : decode cX5_ofTouch 77 = .ok (.getfield 10, 3) := by decide +kernel
theorem dX5_ofTouch_80 : decode cX5_ofTouch 80 = .ok (.getfield 139, 3) := by decide +kernel
theorem dX5_ofTouch_83 : decode cX5_ofTouch 83 = .ok (.iload_n 1, 1) := by decide +kernel
theorem dX5_ofTouch_84 : decode cX5_ofTouch 84 = .ok (.iaload, 1) := by decide +kernel
theorem dX5_ofTouch_85 : decode cX5_ofTouch 85 = .ok (.ireturn, 1) := by decide +kernel
theorem dX5_ofTouch_86 : decode cX5_ofTouch 86 = .ok (.aload_n 0, 1) := by decide +kernel
theorem dX5_ofTouch_87 : decode cX5_ofTouch 87 = .ok (.getfield 10, 3) := by decide +kernel
theorem dX5_ofTouch_90 : decode cX5_ofTouch 90 = .ok (.iload_n 1, 1) := by decide +kernel
theorem dX5_ofTouch_91 : decode cX5_ofTouch 91 = .ok (.invokevirtual 142, 3) := by decide +kernel
theorem dX5_ofTouch_94 : decode cX5_ofTouch 94 = .ok (.ifCond .eq 7, 3) := by decide +kernel
theorem dX5_ofTouch_97 : decode cX5_ofTouch 97 = .ok (.iconst 1, 1) := by decide +kernel
theorem dX5_ofTouch_98 : decode cX5_ofTouch 98 = .ok (.goto 4, 3) := by decide +kernel
theorem dX5_ofTouch_101 : decode cX5_ofTouch 101 = .ok (.iconst 0, 1) := by decide +kernel
theorem dX5_ofTouch_102 : decode cX5_ofTouch 102 = .ok (.ireturn, 1) := by decide +kernel
theorem dX5_ofTouch_103 : decode cX5_ofTouch 103 = .ok (.bipush (-2), 2) := by decide +kernel
theorem dX5_ofTouch_105 : decode cX5_ofTouch 105 = .ok (.ireturn, 1) := by decide +kernel
theorem dX5_reading_0 : decode cX5_reading 0 = .ok (.iload_n 1, 1) := by decide +kernel
theorem dX5_reading_1 : decode cX5_reading 1 = .ok (.ifCond .lt 14, 3) := by decide +kernel
theorem dX5_reading_4 : decode cX5_reading 4 = .ok (.iload_n 1, 1) := by decide +kernel
theorem dX5_reading_5 : decode cX5_reading 5 = .ok (.aload_n 0, 1) := by decide +kernel
theorem dX5_reading_6 : decode cX5_reading 6 = .ok (.getfield 10, 3) := by decide +kernel
theorem dX5_reading_9 : decode cX5_reading 9 = .ok (.getfield 145, 3) := by decide +kernel
theorem dX5_reading_12 : decode cX5_reading 12 = .ok (.if_icmp .lt 5, 3) := by decide +kernel
theorem dX5_reading_15 : decode cX5_reading 15 = .ok (.iconst (-1), 1) := by decide +kernel
theorem dX5_reading_16 : decode cX5_reading 16 = .ok (.ireturn, 1) := by decide +kernel
theorem dX5_reading_17 : decode cX5_reading 17 = .ok (.iload_n 2, 1) := by decide +kernel
theorem dX5_reading_18 : decode cX5_reading 18 = .ok (.tableswitch 56 0 2 #[26, 36, 46], 26) := by decide +kernel
theorem dX5_reading_44 : decode cX5_reading 44 = .ok (.aload_n 0, 1) := by decide +kernel
theorem dX5_reading_45 : decode cX5_reading 45 = .ok (.getfield 10, 3) := by decide +kernel
theorem dX5_reading_48 : decode cX5_reading 48 = .ok (.getfield 148, 3) := by decide +kernel
theorem dX5_reading_51 : decode cX5_reading 51 = .ok (.iload_n 1, 1) := by decide +kernel
theorem dX5_reading_52 : decode cX5_reading 52 = .ok (.iaload, 1) := by decide +kernel
theorem dX5_reading_53 : decode cX5_reading 53 = .ok (.ireturn, 1) := by decide +kernel
theorem dX5_reading_54 : decode cX5_reading 54 = .ok (.aload_n 0, 1) := by decide +kernel
theorem dX5_reading_55 : decode cX5_reading 55 = .ok (.getfield 10, 3) := by decide +kernel
theorem dX5_reading_58 : decode cX5_reading 58 = .ok (.getfield 151, 3) := by decide +kernel
theorem dX5_reading_61 : decode cX5_reading 61 = .ok (.iload_n 1, 1) := by decide +kernel
theorem dX5_reading_62 : decode cX5_reading 62 = .ok (.iaload, 1) := by decide +kernel
theorem dX5_reading_63 : decode cX5_reading 63 = .ok (.ireturn, 1) := by decide +kernel
theorem dX5_reading_64 : decode cX5_reading 64 = .ok (.aload_n 0, 1) := by decide +kernel
theorem dX5_reading_65 : decode cX5_reading 65 = .ok (.getfield 10, 3) := by decide +kernel
theorem dX5_reading_68 : decode cX5_reading 68 = .ok (.getfield 154, 3) := by decide +kernel
theorem dX5_reading_71 : decode cX5_reading 71 = .ok (.iload_n 1, 1) := by decide +kernel
theorem dX5_reading_72 : decode cX5_reading 72 = .ok (.iaload, 1) := by decide +kernel
theorem dX5_reading_73 : decode cX5_reading 73 = .ok (.ireturn, 1) := by decide +kernel
theorem dX5_reading_74 : decode cX5_reading 74 = .ok (.bipush (-2), 2) := by decide +kernel
theorem dX5_reading_76 : decode cX5_reading 76 = .ok (.ireturn, 1) := by decide +kernel
set_option maxRecDepth 20000 in
theorem ggX5_ofNet_X5_isNet : GoodIn wsX5_ofNet wsX5_isNet := goodIn_r _ [5] (by decide +kernel) (by decide +kernel)
set_option maxRecDepth 20000 in
theorem gX5_ofNet_X5_isNet : GoodIn wsX5_ofNet (va_wsS RX5 157 yX5_isNet wsX5_isNet) := goodIn_app (goodIn_of _ (by decide +kernel)) ggX5_ofNet_X5_isNet
set_option maxRecDepth 20000 in
theorem ggX5_ofNet_X0_placesOf : GoodIn wsX5_ofNet wsX0_placesOf := goodIn_r _ [9, 10, 27, 28, 29, 30, 31, 32, 33, 34, 35, 36, 37, 38, 39] (by decide +kernel) (by decide +kernel)
set_option maxRecDepth 20000 in
theorem gX5_ofNet_X0_placesOf_n160 : GoodIn wsX5_ofNet (wsX0_placesOf) := ggX5_ofNet_X0_placesOf
set_option maxRecDepth 20000 in
theorem ggX5_ofNet_X0_warmthOf : GoodIn wsX5_ofNet wsX0_warmthOf := goodIn_r _ [13, 10, 14, 27, 28, 29, 30, 31, 32, 33, 34, 35, 36, 37, 38, 39] (by decide +kernel) (by decide +kernel)
set_option maxRecDepth 20000 in
theorem gX5_ofNet_X0_warmthOf_n166 : GoodIn wsX5_ofNet (wsX0_warmthOf) := ggX5_ofNet_X0_warmthOf
set_option maxRecDepth 20000 in
theorem ggX5_ofNet_X5_bitsOfFloat : GoodIn wsX5_ofNet wsX5_bitsOfFloat := goodIn_r _ [17, 18, 19] (by decide +kernel) (by decide +kernel)
set_option maxRecDepth 20000 in
theorem gX5_ofNet_X5_bitsOfFloat : GoodIn wsX5_ofNet (va_wsS RX5 97 yX5_bitsOfFloat wsX5_bitsOfFloat) := goodIn_app (goodIn_of _ (by decide +kernel)) ggX5_ofNet_X5_bitsOfFloat
theorem dX5_ofNet_0 : decode cX5_ofNet 0 = .ok (.iload_n 1, 1) := by decide +kernel
theorem dX5_ofNet_1 : decode cX5_ofNet 1 = .ok (.invokestatic 157, 3) := by decide +kernel
theorem dX5_ofNet_4 : decode cX5_ofNet 4 = .ok (.ifCond .ne 5, 3) := by decide +kernel
theorem dX5_ofNet_7 : decode cX5_ofNet 7 = .ok (.iconst (-1), 1) := by decide +kernel
theorem dX5_ofNet_8 : decode cX5_ofNet 8 = .ok (.ireturn, 1) := by decide +kernel
theorem dX5_ofNet_9 : decode cX5_ofNet 9 = .ok (.iload_n 2, 1) := by decide +kernel
theorem dX5_ofNet_10 : decode cX5_ofNet 10 = .ok (.tableswitch 57 0 2 #[26, 35, 45], 26) := by decide +kernel
theorem dX5_ofNet_36 : decode cX5_ofNet 36 = .ok (.aload_n 0, 1) := by decide +kernel
theorem dX5_ofNet_37 : decode cX5_ofNet 37 = .ok (.getfield 10, 3) := by decide +kernel
theorem dX5_ofNet_40 : decode cX5_ofNet 40 = .ok (.iload_n 1, 1) := by decide +kernel
theorem dX5_ofNet_41 : decode cX5_ofNet 41 = .ok (.invokevirtual 160, 3) := by decide +kernel
theorem dX5_ofNet_44 : decode cX5_ofNet 44 = .ok (.ireturn, 1) := by decide +kernel
theorem dX5_ofNet_45 : decode cX5_ofNet 45 = .ok (.aload_n 0, 1) := by decide +kernel
theorem dX5_ofNet_46 : decode cX5_ofNet 46 = .ok (.getfield 10, 3) := by decide +kernel
theorem dX5_ofNet_49 : decode cX5_ofNet 49 = .ok (.getfield 163, 3) := by decide +kernel
theorem dX5_ofNet_52 : decode cX5_ofNet 52 = .ok (.iload_n 1, 1) := by decide +kernel
theorem dX5_ofNet_53 : decode cX5_ofNet 53 = .ok (.iaload, 1) := by decide +kernel
theorem dX5_ofNet_54 : decode cX5_ofNet 54 = .ok (.ireturn, 1) := by decide +kernel
theorem dX5_ofNet_55 : decode cX5_ofNet 55 = .ok (.aload_n 0, 1) := by decide +kernel
theorem dX5_ofNet_56 : decode cX5_ofNet 56 = .ok (.getfield 10, 3) := by decide +kernel
theorem dX5_ofNet_59 : decode cX5_ofNet 59 = .ok (.iload_n 1, 1) := by decide +kernel
theorem dX5_ofNet_60 : decode cX5_ofNet 60 = .ok (.invokevirtual 166, 3) := by decide +kernel
theorem dX5_ofNet_63 : decode cX5_ofNet 63 = .ok (.invokestatic 97, 3) := by decide +kernel
theorem dX5_ofNet_66 : decode cX5_ofNet 66 = .ok (.ireturn, 1) := by decide +kernel
theorem dX5_ofNet_67 : decode cX5_ofNet 67 = .ok (.bipush (-2), 2) := by decide +kernel
theorem dX5_ofNet_69 : decode cX5_ofNet 69 = .ok (.ireturn, 1) := by decide +kernel
set_option maxRecDepth 20000 in
theorem ggX5_count_X0_heated : GoodIn wsX5_count wsX0_heated := goodIn_r _ [8, 9, 10, 11, 12, 13, 6, 14, 15, 16, 17, 18, 19, 20, 21, 97, 98, 99, 100, 101, 102, 103, 104, 105, 106, 107, 108, 109] (by decide +kernel) (by decide +kernel)
set_option maxRecDepth 20000 in
theorem gX5_count_X0_heated_n170 : GoodIn wsX5_count (wsX0_heated) := ggX5_count_X0_heated
set_option maxRecDepth 20000 in
theorem ggX5_count_J13_bitCount_95d88 : GoodIn wsX5_count wsJ13_bitCount_95d88 := goodIn_r _ [25, 26, 27, 28] (by decide +kernel) (by decide +kernel)
set_option maxRecDepth 20000 in
theorem gX5_count_J13_bitCount_95d88 : GoodIn wsX5_count (va_wsS RX5 173 yJ13_bitCount_95d88 wsJ13_bitCount_95d88) := goodIn_app (goodIn_of _ (by decide +kernel)) ggX5_count_J13_bitCount_95d88
set_option maxRecDepth 20000 in
theorem ggX5_count_X0_tracked : GoodIn wsX5_count wsX0_tracked := goodIn_r _ [31, 15, 97, 98, 99, 100, 101, 102, 103, 104, 105, 106, 107, 108, 109] (by decide +kernel) (by decide +kernel)
set_option maxRecDepth 20000 in
theorem gX5_count_X0_tracked_n118 : GoodIn wsX5_count (wsX0_tracked) := ggX5_count_X0_tracked
set_option maxRecDepth 20000 in
theorem ggX5_count_X0_suspects : GoodIn wsX5_count wsX0_suspects := goodIn_r _ [34, 35, 36, 37, 6, 38, 15, 39, 40, 41, 17, 18, 19, 20, 21, 97, 98, 99, 100, 101, 102, 103, 104, 105, 106, 107, 108, 109] (by decide +kernel) (by decide +kernel)
set_option maxRecDepth 20000 in
theorem gX5_count_X0_suspects_n126 : GoodIn wsX5_count (wsX0_suspects) := ggX5_count_X0_suspects
set_option maxRecDepth 20000 in
theorem ggX5_count_X4_fitting : GoodIn wsX5_count wsX4_fitting := goodIn_r _ [45, 46, 47, 48, 43, 49, 36, 6, 37, 38, 15, 39, 40, 41, 17, 18, 19, 20, 21, 50, 51, 52, 53, 54, 55, 56, 57, 58, 59, 60, 61, 62, 63, 64, 65, 66, 67, 68, 69, 70, 71, 72, 73, 74, 75, 76, 77, 78, 79, 80, 81, 82, 97, 98, 99, 100, 101, 102, 103, 104, 105, 106, 107, 108, 109, 114, 115, 116, 117, 118] (by decide +kernel) (by decide +kernel)
set_option maxRecDepth 20000 in
theorem gX5_count_X4_fitting_n129 : GoodIn wsX5_count (wsX4_fitting) := ggX5_count_X4_fitting
set_option maxRecDepth 20000 in
theorem ggX5_count_X4_pairs : GoodIn wsX5_count wsX4_pairs := goodIn_r _ [85, 32, 6, 33, 34, 35, 36, 37, 38, 15, 39, 40, 41, 17, 18, 19, 20, 21, 78, 79, 50, 51, 52, 43, 53, 54, 55, 56, 57, 58, 59, 60, 61, 62, 63, 64, 65, 66, 67, 68, 69, 70, 71, 72, 73, 74, 75, 76, 77, 80, 81, 82, 97, 98, 99, 100, 101, 102, 103, 104, 105, 106, 107, 108, 109, 114, 115, 116, 117, 118] (by decide +kernel) (by decide +kernel)
set_option maxRecDepth 20000 in
theorem gX5_count_X4_pairs_n179 : GoodIn wsX5_count (wsX4_pairs) := ggX5_count_X4_pairs
set_option maxRecDepth 20000 in
theorem ggX5_count_X0_warmest : GoodIn wsX5_count wsX0_warmest := goodIn_r _ [88, 89, 97, 98, 99, 100, 101, 102, 103, 104, 105, 106, 107, 108, 109] (by decide +kernel) (by decide +kernel)
set_option maxRecDepth 20000 in
theorem gX5_count_X0_warmest_n183 : GoodIn wsX5_count (wsX0_warmest) := ggX5_count_X0_warmest
theorem dX5_count_0 : decode cX5_count 0 = .ok (.iload_n 1, 1) := by decide +kernel
theorem dX5_count_1 : decode cX5_count 1 = .ok (.tableswitch 196 0 14 #[75, 83, 91, 102, 110, 121, 132, 147, 159, 167, 167, 167, 167, 180, 188], 75) := by decide +kernel
theorem dX5_count_76 : decode cX5_count 76 = .ok (.aload_n 0, 1) := by decide +kernel
theorem dX5_count_77 : decode cX5_count 77 = .ok (.getfield 10, 3) := by decide +kernel
theorem dX5_count_80 : decode cX5_count 80 = .ok (.getfield 73, 3) := by decide +kernel
theorem dX5_count_83 : decode cX5_count 83 = .ok (.ireturn, 1) := by decide +kernel
theorem dX5_count_84 : decode cX5_count 84 = .ok (.aload_n 0, 1) := by decide +kernel
theorem dX5_count_85 : decode cX5_count 85 = .ok (.getfield 10, 3) := by decide +kernel
theorem dX5_count_88 : decode cX5_count 88 = .ok (.getfield 133, 3) := by decide +kernel
theorem dX5_count_91 : decode cX5_count 91 = .ok (.ireturn, 1) := by decide +kernel
theorem dX5_count_92 : decode cX5_count 92 = .ok (.aload_n 0, 1) := by decide +kernel
theorem dX5_count_93 : decode cX5_count 93 = .ok (.getfield 10, 3) := by decide +kernel
theorem dX5_count_96 : decode cX5_count 96 = .ok (.invokevirtual 170, 3) := by decide +kernel
theorem dX5_count_99 : decode cX5_count 99 = .ok (.invokestatic 173, 3) := by decide +kernel
theorem dX5_count_102 : decode cX5_count 102 = .ok (.ireturn, 1) := by decide +kernel
theorem dX5_count_103 : decode cX5_count 103 = .ok (.aload_n 0, 1) := by decide +kernel
theorem dX5_count_104 : decode cX5_count 104 = .ok (.getfield 10, 3) := by decide +kernel
theorem dX5_count_107 : decode cX5_count 107 = .ok (.getfield 145, 3) := by decide +kernel
theorem dX5_count_110 : decode cX5_count 110 = .ok (.ireturn, 1) := by decide +kernel
theorem dX5_count_111 : decode cX5_count 111 = .ok (.aload_n 0, 1) := by decide +kernel
theorem dX5_count_112 : decode cX5_count 112 = .ok (.getfield 10, 3) := by decide +kernel
theorem dX5_count_115 : decode cX5_count 115 = .ok (.invokevirtual 118, 3) := by decide +kernel
theorem dX5_count_118 : decode cX5_count 118 = .ok (.invokestatic 173, 3) := by decide +kernel
theorem dX5_count_121 : decode cX5_count 121 = .ok (.ireturn, 1) := by decide +kernel
theorem dX5_count_122 : decode cX5_count 122 = .ok (.aload_n 0, 1) := by decide +kernel
theorem dX5_count_123 : decode cX5_count 123 = .ok (.getfield 10, 3) := by decide +kernel
theorem dX5_count_126 : decode cX5_count 126 = .ok (.invokevirtual 126, 3) := by decide +kernel
theorem dX5_count_129 : decode cX5_count 129 = .ok (.invokestatic 173, 3) := by decide +kernel
theorem dX5_count_132 : decode cX5_count 132 = .ok (.ireturn, 1) := by decide +kernel
theorem dX5_count_133 : decode cX5_count 133 = .ok (.aload_n 0, 1) := by decide +kernel
theorem dX5_count_134 : decode cX5_count 134 = .ok (.getfield 22, 3) := by decide +kernel
theorem dX5_count_137 : decode cX5_count 137 = .ok (.aload_n 0, 1) := by decide +kernel
theorem dX5_count_138 : decode cX5_count 138 = .ok (.getfield 10, 3) := by decide +kernel
theorem dX5_count_141 : decode cX5_count 141 = .ok (.invokevirtual 129, 3) := by decide +kernel
theorem dX5_count_144 : decode cX5_count 144 = .ok (.invokestatic 173, 3) := by decide +kernel
theorem dX5_count_147 : decode cX5_count 147 = .ok (.ireturn, 1) := by decide +kernel
theorem dX5_count_148 : decode cX5_count 148 = .ok (.aload_n 0, 1) := by decide +kernel
theorem dX5_count_149 : decode cX5_count 149 = .ok (.getfield 22, 3) := by decide +kernel
theorem dX5_count_152 : decode cX5_count 152 = .ok (.aload_n 0, 1) := by decide +kernel
theorem dX5_count_153 : decode cX5_count 153 = .ok (.getfield 10, 3) := by decide +kernel
theorem dX5_count_156 : decode cX5_count 156 = .ok (.invokevirtual 179, 3) := by decide +kernel
theorem dX5_count_159 : decode cX5_count 159 = .ok (.ireturn, 1) := by decide +kernel
theorem dX5_count_160 : decode cX5_count 160 = .ok (.aload_n 0, 1) := by decide +kernel
theorem dX5_count_161 : decode cX5_count 161 = .ok (.getfield 10, 3) := by decide +kernel
theorem dX5_count_164 : decode cX5_count 164 = .ok (.invokevirtual 183, 3) := by decide +kernel
theorem dX5_count_167 : decode cX5_count 167 = .ok (.ireturn, 1) := by decide +kernel
theorem dX5_count_168 : decode cX5_count 168 = .ok (.aload_n 0, 1) := by decide +kernel
theorem dX5_count_169 : decode cX5_count 169 = .ok (.getfield 10, 3) := by decide +kernel
theorem dX5_count_172 : decode cX5_count 172 = .ok (.getfield 187, 3) := by decide +kernel
theorem dX5_count_175 : decode cX5_count 175 = .ok (.iload_n 1, 1) := by decide +kernel
theorem dX5_count_176 : decode cX5_count 176 = .ok (.bipush 9, 2) := by decide +kernel
theorem dX5_count_178 : decode cX5_count 178 = .ok (.isub, 1) := by decide +kernel
theorem dX5_count_179 : decode cX5_count 179 = .ok (.iaload, 1) := by decide +kernel
theorem dX5_count_180 : decode cX5_count 180 = .ok (.ireturn, 1) := by decide +kernel
theorem dX5_count_181 : decode cX5_count 181 = .ok (.aload_n 0, 1) := by decide +kernel
theorem dX5_count_182 : decode cX5_count 182 = .ok (.getfield 36, 3) := by decide +kernel
theorem dX5_count_185 : decode cX5_count 185 = .ok (.getfield 190, 3) := by decide +kernel
theorem dX5_count_188 : decode cX5_count 188 = .ok (.ireturn, 1) := by decide +kernel
theorem dX5_count_189 : decode cX5_count 189 = .ok (.aload_n 0, 1) := by decide +kernel
theorem dX5_count_190 : decode cX5_count 190 = .ok (.getfield 29, 3) := by decide +kernel
theorem dX5_count_193 : decode cX5_count 193 = .ok (.getfield 193, 3) := by decide +kernel
theorem dX5_count_196 : decode cX5_count 196 = .ok (.ireturn, 1) := by decide +kernel
theorem dX5_count_197 : decode cX5_count 197 = .ok (.bipush (-2), 2) := by decide +kernel
theorem dX5_count_199 : decode cX5_count 199 = .ok (.ireturn, 1) := by decide +kernel
set_option maxRecDepth 20000 in
theorem ggX5_wouldRead_X5_placeOf : GoodIn wsX5_wouldRead wsX5_placeOf := goodIn_r _ [6] (by decide +kernel) (by decide +kernel)
set_option maxRecDepth 20000 in
theorem gX5_wouldRead_X5_placeOf : GoodIn wsX5_wouldRead (va_wsS RX5 86 yX5_placeOf wsX5_placeOf) := goodIn_app (goodIn_of _ (by decide +kernel)) ggX5_wouldRead_X5_placeOf
set_option maxRecDepth 20000 in
theorem ggX5_wouldRead_X0_isSuspect : GoodIn wsX5_wouldRead wsX0_isSuspect := goodIn_r _ [10, 11, 12, 5, 13, 14, 15, 16, 8, 17, 18, 55, 56, 57, 58, 59, 60, 61, 62, 63, 64, 65, 66, 67] (by decide +kernel) (by decide +kernel)
set_option maxRecDepth 20000 in
theorem gX5_wouldRead_X0_isSuspect_n104 : GoodIn wsX5_wouldRead (wsX0_isSuspect) := ggX5_wouldRead_X0_isSuspect
set_option maxRecDepth 20000 in
theorem ggX5_wouldRead_X4_readBy : GoodIn wsX5_wouldRead wsX4_readBy := goodIn_r _ [22, 23, 24, 25, 26, 27, 28, 29, 30, 31, 32, 33, 34, 35, 36, 37, 38, 39, 5, 40, 41, 42, 43, 44, 45, 46, 47, 68, 69, 55, 56, 57, 58, 59, 60, 61, 62, 63, 64, 65, 66, 67, 70, 71, 72] (by decide +kernel) (by decide +kernel)
set_option maxRecDepth 20000 in
theorem gX5_wouldRead_X4_readBy_n213 : GoodIn wsX5_wouldRead (wsX4_readBy) := ggX5_wouldRead_X4_readBy
theorem dX5_wouldRead_0 : decode cX5_wouldRead 0 = .ok (.iload_n 1, 1) := by decide +kernel
theorem dX5_wouldRead_1 : decode cX5_wouldRead 1 = .ok (.iload_n 2, 1) := by decide +kernel
theorem dX5_wouldRead_2 : decode cX5_wouldRead 2 = .ok (.invokestatic 86, 3) := by decide +kernel
theorem dX5_wouldRead_5 : decode cX5_wouldRead 5 = .ok (.istore 5, 2) := by decide +kernel
theorem dX5_wouldRead_7 : decode cX5_wouldRead 7 = .ok (.iload_n 3, 1) := by decide +kernel
theorem dX5_wouldRead_8 : decode cX5_wouldRead 8 = .ok (.iload 4, 2) := by decide +kernel
theorem dX5_wouldRead_10 : decode cX5_wouldRead 10 = .ok (.invokestatic 86, 3) := by decide +kernel
theorem dX5_wouldRead_13 : decode cX5_wouldRead 13 = .ok (.istore 6, 2) := by decide +kernel
theorem dX5_wouldRead_15 : decode cX5_wouldRead 15 = .ok (.iload 5, 2) := by decide +kernel
theorem dX5_wouldRead_17 : decode cX5_wouldRead 17 = .ok (.ifCond .lt 20, 3) := by decide +kernel
theorem dX5_wouldRead_20 : decode cX5_wouldRead 20 = .ok (.iload 6, 2) := by decide +kernel
theorem dX5_wouldRead_22 : decode cX5_wouldRead 22 = .ok (.ifCond .lt 15, 3) := by decide +kernel
theorem dX5_wouldRead_25 : decode cX5_wouldRead 25 = .ok (.aload_n 0, 1) := by decide +kernel
theorem dX5_wouldRead_26 : decode cX5_wouldRead 26 = .ok (.getfield 10, 3) := by decide +kernel
theorem dX5_wouldRead_29 : decode cX5_wouldRead 29 = .ok (.iload 6, 2) := by decide +kernel
theorem dX5_wouldRead_31 : decode cX5_wouldRead 31 = .ok (.invokevirtual 104, 3) := by decide +kernel
theorem dX5_wouldRead_34 : decode cX5_wouldRead 34 = .ok (.ifCond .ne 5, 3) := by decide +kernel
theorem dX5_wouldRead_37 : decode cX5_wouldRead 37 = .ok (.iconst (-1), 1) := by decide +kernel
theorem dX5_wouldRead_38 : decode cX5_wouldRead 38 = .ok (.ireturn, 1) := by decide +kernel
theorem dX5_wouldRead_39 : decode cX5_wouldRead 39 = .ok (.aload_n 0, 1) := by decide +kernel
theorem dX5_wouldRead_40 : decode cX5_wouldRead 40 = .ok (.getfield 22, 3) := by decide +kernel
theorem dX5_wouldRead_43 : decode cX5_wouldRead 43 = .ok (.aload_n 0, 1) := by decide +kernel
theorem dX5_wouldRead_44 : decode cX5_wouldRead 44 = .ok (.getfield 10, 3) := by decide +kernel
theorem dX5_wouldRead_47 : decode cX5_wouldRead 47 = .ok (.iload 6, 2) := by decide +kernel
theorem dX5_wouldRead_49 : decode cX5_wouldRead 49 = .ok (.iload 5, 2) := by decide +kernel
theorem dX5_wouldRead_51 : decode cX5_wouldRead 51 = .ok (.invokevirtual 213, 3) := by decide +kernel
theorem dX5_wouldRead_54 : decode cX5_wouldRead 54 = .ok (.ireturn, 1) := by decide +kernel
theorem dX5_placeOf_0 : decode cX5_placeOf 0 = .ok (.iload_n 0, 1) := by decide +kernel
theorem dX5_placeOf_1 : decode cX5_placeOf 1 = .ok (.ifCond .lt 19, 3) := by decide +kernel
theorem dX5_placeOf_4 : decode cX5_placeOf 4 = .ok (.iload_n 0, 1) := by decide +kernel
theorem dX5_placeOf_5 : decode cX5_placeOf 5 = .ok (.bipush 8, 2) := by decide +kernel
theorem dX5_placeOf_7 : decode cX5_placeOf 7 = .ok (.if_icmp .ge 13, 3) := by decide +kernel
theorem dX5_placeOf_10 : decode cX5_placeOf 10 = .ok (.iload_n 1, 1) := by decide +kernel
theorem dX5_placeOf_11 : decode cX5_placeOf 11 = .ok (.ifCond .lt 9, 3) := by decide +kernel
theorem dX5_placeOf_14 : decode cX5_placeOf 14 = .ok (.iload_n 1, 1) := by decide +kernel
theorem dX5_placeOf_15 : decode cX5_placeOf 15 = .ok (.bipush 8, 2) := by decide +kernel
theorem dX5_placeOf_17 : decode cX5_placeOf 17 = .ok (.if_icmp .lt 7, 3) := by decide +kernel
theorem dX5_placeOf_20 : decode cX5_placeOf 20 = .ok (.iconst (-1), 1) := by decide +kernel
theorem dX5_placeOf_21 : decode cX5_placeOf 21 = .ok (.goto 9, 3) := by decide +kernel
theorem dX5_placeOf_24 : decode cX5_placeOf 24 = .ok (.bipush 8, 2) := by decide +kernel
theorem dX5_placeOf_26 : decode cX5_placeOf 26 = .ok (.iload_n 0, 1) := by decide +kernel
theorem dX5_placeOf_27 : decode cX5_placeOf 27 = .ok (.imul, 1) := by decide +kernel
theorem dX5_placeOf_28 : decode cX5_placeOf 28 = .ok (.iload_n 1, 1) := by decide +kernel
theorem dX5_placeOf_29 : decode cX5_placeOf 29 = .ok (.iadd, 1) := by decide +kernel
theorem dX5_placeOf_30 : decode cX5_placeOf 30 = .ok (.ireturn, 1) := by decide +kernel
theorem dX5_neighbourOf_0 : decode cX5_neighbourOf 0 = .ok (.iload_n 1, 1) := by decide +kernel
theorem dX5_neighbourOf_1 : decode cX5_neighbourOf 1 = .ok (.tableswitch 75 0 2 #[27, 43, 59], 27) := by decide +kernel
theorem dX5_neighbourOf_28 : decode cX5_neighbourOf 28 = .ok (.iload_n 0, 1) := by decide +kernel
theorem dX5_neighbourOf_29 : decode cX5_neighbourOf 29 = .ok (.bipush 8, 2) := by decide +kernel
theorem dX5_neighbourOf_31 : decode cX5_neighbourOf 31 = .ok (.if_icmp .lt 10, 3) := by decide +kernel
theorem dX5_neighbourOf_34 : decode cX5_neighbourOf 34 = .ok (.iload_n 0, 1) := by decide +kernel
theorem dX5_neighbourOf_35 : decode cX5_neighbourOf 35 = .ok (.bipush 8, 2) := by decide +kernel
theorem dX5_neighbourOf_37 : decode cX5_neighbourOf 37 = .ok (.isub, 1) := by decide +kernel
theorem dX5_neighbourOf_38 : decode cX5_neighbourOf 38 = .ok (.goto 5, 3) := by decide +kernel
theorem dX5_neighbourOf_41 : decode cX5_neighbourOf 41 = .ok (.bipush (-6), 2) := by decide +kernel
theorem dX5_neighbourOf_43 : decode cX5_neighbourOf 43 = .ok (.ireturn, 1) := by decide +kernel
theorem dX5_neighbourOf_44 : decode cX5_neighbourOf 44 = .ok (.iload_n 0, 1) := by decide +kernel
theorem dX5_neighbourOf_45 : decode cX5_neighbourOf 45 = .ok (.bipush 56, 2) := by decide +kernel
theorem dX5_neighbourOf_47 : decode cX5_neighbourOf 47 = .ok (.if_icmp .ge 10, 3) := by decide +kernel
theorem dX5_neighbourOf_50 : decode cX5_neighbourOf 50 = .ok (.iload_n 0, 1) := by decide +kernel
theorem dX5_neighbourOf_51 : decode cX5_neighbourOf 51 = .ok (.bipush 8, 2) := by decide +kernel
theorem dX5_neighbourOf_53 : decode cX5_neighbourOf 53 = .ok (.iadd, 1) := by decide +kernel
theorem dX5_neighbourOf_54 : decode cX5_neighbourOf 54 = .ok (.goto 5, 3) := by decide +kernel
theorem dX5_neighbourOf_57 : decode cX5_neighbourOf 57 = .ok (.bipush (-6), 2) := by decide +kernel
theorem dX5_neighbourOf_59 : decode cX5_neighbourOf 59 = .ok (.ireturn, 1) := by decide +kernel
theorem dX5_neighbourOf_60 : decode cX5_neighbourOf 60 = .ok (.iload_n 0, 1) := by decide +kernel
theorem dX5_neighbourOf_61 : decode cX5_neighbourOf 61 = .ok (.bipush 8, 2) := by decide +kernel
theorem dX5_neighbourOf_63 : decode cX5_neighbourOf 63 = .ok (.irem, 1) := by decide +kernel
theorem dX5_neighbourOf_64 : decode cX5_neighbourOf 64 = .ok (.ifCond .le 9, 3) := by decide +kernel
theorem dX5_neighbourOf_67 : decode cX5_neighbourOf 67 = .ok (.iload_n 0, 1) := by decide +kernel
theorem dX5_neighbourOf_68 : decode cX5_neighbourOf 68 = .ok (.iconst 1, 1) := by decide +kernel
theorem dX5_neighbourOf_69 : decode cX5_neighbourOf 69 = .ok (.isub, 1) := by decide +kernel
theorem dX5_neighbourOf_70 : decode cX5_neighbourOf 70 = .ok (.goto 5, 3) := by decide +kernel
theorem dX5_neighbourOf_73 : decode cX5_neighbourOf 73 = .ok (.bipush (-6), 2) := by decide +kernel
theorem dX5_neighbourOf_75 : decode cX5_neighbourOf 75 = .ok (.ireturn, 1) := by decide +kernel
theorem dX5_neighbourOf_76 : decode cX5_neighbourOf 76 = .ok (.iload_n 0, 1) := by decide +kernel
theorem dX5_neighbourOf_77 : decode cX5_neighbourOf 77 = .ok (.bipush 8, 2) := by decide +kernel
theorem dX5_neighbourOf_79 : decode cX5_neighbourOf 79 = .ok (.irem, 1) := by decide +kernel
theorem dX5_neighbourOf_80 : decode cX5_neighbourOf 80 = .ok (.bipush 7, 2) := by decide +kernel
theorem dX5_neighbourOf_82 : decode cX5_neighbourOf 82 = .ok (.if_icmp .ge 9, 3) := by decide +kernel
theorem dX5_neighbourOf_85 : decode cX5_neighbourOf 85 = .ok (.iload_n 0, 1) := by decide +kernel
theorem dX5_neighbourOf_86 : decode cX5_neighbourOf 86 = .ok (.iconst 1, 1) := by decide +kernel
theorem dX5_neighbourOf_87 : decode cX5_neighbourOf 87 = .ok (.iadd, 1) := by decide +kernel
theorem dX5_neighbourOf_88 : decode cX5_neighbourOf 88 = .ok (.goto 5, 3) := by decide +kernel
theorem dX5_neighbourOf_91 : decode cX5_neighbourOf 91 = .ok (.bipush (-6), 2) := by decide +kernel
theorem dX5_neighbourOf_93 : decode cX5_neighbourOf 93 = .ok (.ireturn, 1) := by decide +kernel
set_option maxRecDepth 20000 in
theorem ggX5_areNeighbours_X5_neighbourOf : GoodIn wsX5_areNeighbours wsX5_neighbourOf := goodIn_r _ [4] (by decide +kernel) (by decide +kernel)
set_option maxRecDepth 20000 in
theorem gX5_areNeighbours_X5_neighbourOf : GoodIn wsX5_areNeighbours (va_wsS RX5 253 yX5_neighbourOf wsX5_neighbourOf) := goodIn_app (goodIn_of _ (by decide +kernel)) ggX5_areNeighbours_X5_neighbourOf
theorem dX5_areNeighbours_0 : decode cX5_areNeighbours 0 = .ok (.iconst 0, 1) := by decide +kernel
theorem dX5_areNeighbours_1 : decode cX5_areNeighbours 1 = .ok (.istore_n 2, 1) := by decide +kernel
theorem dX5_areNeighbours_2 : decode cX5_areNeighbours 2 = .ok (.iload_n 2, 1) := by decide +kernel
theorem dX5_areNeighbours_3 : decode cX5_areNeighbours 3 = .ok (.iconst 4, 1) := by decide +kernel
theorem dX5_areNeighbours_4 : decode cX5_areNeighbours 4 = .ok (.if_icmp .ge 20, 3) := by decide +kernel
theorem dX5_areNeighbours_7 : decode cX5_areNeighbours 7 = .ok (.iload_n 0, 1) := by decide +kernel
theorem dX5_areNeighbours_8 : decode cX5_areNeighbours 8 = .ok (.iload_n 2, 1) := by decide +kernel
theorem dX5_areNeighbours_9 : decode cX5_areNeighbours 9 = .ok (.invokestatic 253, 3) := by decide +kernel
theorem dX5_areNeighbours_12 : decode cX5_areNeighbours 12 = .ok (.iload_n 1, 1) := by decide +kernel
theorem dX5_areNeighbours_13 : decode cX5_areNeighbours 13 = .ok (.if_icmp .ne 5, 3) := by decide +kernel
theorem dX5_areNeighbours_16 : decode cX5_areNeighbours 16 = .ok (.iconst 1, 1) := by decide +kernel
theorem dX5_areNeighbours_17 : decode cX5_areNeighbours 17 = .ok (.ireturn, 1) := by decide +kernel
theorem dX5_areNeighbours_18 : decode cX5_areNeighbours 18 = .ok (.iinc 2 1, 3) := by decide +kernel
theorem dX5_areNeighbours_21 : decode cX5_areNeighbours 21 = .ok (.goto (-19), 3) := by decide +kernel
theorem dX5_areNeighbours_24 : decode cX5_areNeighbours 24 = .ok (.iconst 0, 1) := by decide +kernel
theorem dX5_areNeighbours_25 : decode cX5_areNeighbours 25 = .ok (.ireturn, 1) := by decide +kernel
theorem dX5_isNet_0 : decode cX5_isNet 0 = .ok (.iload_n 0, 1) := by decide +kernel
theorem dX5_isNet_1 : decode cX5_isNet 1 = .ok (.iconst 1, 1) := by decide +kernel
theorem dX5_isNet_2 : decode cX5_isNet 2 = .ok (.if_icmp .lt 13, 3) := by decide +kernel
theorem dX5_isNet_5 : decode cX5_isNet 5 = .ok (.iload_n 0, 1) := by decide +kernel
theorem dX5_isNet_6 : decode cX5_isNet 6 = .ok (.bipush 7, 2) := by decide +kernel
theorem dX5_isNet_8 : decode cX5_isNet 8 = .ok (.if_icmp .gt 7, 3) := by decide +kernel
theorem dX5_isNet_11 : decode cX5_isNet 11 = .ok (.iconst 1, 1) := by decide +kernel
theorem dX5_isNet_12 : decode cX5_isNet 12 = .ok (.goto 4, 3) := by decide +kernel
theorem dX5_isNet_15 : decode cX5_isNet 15 = .ok (.iconst 0, 1) := by decide +kernel
theorem dX5_isNet_16 : decode cX5_isNet 16 = .ok (.ireturn, 1) := by decide +kernel
theorem dX5_isIn_0 : decode cX5_isIn 0 = .ok (.lload_n 0, 1) := by decide +kernel
theorem dX5_isIn_1 : decode cX5_isIn 1 = .ok (.iload_n 2, 1) := by decide +kernel
theorem dX5_isIn_2 : decode cX5_isIn 2 = .ok (.lushr, 1) := by decide +kernel
theorem dX5_isIn_3 : decode cX5_isIn 3 = .ok (.lconst 1, 1) := by decide +kernel
theorem dX5_isIn_4 : decode cX5_isIn 4 = .ok (.land, 1) := by decide +kernel
theorem dX5_isIn_5 : decode cX5_isIn 5 = .ok (.lconst 0, 1) := by decide +kernel
theorem dX5_isIn_6 : decode cX5_isIn 6 = .ok (.lcmp, 1) := by decide +kernel
theorem dX5_isIn_7 : decode cX5_isIn 7 = .ok (.ifCond .eq 7, 3) := by decide +kernel
theorem dX5_isIn_10 : decode cX5_isIn 10 = .ok (.iconst 1, 1) := by decide +kernel
theorem dX5_isIn_11 : decode cX5_isIn 11 = .ok (.goto 4, 3) := by decide +kernel
theorem dX5_isIn_14 : decode cX5_isIn 14 = .ok (.iconst 0, 1) := by decide +kernel
theorem dX5_isIn_15 : decode cX5_isIn 15 = .ok (.ireturn, 1) := by decide +kernel
theorem dX5_columnsOf_0 : decode cX5_columnsOf 0 = .ok (.lload_n 0, 1) := by decide +kernel
theorem dX5_columnsOf_1 : decode cX5_columnsOf 1 = .ok (.bipush 8, 2) := by decide +kernel
theorem dX5_columnsOf_3 : decode cX5_columnsOf 3 = .ok (.iload_n 2, 1) := by decide +kernel
theorem dX5_columnsOf_4 : decode cX5_columnsOf 4 = .ok (.imul, 1) := by decide +kernel
theorem dX5_columnsOf_5 : decode cX5_columnsOf 5 = .ok (.lushr, 1) := by decide +kernel
theorem dX5_columnsOf_6 : decode cX5_columnsOf 6 = .ok (.ldc2_w 256, 3) := by decide +kernel
theorem dX5_columnsOf_9 : decode cX5_columnsOf 9 = .ok (.land, 1) := by decide +kernel
theorem dX5_columnsOf_10 : decode cX5_columnsOf 10 = .ok (.l2i, 1) := by decide +kernel
theorem dX5_columnsOf_11 : decode cX5_columnsOf 11 = .ok (.ireturn, 1) := by decide +kernel
theorem dX5_readOf_0 : decode cX5_readOf 0 = .ok (.fload_n 0, 1) := by decide +kernel
theorem dX5_readOf_1 : decode cX5_readOf 1 = .ok (.ldc_w 258, 3) := by decide +kernel
theorem dX5_readOf_4 : decode cX5_readOf 4 = .ok (.fmul, 1) := by decide +kernel
theorem dX5_readOf_5 : decode cX5_readOf 5 = .ok (.f2i, 1) := by decide +kernel
theorem dX5_readOf_6 : decode cX5_readOf 6 = .ok (.ireturn, 1) := by decide +kernel
set_option maxRecDepth 20000 in
theorem ggX5_step_X5_isIn : GoodIn wsX5_step wsX5_isIn := goodIn_r _ [5] (by decide +kernel) (by decide +kernel)
set_option maxRecDepth 20000 in
theorem gX5_step_X5_isIn : GoodIn wsX5_step (va_wsS RX5 260 yX5_isIn wsX5_isIn) := goodIn_app (goodIn_of _ (by decide +kernel)) ggX5_step_X5_isIn
theorem dX5_step_0 : decode cX5_step 0 = .ok (.aload 6, 2) := by decide +kernel
theorem dX5_step_2 : decode cX5_step 2 = .ok (.iconst 0, 1) := by decide +kernel
theorem dX5_step_3 : decode cX5_step 3 = .ok (.iaload, 1) := by decide +kernel
theorem dX5_step_4 : decode cX5_step 4 = .ok (.i2f, 1) := by decide +kernel
theorem dX5_step_5 : decode cX5_step 5 = .ok (.fstore 7, 2) := by decide +kernel
theorem dX5_step_7 : decode cX5_step 7 = .ok (.bipush 100, 2) := by decide +kernel
theorem dX5_step_9 : decode cX5_step 9 = .ok (.aload 6, 2) := by decide +kernel
theorem dX5_step_11 : decode cX5_step 11 = .ok (.iconst 1, 1) := by decide +kernel
theorem dX5_step_12 : decode cX5_step 12 = .ok (.iaload, 1) := by decide +kernel
theorem dX5_step_13 : decode cX5_step 13 = .ok (.isub, 1) := by decide +kernel
theorem dX5_step_14 : decode cX5_step 14 = .ok (.i2f, 1) := by decide +kernel
theorem dX5_step_15 : decode cX5_step 15 = .ok (.fstore 8, 2) := by decide +kernel
theorem dX5_step_17 : decode cX5_step 17 = .ok (.aload 6, 2) := by decide +kernel
theorem dX5_step_19 : decode cX5_step 19 = .ok (.iconst 2, 1) := by decide +kernel
theorem dX5_step_20 : decode cX5_step 20 = .ok (.iaload, 1) := by decide +kernel
theorem dX5_step_21 : decode cX5_step 21 = .ok (.i2f, 1) := by decide +kernel
theorem dX5_step_22 : decode cX5_step 22 = .ok (.fstore 9, 2) := by decide +kernel
theorem dX5_step_24 : decode cX5_step 24 = .ok (.iconst 0, 1) := by decide +kernel
theorem dX5_step_25 : decode cX5_step 25 = .ok (.istore 10, 2) := by decide +kernel
theorem dX5_step_27 : decode cX5_step 27 = .ok (.iload 10, 2) := by decide +kernel
theorem dX5_step_29 : decode cX5_step 29 = .ok (.bipush 64, 2) := by decide +kernel
theorem dX5_step_31 : decode cX5_step 31 = .ok (.if_icmp .ge 182, 3) := by decide +kernel
theorem dX5_step_34 : decode cX5_step 34 = .ok (.iload_n 1, 1) := by decide +kernel
theorem dX5_step_35 : decode cX5_step 35 = .ok (.iload 10, 2) := by decide +kernel
theorem dX5_step_37 : decode cX5_step 37 = .ok (.iadd, 1) := by decide +kernel
theorem dX5_step_38 : decode cX5_step 38 = .ok (.istore 11, 2) := by decide +kernel
theorem dX5_step_40 : decode cX5_step 40 = .ok (.aload_n 0, 1) := by decide +kernel
theorem dX5_step_41 : decode cX5_step 41 = .ok (.iload 11, 2) := by decide +kernel
theorem dX5_step_43 : decode cX5_step 43 = .ok (.faload, 1) := by decide +kernel
theorem dX5_step_44 : decode cX5_step 44 = .ok (.fstore 12, 2) := by decide +kernel
theorem dX5_step_46 : decode cX5_step 46 = .ok (.fconst 0, 1) := by decide +kernel
theorem dX5_step_47 : decode cX5_step 47 = .ok (.fstore 13, 2) := by decide +kernel
theorem dX5_step_49 : decode cX5_step 49 = .ok (.iload 10, 2) := by decide +kernel
theorem dX5_step_51 : decode cX5_step 51 = .ok (.bipush 8, 2) := by decide +kernel
theorem dX5_step_53 : decode cX5_step 53 = .ok (.if_icmp .lt 25, 3) := by decide +kernel
theorem dX5_step_56 : decode cX5_step 56 = .ok (.fload 13, 2) := by decide +kernel
theorem dX5_step_58 : decode cX5_step 58 = .ok (.aload_n 0, 1) := by decide +kernel
theorem dX5_step_59 : decode cX5_step 59 = .ok (.iload 11, 2) := by decide +kernel
theorem dX5_step_61 : decode cX5_step 61 = .ok (.bipush 8, 2) := by decide +kernel
theorem dX5_step_63 : decode cX5_step 63 = .ok (.isub, 1) := by decide +kernel
theorem dX5_step_64 : decode cX5_step 64 = .ok (.faload, 1) := by decide +kernel
theorem dX5_step_65 : decode cX5_step 65 = .ok (.fload 12, 2) := by decide +kernel
theorem dX5_step_67 : decode cX5_step 67 = .ok (.fsub, 1) := by decide +kernel
theorem dX5_step_68 : decode cX5_step 68 = .ok (.fload 7, 2) := by decide +kernel
theorem dX5_step_70 : decode cX5_step 70 = .ok (.fmul, 1) := by decide +kernel
theorem dX5_step_71 : decode cX5_step 71 = .ok (.ldc_w 259, 3) := by decide +kernel
theorem dX5_step_74 : decode cX5_step 74 = .ok (.fdiv, 1) := by decide +kernel
theorem dX5_step_75 : decode cX5_step 75 = .ok (.fadd, 1) := by decide +kernel
theorem dX5_step_76 : decode cX5_step 76 = .ok (.fstore 13, 2) := by decide +kernel
theorem dX5_step_78 : decode cX5_step 78 = .ok (.iload 10, 2) := by decide +kernel
theorem dX5_step_80 : decode cX5_step 80 = .ok (.bipush 56, 2) := by decide +kernel
theorem dX5_step_82 : decode cX5_step 82 = .ok (.if_icmp .ge 25, 3) := by decide +kernel
theorem dX5_step_85 : decode cX5_step 85 = .ok (.fload 13, 2) := by decide +kernel
theorem dX5_step_87 : decode cX5_step 87 = .ok (.aload_n 0, 1) := by decide +kernel
theorem dX5_step_88 : decode cX5_step 88 = .ok (.iload 11, 2) := by decide +kernel
theorem dX5_step_90 : decode cX5_step 90 = .ok (.bipush 8, 2) := by decide +kernel
theorem dX5_step_92 : decode cX5_step 92 = .ok (.iadd, 1) := by decide +kernel
theorem dX5_step_93 : decode cX5_step 93 = .ok (.faload, 1) := by decide +kernel
theorem dX5_step_94 : decode cX5_step 94 = .ok (.fload 12, 2) := by decide +kernel
theorem dX5_step_96 : decode cX5_step 96 = .ok (.fsub, 1) := by decide +kernel
theorem dX5_step_97 : decode cX5_step 97 = .ok (.fload 7, 2) := by decide +kernel
theorem dX5_step_99 : decode cX5_step 99 = .ok (.fmul, 1) := by decide +kernel
theorem dX5_step_100 : decode cX5_step 100 = .ok (.ldc_w 259, 3) := by decide +kernel
theorem dX5_step_103 : decode cX5_step 103 = .ok (.fdiv, 1) := by decide +kernel
theorem dX5_step_104 : decode cX5_step 104 = .ok (.fadd, 1) := by decide +kernel
theorem dX5_step_105 : decode cX5_step 105 = .ok (.fstore 13, 2) := by decide +kernel
theorem dX5_step_107 : decode cX5_step 107 = .ok (.iload 10, 2) := by decide +kernel
theorem dX5_step_109 : decode cX5_step 109 = .ok (.bipush 8, 2) := by decide +kernel
theorem dX5_step_111 : decode cX5_step 111 = .ok (.irem, 1) := by decide +kernel
theorem dX5_step_112 : decode cX5_step 112 = .ok (.ifCond .le 24, 3) := by decide +kernel
theorem dX5_step_115 : decode cX5_step 115 = .ok (.fload 13, 2) := by decide +kernel
theorem dX5_step_117 : decode cX5_step 117 = .ok (.aload_n 0, 1) := by decide +kernel
theorem dX5_step_118 : decode cX5_step 118 = .ok (.iload 11, 2) := by decide +kernel
theorem dX5_step_120 : decode cX5_step 120 = .ok (.iconst 1, 1) := by decide +kernel
theorem dX5_step_121 : decode cX5_step 121 = .ok (.isub, 1) := by decide +kernel
theorem dX5_step_122 : decode cX5_step 122 = .ok (.faload, 1) := by decide +kernel
theorem dX5_step_123 : decode cX5_step 123 = .ok (.fload 12, 2) := by decide +kernel
theorem dX5_step_125 : decode cX5_step 125 = .ok (.fsub, 1) := by decide +kernel
theorem dX5_step_126 : decode cX5_step 126 = .ok (.fload 7, 2) := by decide +kernel
theorem dX5_step_128 : decode cX5_step 128 = .ok (.fmul, 1) := by decide +kernel
theorem dX5_step_129 : decode cX5_step 129 = .ok (.ldc_w 259, 3) := by decide +kernel
theorem dX5_step_132 : decode cX5_step 132 = .ok (.fdiv, 1) := by decide +kernel
theorem dX5_step_133 : decode cX5_step 133 = .ok (.fadd, 1) := by decide +kernel
theorem dX5_step_134 : decode cX5_step 134 = .ok (.fstore 13, 2) := by decide +kernel
theorem dX5_step_136 : decode cX5_step 136 = .ok (.iload 10, 2) := by decide +kernel
theorem dX5_step_138 : decode cX5_step 138 = .ok (.bipush 8, 2) := by decide +kernel
theorem dX5_step_140 : decode cX5_step 140 = .ok (.irem, 1) := by decide +kernel
theorem dX5_step_141 : decode cX5_step 141 = .ok (.bipush 7, 2) := by decide +kernel
theorem dX5_step_143 : decode cX5_step 143 = .ok (.if_icmp .ge 24, 3) := by decide +kernel
theorem dX5_step_146 : decode cX5_step 146 = .ok (.fload 13, 2) := by decide +kernel
theorem dX5_step_148 : decode cX5_step 148 = .ok (.aload_n 0, 1) := by decide +kernel
theorem dX5_step_149 : decode cX5_step 149 = .ok (.iload 11, 2) := by decide +kernel
theorem dX5_step_151 : decode cX5_step 151 = .ok (.iconst 1, 1) := by decide +kernel
theorem dX5_step_152 : decode cX5_step 152 = .ok (.iadd, 1) := by decide +kernel
theorem dX5_step_153 : decode cX5_step 153 = .ok (.faload, 1) := by decide +kernel
theorem dX5_step_154 : decode cX5_step 154 = .ok (.fload 12, 2) := by decide +kernel
theorem dX5_step_156 : decode cX5_step 156 = .ok (.fsub, 1) := by decide +kernel
theorem dX5_step_157 : decode cX5_step 157 = .ok (.fload 7, 2) := by decide +kernel
theorem dX5_step_159 : decode cX5_step 159 = .ok (.fmul, 1) := by decide +kernel
theorem dX5_step_160 : decode cX5_step 160 = .ok (.ldc_w 259, 3) := by decide +kernel
theorem dX5_step_163 : decode cX5_step 163 = .ok (.fdiv, 1) := by decide +kernel
theorem dX5_step_164 : decode cX5_step 164 = .ok (.fadd, 1) := by decide +kernel
theorem dX5_step_165 : decode cX5_step 165 = .ok (.fstore 13, 2) := by decide +kernel
theorem dX5_step_167 : decode cX5_step 167 = .ok (.fload 12, 2) := by decide +kernel
theorem dX5_step_169 : decode cX5_step 169 = .ok (.fload 13, 2) := by decide +kernel
theorem dX5_step_171 : decode cX5_step 171 = .ok (.fadd, 1) := by decide +kernel
theorem dX5_step_172 : decode cX5_step 172 = .ok (.fload 8, 2) := by decide +kernel
theorem dX5_step_174 : decode cX5_step 174 = .ok (.fmul, 1) := by decide +kernel
theorem dX5_step_175 : decode cX5_step 175 = .ok (.ldc_w 259, 3) := by decide +kernel
theorem dX5_step_178 : decode cX5_step 178 = .ok (.fdiv, 1) := by decide +kernel
theorem dX5_step_179 : decode cX5_step 179 = .ok (.fstore 14, 2) := by decide +kernel
theorem dX5_step_181 : decode cX5_step 181 = .ok (.aload_n 2, 1) := by decide +kernel
theorem dX5_step_182 : decode cX5_step 182 = .ok (.iload_n 3, 1) := by decide +kernel
theorem dX5_step_183 : decode cX5_step 183 = .ok (.iload 10, 2) := by decide +kernel
theorem dX5_step_185 : decode cX5_step 185 = .ok (.iadd, 1) := by decide +kernel
theorem dX5_step_186 : decode cX5_step 186 = .ok (.lload 4, 2) := by decide +kernel
theorem dX5_step_188 : decode cX5_step 188 = .ok (.iload 10, 2) := by decide +kernel
theorem dX5_step_190 : decode cX5_step 190 = .ok (.invokestatic 260, 3) := by decide +kernel
theorem dX5_step_193 : decode cX5_step 193 = .ok (.ifCond .eq 11, 3) := by decide +kernel
theorem dX5_step_196 : decode cX5_step 196 = .ok (.fload 14, 2) := by decide +kernel
theorem dX5_step_198 : decode cX5_step 198 = .ok (.fload 9, 2) := by decide +kernel
theorem dX5_step_200 : decode cX5_step 200 = .ok (.fadd, 1) := by decide +kernel
theorem dX5_step_201 : decode cX5_step 201 = .ok (.goto 5, 3) := by decide +kernel
theorem dX5_step_204 : decode cX5_step 204 = .ok (.fload 14, 2) := by decide +kernel
theorem dX5_step_206 : decode cX5_step 206 = .ok (.fastore, 1) := by decide +kernel
theorem dX5_step_207 : decode cX5_step 207 = .ok (.iinc 10 1, 3) := by decide +kernel
theorem dX5_step_210 : decode cX5_step 210 = .ok (.goto (-183), 3) := by decide +kernel
theorem dX5_step_213 : decode cX5_step 213 = .ok (.return_, 1) := by decide +kernel
theorem dX5_bitsOfFloat_0 : decode cX5_bitsOfFloat 0 = .ok (.fload_n 0, 1) := by decide +kernel
theorem dX5_bitsOfFloat_1 : decode cX5_bitsOfFloat 1 = .ok (.fstore_n 1, 1) := by decide +kernel
theorem dX5_bitsOfFloat_2 : decode cX5_bitsOfFloat 2 = .ok (.sipush 150, 3) := by decide +kernel
theorem dX5_bitsOfFloat_5 : decode cX5_bitsOfFloat 5 = .ok (.istore_n 2, 1) := by decide +kernel
theorem dX5_bitsOfFloat_6 : decode cX5_bitsOfFloat 6 = .ok (.iload_n 2, 1) := by decide +kernel
theorem dX5_bitsOfFloat_7 : decode cX5_bitsOfFloat 7 = .ok (.iconst 1, 1) := by decide +kernel
theorem dX5_bitsOfFloat_8 : decode cX5_bitsOfFloat 8 = .ok (.if_icmp .le 21, 3) := by decide +kernel
theorem dX5_bitsOfFloat_11 : decode cX5_bitsOfFloat 11 = .ok (.fload_n 1, 1) := by decide +kernel
theorem dX5_bitsOfFloat_12 : decode cX5_bitsOfFloat 12 = .ok (.ldc_w 264, 3) := by decide +kernel
theorem dX5_bitsOfFloat_15 : decode cX5_bitsOfFloat 15 = .ok (.fcmp .g, 1) := by decide +kernel
theorem dX5_bitsOfFloat_16 : decode cX5_bitsOfFloat 16 = .ok (.ifCond .ge 13, 3) := by decide +kernel
theorem dX5_bitsOfFloat_19 : decode cX5_bitsOfFloat 19 = .ok (.fload_n 1, 1) := by decide +kernel
theorem dX5_bitsOfFloat_20 : decode cX5_bitsOfFloat 20 = .ok (.fconst 2, 1) := by decide +kernel
theorem dX5_bitsOfFloat_21 : decode cX5_bitsOfFloat 21 = .ok (.fmul, 1) := by decide +kernel
theorem dX5_bitsOfFloat_22 : decode cX5_bitsOfFloat 22 = .ok (.fstore_n 1, 1) := by decide +kernel
theorem dX5_bitsOfFloat_23 : decode cX5_bitsOfFloat 23 = .ok (.iinc 2 (-1), 3) := by decide +kernel
theorem dX5_bitsOfFloat_26 : decode cX5_bitsOfFloat 26 = .ok (.goto (-20), 3) := by decide +kernel
theorem dX5_bitsOfFloat_29 : decode cX5_bitsOfFloat 29 = .ok (.fload_n 1, 1) := by decide +kernel
theorem dX5_bitsOfFloat_30 : decode cX5_bitsOfFloat 30 = .ok (.f2i, 1) := by decide +kernel
theorem dX5_bitsOfFloat_31 : decode cX5_bitsOfFloat 31 = .ok (.istore_n 3, 1) := by decide +kernel
theorem dX5_bitsOfFloat_32 : decode cX5_bitsOfFloat 32 = .ok (.iload_n 3, 1) := by decide +kernel
theorem dX5_bitsOfFloat_33 : decode cX5_bitsOfFloat 33 = .ok (.ldc_w 265, 3) := by decide +kernel
theorem dX5_bitsOfFloat_36 : decode cX5_bitsOfFloat 36 = .ok (.if_icmp .ge 7, 3) := by decide +kernel
theorem dX5_bitsOfFloat_39 : decode cX5_bitsOfFloat 39 = .ok (.iload_n 3, 1) := by decide +kernel
theorem dX5_bitsOfFloat_40 : decode cX5_bitsOfFloat 40 = .ok (.goto 13, 3) := by decide +kernel
theorem dX5_bitsOfFloat_43 : decode cX5_bitsOfFloat 43 = .ok (.iload_n 2, 1) := by decide +kernel
theorem dX5_bitsOfFloat_44 : decode cX5_bitsOfFloat 44 = .ok (.bipush 23, 2) := by decide +kernel
theorem dX5_bitsOfFloat_46 : decode cX5_bitsOfFloat 46 = .ok (.ishl, 1) := by decide +kernel
theorem dX5_bitsOfFloat_47 : decode cX5_bitsOfFloat 47 = .ok (.iload_n 3, 1) := by decide +kernel
theorem dX5_bitsOfFloat_48 : decode cX5_bitsOfFloat 48 = .ok (.ldc_w 265, 3) := by decide +kernel
theorem dX5_bitsOfFloat_51 : decode cX5_bitsOfFloat 51 = .ok (.isub, 1) := by decide +kernel
theorem dX5_bitsOfFloat_52 : decode cX5_bitsOfFloat 52 = .ok (.iadd, 1) := by decide +kernel
theorem dX5_bitsOfFloat_53 : decode cX5_bitsOfFloat 53 = .ok (.ireturn, 1) := by decide +kernel
theorem dJ13_bitCount_95d88_0 : decode cJ13_bitCount_95d88 0 = .ok (.lload_n 0, 1) := by decide +kernel
theorem dJ13_bitCount_95d88_1 : decode cJ13_bitCount_95d88 1 = .ok (.lload_n 0, 1) := by decide +kernel
theorem dJ13_bitCount_95d88_2 : decode cJ13_bitCount_95d88 2 = .ok (.iconst 1, 1) := by decide +kernel
theorem dJ13_bitCount_95d88_3 : decode cJ13_bitCount_95d88 3 = .ok (.lushr, 1) := by decide +kernel
theorem dJ13_bitCount_95d88_4 : decode cJ13_bitCount_95d88 4 = .ok (.ldc2_w 314, 3) := by decide +kernel
theorem dJ13_bitCount_95d88_7 : decode cJ13_bitCount_95d88 7 = .ok (.land, 1) := by decide +kernel
theorem dJ13_bitCount_95d88_8 : decode cJ13_bitCount_95d88 8 = .ok (.lsub, 1) := by decide +kernel
theorem dJ13_bitCount_95d88_9 : decode cJ13_bitCount_95d88 9 = .ok (.lstore_n 0, 1) := by decide +kernel
theorem dJ13_bitCount_95d88_10 : decode cJ13_bitCount_95d88 10 = .ok (.lload_n 0, 1) := by decide +kernel
theorem dJ13_bitCount_95d88_11 : decode cJ13_bitCount_95d88 11 = .ok (.ldc2_w 316, 3) := by decide +kernel
theorem dJ13_bitCount_95d88_14 : decode cJ13_bitCount_95d88 14 = .ok (.land, 1) := by decide +kernel
theorem dJ13_bitCount_95d88_15 : decode cJ13_bitCount_95d88 15 = .ok (.lload_n 0, 1) := by decide +kernel
theorem dJ13_bitCount_95d88_16 : decode cJ13_bitCount_95d88 16 = .ok (.iconst 2, 1) := by decide +kernel
theorem dJ13_bitCount_95d88_17 : decode cJ13_bitCount_95d88 17 = .ok (.lushr, 1) := by decide +kernel
theorem dJ13_bitCount_95d88_18 : decode cJ13_bitCount_95d88 18 = .ok (.ldc2_w 316, 3) := by decide +kernel
theorem dJ13_bitCount_95d88_21 : decode cJ13_bitCount_95d88 21 = .ok (.land, 1) := by decide +kernel
theorem dJ13_bitCount_95d88_22 : decode cJ13_bitCount_95d88 22 = .ok (.ladd, 1) := by decide +kernel
theorem dJ13_bitCount_95d88_23 : decode cJ13_bitCount_95d88 23 = .ok (.lstore_n 0, 1) := by decide +kernel
theorem dJ13_bitCount_95d88_24 : decode cJ13_bitCount_95d88 24 = .ok (.lload_n 0, 1) := by decide +kernel
theorem dJ13_bitCount_95d88_25 : decode cJ13_bitCount_95d88 25 = .ok (.lload_n 0, 1) := by decide +kernel
theorem dJ13_bitCount_95d88_26 : decode cJ13_bitCount_95d88 26 = .ok (.iconst 4, 1) := by decide +kernel
theorem dJ13_bitCount_95d88_27 : decode cJ13_bitCount_95d88 27 = .ok (.lushr, 1) := by decide +kernel
theorem dJ13_bitCount_95d88_28 : decode cJ13_bitCount_95d88 28 = .ok (.ladd, 1) := by decide +kernel
theorem dJ13_bitCount_95d88_29 : decode cJ13_bitCount_95d88 29 = .ok (.ldc2_w 318, 3) := by decide +kernel
theorem dJ13_bitCount_95d88_32 : decode cJ13_bitCount_95d88 32 = .ok (.land, 1) := by decide +kernel
theorem dJ13_bitCount_95d88_33 : decode cJ13_bitCount_95d88 33 = .ok (.lstore_n 0, 1) := by decide +kernel
theorem dJ13_bitCount_95d88_34 : decode cJ13_bitCount_95d88 34 = .ok (.lload_n 0, 1) := by decide +kernel
theorem dJ13_bitCount_95d88_35 : decode cJ13_bitCount_95d88 35 = .ok (.lload_n 0, 1) := by decide +kernel
theorem dJ13_bitCount_95d88_36 : decode cJ13_bitCount_95d88 36 = .ok (.bipush 8, 2) := by decide +kernel
theorem dJ13_bitCount_95d88_38 : decode cJ13_bitCount_95d88 38 = .ok (.lushr, 1) := by decide +kernel
theorem dJ13_bitCount_95d88_39 : decode cJ13_bitCount_95d88 39 = .ok (.ladd, 1) := by decide +kernel
theorem dJ13_bitCount_95d88_40 : decode cJ13_bitCount_95d88 40 = .ok (.lstore_n 0, 1) := by decide +kernel
theorem dJ13_bitCount_95d88_41 : decode cJ13_bitCount_95d88 41 = .ok (.lload_n 0, 1) := by decide +kernel
theorem dJ13_bitCount_95d88_42 : decode cJ13_bitCount_95d88 42 = .ok (.lload_n 0, 1) := by decide +kernel
theorem dJ13_bitCount_95d88_43 : decode cJ13_bitCount_95d88 43 = .ok (.bipush 16, 2) := by decide +kernel
theorem dJ13_bitCount_95d88_45 : decode cJ13_bitCount_95d88 45 = .ok (.lushr, 1) := by decide +kernel
theorem dJ13_bitCount_95d88_46 : decode cJ13_bitCount_95d88 46 = .ok (.ladd, 1) := by decide +kernel
theorem dJ13_bitCount_95d88_47 : decode cJ13_bitCount_95d88 47 = .ok (.lstore_n 0, 1) := by decide +kernel
theorem dJ13_bitCount_95d88_48 : decode cJ13_bitCount_95d88 48 = .ok (.lload_n 0, 1) := by decide +kernel
theorem dJ13_bitCount_95d88_49 : decode cJ13_bitCount_95d88 49 = .ok (.lload_n 0, 1) := by decide +kernel
theorem dJ13_bitCount_95d88_50 : decode cJ13_bitCount_95d88 50 = .ok (.bipush 32, 2) := by decide +kernel
theorem dJ13_bitCount_95d88_52 : decode cJ13_bitCount_95d88 52 = .ok (.lushr, 1) := by decide +kernel
theorem dJ13_bitCount_95d88_53 : decode cJ13_bitCount_95d88 53 = .ok (.ladd, 1) := by decide +kernel
theorem dJ13_bitCount_95d88_54 : decode cJ13_bitCount_95d88 54 = .ok (.lstore_n 0, 1) := by decide +kernel
theorem dJ13_bitCount_95d88_55 : decode cJ13_bitCount_95d88 55 = .ok (.lload_n 0, 1) := by decide +kernel
theorem dJ13_bitCount_95d88_56 : decode cJ13_bitCount_95d88 56 = .ok (.l2i, 1) := by decide +kernel
theorem dJ13_bitCount_95d88_57 : decode cJ13_bitCount_95d88 57 = .ok (.bipush 127, 2) := by decide +kernel
theorem dJ13_bitCount_95d88_59 : decode cJ13_bitCount_95d88 59 = .ok (.iand, 1) := by decide +kernel
theorem dJ13_bitCount_95d88_60 : decode cJ13_bitCount_95d88 60 = .ok (.ireturn, 1) := by decide +kernel
theorem dJ9_abs_0f7a4_0 : decode cJ9_abs_0f7a4 0 = .ok (.iload_n 0, 1) := by decide +kernel
theorem dJ9_abs_0f7a4_1 : decode cJ9_abs_0f7a4 1 = .ok (.ifCond .ge 8, 3) := by decide +kernel
theorem dJ9_abs_0f7a4_4 : decode cJ9_abs_0f7a4 4 = .ok (.iload_n 0, 1) := by decide +kernel
theorem dJ9_abs_0f7a4_5 : decode cJ9_abs_0f7a4 5 = .ok (.ineg, 1) := by decide +kernel
theorem dJ9_abs_0f7a4_6 : decode cJ9_abs_0f7a4 6 = .ok (.goto 4, 3) := by decide +kernel
theorem dJ9_abs_0f7a4_9 : decode cJ9_abs_0f7a4 9 = .ok (.iload_n 0, 1) := by decide +kernel
theorem dJ9_abs_0f7a4_10 : decode cJ9_abs_0f7a4 10 = .ok (.ireturn, 1) := by decide +kernel
theorem dJ9_max_7cf53_0 : decode cJ9_max_7cf53 0 = .ok (.iload_n 0, 1) := by decide +kernel
theorem dJ9_max_7cf53_1 : decode cJ9_max_7cf53 1 = .ok (.iload_n 1, 1) := by decide +kernel
theorem dJ9_max_7cf53_2 : decode cJ9_max_7cf53 2 = .ok (.if_icmp .lt 7, 3) := by decide +kernel
theorem dJ9_max_7cf53_5 : decode cJ9_max_7cf53 5 = .ok (.iload_n 0, 1) := by decide +kernel
theorem dJ9_max_7cf53_6 : decode cJ9_max_7cf53 6 = .ok (.goto 4, 3) := by decide +kernel
theorem dJ9_max_7cf53_9 : decode cJ9_max_7cf53 9 = .ok (.iload_n 1, 1) := by decide +kernel
theorem dJ9_max_7cf53_10 : decode cJ9_max_7cf53 10 = .ok (.ireturn, 1) := by decide +kernel
theorem dJ9_min_7cf53_0 : decode cJ9_min_7cf53 0 = .ok (.iload_n 0, 1) := by decide +kernel
theorem dJ9_min_7cf53_1 : decode cJ9_min_7cf53 1 = .ok (.iload_n 1, 1) := by decide +kernel
theorem dJ9_min_7cf53_2 : decode cJ9_min_7cf53 2 = .ok (.if_icmp .gt 7, 3) := by decide +kernel
theorem dJ9_min_7cf53_5 : decode cJ9_min_7cf53 5 = .ok (.iload_n 0, 1) := by decide +kernel
theorem dJ9_min_7cf53_6 : decode cJ9_min_7cf53 6 = .ok (.goto 4, 3) := by decide +kernel
theorem dJ9_min_7cf53_9 : decode cJ9_min_7cf53 9 = .ok (.iload_n 1, 1) := by decide +kernel
theorem dJ9_min_7cf53_10 : decode cJ9_min_7cf53 10 = .ok (.ireturn, 1) := by decide +kernel
theorem dL_cell_0 : decode cL_cell 0 = .ok (.iload_n 1, 1) := by decide +kernel
theorem dL_cell_1 : decode cL_cell 1 = .ok (.aload_n 0, 1) := by decide +kernel
theorem dL_cell_2 : decode cL_cell 2 = .ok (.arraylength, 1) := by decide +kernel
theorem dL_cell_3 : decode cL_cell 3 = .ok (.if_icmp .ge 9, 3) := by decide +kernel
theorem dL_cell_6 : decode cL_cell 6 = .ok (.aload_n 0, 1) := by decide +kernel
theorem dL_cell_7 : decode cL_cell 7 = .ok (.iload_n 1, 1) := by decide +kernel
theorem dL_cell_8 : decode cL_cell 8 = .ok (.iaload, 1) := by decide +kernel
theorem dL_cell_9 : decode cL_cell 9 = .ok (.goto 12, 3) := by decide +kernel
theorem dL_cell_12 : decode cL_cell 12 = .ok (.ldc 7, 2) := by decide +kernel
theorem dL_cell_14 : decode cL_cell 14 = .ok (.iload_n 1, 1) := by decide +kernel
theorem dL_cell_15 : decode cL_cell 15 = .ok (.iconst 1, 1) := by decide +kernel
theorem dL_cell_16 : decode cL_cell 16 = .ok (.iadd, 1) := by decide +kernel
theorem dL_cell_17 : decode cL_cell 17 = .ok (.imul, 1) := by decide +kernel
theorem dL_cell_18 : decode cL_cell 18 = .ok (.ldc 8, 2) := by decide +kernel
theorem dL_cell_20 : decode cL_cell 20 = .ok (.iadd, 1) := by decide +kernel
theorem dL_cell_21 : decode cL_cell 21 = .ok (.ireturn, 1) := by decide +kernel
theorem dL_low_0 : decode cL_low 0 = .ok (.iload_n 0, 1) := by decide +kernel
theorem dL_low_1 : decode cL_low 1 = .ok (.ldc 9, 2) := by decide +kernel
theorem dL_low_3 : decode cL_low 3 = .ok (.iand, 1) := by decide +kernel
theorem dL_low_4 : decode cL_low 4 = .ok (.iload_n 1, 1) := by decide +kernel
theorem dL_low_5 : decode cL_low 5 = .ok (.irem, 1) := by decide +kernel
theorem dL_low_6 : decode cL_low 6 = .ok (.ireturn, 1) := by decide +kernel
theorem dL_net_0 : decode cL_net 0 = .ok (.iload_n 0, 1) := by decide +kernel
theorem dL_net_1 : decode cL_net 1 = .ok (.ifCond .lt 19, 3) := by decide +kernel
theorem dL_net_4 : decode cL_net 4 = .ok (.iload_n 1, 1) := by decide +kernel
theorem dL_net_5 : decode cL_net 5 = .ok (.ifCond .lt 15, 3) := by decide +kernel
theorem dL_net_8 : decode cL_net 8 = .ok (.iload_n 0, 1) := by decide +kernel
theorem dL_net_9 : decode cL_net 9 = .ok (.bipush 7, 2) := by decide +kernel
theorem dL_net_11 : decode cL_net 11 = .ok (.if_icmp .gt 9, 3) := by decide +kernel
theorem dL_net_14 : decode cL_net 14 = .ok (.iload_n 1, 1) := by decide +kernel
theorem dL_net_15 : decode cL_net 15 = .ok (.bipush 7, 2) := by decide +kernel
theorem dL_net_17 : decode cL_net 17 = .ok (.if_icmp .le 7, 3) := by decide +kernel
theorem dL_net_20 : decode cL_net 20 = .ok (.iconst 0, 1) := by decide +kernel
theorem dL_net_21 : decode cL_net 21 = .ok (.goto 11, 3) := by decide +kernel
theorem dL_net_24 : decode cL_net 24 = .ok (.aload_n 2, 1) := by decide +kernel
theorem dL_net_25 : decode cL_net 25 = .ok (.bipush 8, 2) := by decide +kernel
theorem dL_net_27 : decode cL_net 27 = .ok (.iload_n 0, 1) := by decide +kernel
theorem dL_net_28 : decode cL_net 28 = .ok (.imul, 1) := by decide +kernel
theorem dL_net_29 : decode cL_net 29 = .ok (.iload_n 1, 1) := by decide +kernel
theorem dL_net_30 : decode cL_net 30 = .ok (.iadd, 1) := by decide +kernel
theorem dL_net_31 : decode cL_net 31 = .ok (.iaload, 1) := by decide +kernel
theorem dL_net_32 : decode cL_net 32 = .ok (.ireturn, 1) := by decide +kernel
set_option maxRecDepth 20000 in
theorem ggL_beside_L_net : GoodIn wsL_beside wsL_net := goodIn_r _ [4] (by decide +kernel) (by decide +kernel)
set_option maxRecDepth 20000 in
theorem gL_beside_L_net : GoodIn wsL_beside (va_wsS RL 10 yL_net wsL_net) := goodIn_app (goodIn_of _ (by decide +kernel)) ggL_beside_L_net
theorem dL_beside_0 : decode cL_beside 0 = .ok (.iload_n 1, 1) := by decide +kernel
theorem dL_beside_1 : decode cL_beside 1 = .ok (.ifCond .ne 20, 3) := by decide +kernel
theorem dL_beside_4 : decode cL_beside 4 = .ok (.iload_n 0, 1) := by decide +kernel
theorem dL_beside_5 : decode cL_beside 5 = .ok (.bipush 8, 2) := by decide +kernel
theorem dL_beside_7 : decode cL_beside 7 = .ok (.idiv, 1) := by decide +kernel
theorem dL_beside_8 : decode cL_beside 8 = .ok (.iconst 1, 1) := by decide +kernel
theorem dL_beside_9 : decode cL_beside 9 = .ok (.isub, 1) := by decide +kernel
theorem dL_beside_10 : decode cL_beside 10 = .ok (.iload_n 0, 1) := by decide +kernel
theorem dL_beside_11 : decode cL_beside 11 = .ok (.bipush 8, 2) := by decide +kernel
theorem dL_beside_13 : decode cL_beside 13 = .ok (.irem, 1) := by decide +kernel
theorem dL_beside_14 : decode cL_beside 14 = .ok (.aload_n 2, 1) := by decide +kernel
theorem dL_beside_15 : decode cL_beside 15 = .ok (.invokestatic 10, 3) := by decide +kernel
theorem dL_beside_18 : decode cL_beside 18 = .ok (.goto 61, 3) := by decide +kernel
theorem dL_beside_21 : decode cL_beside 21 = .ok (.iload_n 1, 1) := by decide +kernel
theorem dL_beside_22 : decode cL_beside 22 = .ok (.iconst 1, 1) := by decide +kernel
theorem dL_beside_23 : decode cL_beside 23 = .ok (.if_icmp .ne 20, 3) := by decide +kernel
theorem dL_beside_26 : decode cL_beside 26 = .ok (.iload_n 0, 1) := by decide +kernel
theorem dL_beside_27 : decode cL_beside 27 = .ok (.bipush 8, 2) := by decide +kernel
theorem dL_beside_29 : decode cL_beside 29 = .ok (.idiv, 1) := by decide +kernel
theorem dL_beside_30 : decode cL_beside 30 = .ok (.iconst 1, 1) := by decide +kernel
theorem dL_beside_31 : decode cL_beside 31 = .ok (.iadd, 1) := by decide +kernel
theorem dL_beside_32 : decode cL_beside 32 = .ok (.iload_n 0, 1) := by decide +kernel
theorem dL_beside_33 : decode cL_beside 33 = .ok (.bipush 8, 2) := by decide +kernel
theorem dL_beside_35 : decode cL_beside 35 = .ok (.irem, 1) := by decide +kernel
theorem dL_beside_36 : decode cL_beside 36 = .ok (.aload_n 2, 1) := by decide +kernel
theorem dL_beside_37 : decode cL_beside 37 = .ok (.invokestatic 10, 3) := by decide +kernel
theorem dL_beside_40 : decode cL_beside 40 = .ok (.goto 39, 3) := by decide +kernel
theorem dL_beside_43 : decode cL_beside 43 = .ok (.iload_n 1, 1) := by decide +kernel
theorem dL_beside_44 : decode cL_beside 44 = .ok (.iconst 2, 1) := by decide +kernel
theorem dL_beside_45 : decode cL_beside 45 = .ok (.if_icmp .ne 20, 3) := by decide +kernel
theorem dL_beside_48 : decode cL_beside 48 = .ok (.iload_n 0, 1) := by decide +kernel
theorem dL_beside_49 : decode cL_beside 49 = .ok (.bipush 8, 2) := by decide +kernel
theorem dL_beside_51 : decode cL_beside 51 = .ok (.idiv, 1) := by decide +kernel
theorem dL_beside_52 : decode cL_beside 52 = .ok (.iload_n 0, 1) := by decide +kernel
theorem dL_beside_53 : decode cL_beside 53 = .ok (.bipush 8, 2) := by decide +kernel
theorem dL_beside_55 : decode cL_beside 55 = .ok (.irem, 1) := by decide +kernel
theorem dL_beside_56 : decode cL_beside 56 = .ok (.iconst 1, 1) := by decide +kernel
theorem dL_beside_57 : decode cL_beside 57 = .ok (.isub, 1) := by decide +kernel
theorem dL_beside_58 : decode cL_beside 58 = .ok (.aload_n 2, 1) := by decide +kernel
theorem dL_beside_59 : decode cL_beside 59 = .ok (.invokestatic 10, 3) := by decide +kernel
theorem dL_beside_62 : decode cL_beside 62 = .ok (.goto 17, 3) := by decide +kernel
theorem dL_beside_65 : decode cL_beside 65 = .ok (.iload_n 0, 1) := by decide +kernel
theorem dL_beside_66 : decode cL_beside 66 = .ok (.bipush 8, 2) := by decide +kernel
theorem dL_beside_68 : decode cL_beside 68 = .ok (.idiv, 1) := by decide +kernel
theorem dL_beside_69 : decode cL_beside 69 = .ok (.iload_n 0, 1) := by decide +kernel
theorem dL_beside_70 : decode cL_beside 70 = .ok (.bipush 8, 2) := by decide +kernel
theorem dL_beside_72 : decode cL_beside 72 = .ok (.irem, 1) := by decide +kernel
theorem dL_beside_73 : decode cL_beside 73 = .ok (.iconst 1, 1) := by decide +kernel
theorem dL_beside_74 : decode cL_beside 74 = .ok (.iadd, 1) := by decide +kernel
theorem dL_beside_75 : decode cL_beside 75 = .ok (.aload_n 2, 1) := by decide +kernel
theorem dL_beside_76 : decode cL_beside 76 = .ok (.invokestatic 10, 3) := by decide +kernel
theorem dL_beside_79 : decode cL_beside 79 = .ok (.ireturn, 1) := by decide +kernel
theorem dL_near_0 : decode cL_near 0 = .ok (.iload_n 0, 1) := by decide +kernel
theorem dL_near_1 : decode cL_near 1 = .ok (.bipush 8, 2) := by decide +kernel
theorem dL_near_3 : decode cL_near 3 = .ok (.idiv, 1) := by decide +kernel
theorem dL_near_4 : decode cL_near 4 = .ok (.iload_n 1, 1) := by decide +kernel
theorem dL_near_5 : decode cL_near 5 = .ok (.bipush 8, 2) := by decide +kernel
theorem dL_near_7 : decode cL_near 7 = .ok (.idiv, 1) := by decide +kernel
theorem dL_near_8 : decode cL_near 8 = .ok (.isub, 1) := by decide +kernel
theorem dL_near_9 : decode cL_near 9 = .ok (.istore_n 2, 1) := by decide +kernel
theorem dL_near_10 : decode cL_near 10 = .ok (.iload_n 0, 1) := by decide +kernel
theorem dL_near_11 : decode cL_near 11 = .ok (.bipush 8, 2) := by decide +kernel
theorem dL_near_13 : decode cL_near 13 = .ok (.irem, 1) := by decide +kernel
theorem dL_near_14 : decode cL_near 14 = .ok (.iload_n 1, 1) := by decide +kernel
theorem dL_near_15 : decode cL_near 15 = .ok (.bipush 8, 2) := by decide +kernel
theorem dL_near_17 : decode cL_near 17 = .ok (.irem, 1) := by decide +kernel
end
section
theorem dL_near_18 : decode cL_near 18 = .ok (.isub, 1) := by decide +kernel
theorem dL_near_19 : decode cL_near 19 = .ok (.istore_n 3, 1) := by decide +kernel
theorem dL_near_20 : decode cL_near 20 = .ok (.iload_n 2, 1) := by decide +kernel
theorem dL_near_21 : decode cL_near 21 = .ok (.iload_n 2, 1) := by decide +kernel
theorem dL_near_22 : decode cL_near 22 = .ok (.imul, 1) := by decide +kernel
theorem dL_near_23 : decode cL_near 23 = .ok (.iload_n 3, 1) := by decide +kernel
theorem dL_near_24 : decode cL_near 24 = .ok (.iload_n 3, 1) := by decide +kernel
theorem dL_near_25 : decode cL_near 25 = .ok (.imul, 1) := by decide +kernel
theorem dL_near_26 : decode cL_near 26 = .ok (.iadd, 1) := by decide +kernel
theorem dL_near_27 : decode cL_near 27 = .ok (.iconst 1, 1) := by decide +kernel
theorem dL_near_28 : decode cL_near 28 = .ok (.if_icmp .ne 7, 3) := by decide +kernel
theorem dL_near_31 : decode cL_near 31 = .ok (.iconst 1, 1) := by decide +kernel
theorem dL_near_32 : decode cL_near 32 = .ok (.goto 4, 3) := by decide +kernel
theorem dL_near_35 : decode cL_near 35 = .ok (.iconst 0, 1) := by decide +kernel
theorem dL_near_36 : decode cL_near 36 = .ok (.ireturn, 1) := by decide +kernel
theorem dL_fed_0 : decode cL_fed 0 = .ok (.aload_n 2, 1) := by decide +kernel
theorem dL_fed_1 : decode cL_fed 1 = .ok (.iload_n 0, 1) := by decide +kernel
theorem dL_fed_2 : decode cL_fed 2 = .ok (.iaload, 1) := by decide +kernel
theorem dL_fed_3 : decode cL_fed 3 = .ok (.iload_n 1, 1) := by decide +kernel
theorem dL_fed_4 : decode cL_fed 4 = .ok (.ishr, 1) := by decide +kernel
theorem dL_fed_5 : decode cL_fed 5 = .ok (.iconst 1, 1) := by decide +kernel
theorem dL_fed_6 : decode cL_fed 6 = .ok (.iand, 1) := by decide +kernel
theorem dL_fed_7 : decode cL_fed 7 = .ok (.iconst 1, 1) := by decide +kernel
theorem dL_fed_8 : decode cL_fed 8 = .ok (.if_icmp .ne 7, 3) := by decide +kernel
theorem dL_fed_11 : decode cL_fed 11 = .ok (.iconst 1, 1) := by decide +kernel
theorem dL_fed_12 : decode cL_fed 12 = .ok (.goto 4, 3) := by decide +kernel
theorem dL_fed_15 : decode cL_fed 15 = .ok (.iconst 0, 1) := by decide +kernel
theorem dL_fed_16 : decode cL_fed 16 = .ok (.ireturn, 1) := by decide +kernel
set_option maxRecDepth 20000 in
theorem ggL_suspect_L_beside : GoodIn wsL_suspect wsL_beside := goodIn_r _ [4, 5, 6, 3, 7] (by decide +kernel) (by decide +kernel)
set_option maxRecDepth 20000 in
theorem gL_suspect_L_beside : GoodIn wsL_suspect (va_wsS RL 16 yL_beside wsL_beside) := goodIn_app (goodIn_of _ (by decide +kernel)) ggL_suspect_L_beside
set_option maxRecDepth 20000 in
theorem ggL_suspect_L_fed : GoodIn wsL_suspect wsL_fed := goodIn_r _ [10] (by decide +kernel) (by decide +kernel)
set_option maxRecDepth 20000 in
theorem gL_suspect_L_fed : GoodIn wsL_suspect (va_wsS RL 19 yL_fed wsL_fed) := goodIn_app (goodIn_of _ (by decide +kernel)) ggL_suspect_L_fed
theorem dL_suspect_0 : decode cL_suspect 0 = .ok (.iconst 0, 1) := by decide +kernel
theorem dL_suspect_1 : decode cL_suspect 1 = .ok (.istore_n 3, 1) := by decide +kernel
theorem dL_suspect_2 : decode cL_suspect 2 = .ok (.iload_n 3, 1) := by decide +kernel
theorem dL_suspect_3 : decode cL_suspect 3 = .ok (.iconst 4, 1) := by decide +kernel
theorem dL_suspect_4 : decode cL_suspect 4 = .ok (.if_icmp .ge 50, 3) := by decide +kernel
theorem dL_suspect_7 : decode cL_suspect 7 = .ok (.iload_n 0, 1) := by decide +kernel
theorem dL_suspect_8 : decode cL_suspect 8 = .ok (.iload_n 3, 1) := by decide +kernel
theorem dL_suspect_9 : decode cL_suspect 9 = .ok (.aload_n 1, 1) := by decide +kernel
theorem dL_suspect_10 : decode cL_suspect 10 = .ok (.invokestatic 16, 3) := by decide +kernel
theorem dL_suspect_13 : decode cL_suspect 13 = .ok (.istore 4, 2) := by decide +kernel
theorem dL_suspect_15 : decode cL_suspect 15 = .ok (.aload_n 1, 1) := by decide +kernel
theorem dL_suspect_16 : decode cL_suspect 16 = .ok (.iload_n 0, 1) := by decide +kernel
theorem dL_suspect_17 : decode cL_suspect 17 = .ok (.iaload, 1) := by decide +kernel
theorem dL_suspect_18 : decode cL_suspect 18 = .ok (.ifCond .le 30, 3) := by decide +kernel
theorem dL_suspect_21 : decode cL_suspect 21 = .ok (.iload 4, 2) := by decide +kernel
theorem dL_suspect_23 : decode cL_suspect 23 = .ok (.ifCond .le 25, 3) := by decide +kernel
theorem dL_suspect_26 : decode cL_suspect 26 = .ok (.iload 4, 2) := by decide +kernel
theorem dL_suspect_28 : decode cL_suspect 28 = .ok (.aload_n 1, 1) := by decide +kernel
theorem dL_suspect_29 : decode cL_suspect 29 = .ok (.iload_n 0, 1) := by decide +kernel
theorem dL_suspect_30 : decode cL_suspect 30 = .ok (.iaload, 1) := by decide +kernel
theorem dL_suspect_31 : decode cL_suspect 31 = .ok (.if_icmp .eq 17, 3) := by decide +kernel
theorem dL_suspect_34 : decode cL_suspect 34 = .ok (.aload_n 1, 1) := by decide +kernel
theorem dL_suspect_35 : decode cL_suspect 35 = .ok (.iload_n 0, 1) := by decide +kernel
theorem dL_suspect_36 : decode cL_suspect 36 = .ok (.iaload, 1) := by decide +kernel
theorem dL_suspect_37 : decode cL_suspect 37 = .ok (.iload 4, 2) := by decide +kernel
theorem dL_suspect_39 : decode cL_suspect 39 = .ok (.aload_n 2, 1) := by decide +kernel
theorem dL_suspect_40 : decode cL_suspect 40 = .ok (.invokestatic 19, 3) := by decide +kernel
theorem dL_suspect_43 : decode cL_suspect 43 = .ok (.ifCond .eq 5, 3) := by decide +kernel
theorem dL_suspect_46 : decode cL_suspect 46 = .ok (.iconst 1, 1) := by decide +kernel
theorem dL_suspect_47 : decode cL_suspect 47 = .ok (.ireturn, 1) := by decide +kernel
theorem dL_suspect_48 : decode cL_suspect 48 = .ok (.iinc 3 1, 3) := by decide +kernel
theorem dL_suspect_51 : decode cL_suspect 51 = .ok (.goto (-49), 3) := by decide +kernel
theorem dL_suspect_54 : decode cL_suspect 54 = .ok (.iconst 0, 1) := by decide +kernel
theorem dL_suspect_55 : decode cL_suspect 55 = .ok (.ireturn, 1) := by decide +kernel
theorem dL_touch_0 : decode cL_touch 0 = .ok (.iconst 0, 1) := by decide +kernel
theorem dL_touch_1 : decode cL_touch 1 = .ok (.istore_n 3, 1) := by decide +kernel
theorem dL_touch_2 : decode cL_touch 2 = .ok (.iload_n 3, 1) := by decide +kernel
theorem dL_touch_3 : decode cL_touch 3 = .ok (.aload_n 1, 1) := by decide +kernel
theorem dL_touch_4 : decode cL_touch 4 = .ok (.iconst 5, 1) := by decide +kernel
theorem dL_touch_5 : decode cL_touch 5 = .ok (.iaload, 1) := by decide +kernel
theorem dL_touch_6 : decode cL_touch 6 = .ok (.if_icmp .ge 20, 3) := by decide +kernel
theorem dL_touch_9 : decode cL_touch 9 = .ok (.aload_n 2, 1) := by decide +kernel
theorem dL_touch_10 : decode cL_touch 10 = .ok (.iconst 2, 1) := by decide +kernel
theorem dL_touch_11 : decode cL_touch 11 = .ok (.iload_n 3, 1) := by decide +kernel
theorem dL_touch_12 : decode cL_touch 12 = .ok (.imul, 1) := by decide +kernel
theorem dL_touch_13 : decode cL_touch 13 = .ok (.iaload, 1) := by decide +kernel
theorem dL_touch_14 : decode cL_touch 14 = .ok (.iload_n 0, 1) := by decide +kernel
theorem dL_touch_15 : decode cL_touch 15 = .ok (.if_icmp .ne 5, 3) := by decide +kernel
theorem dL_touch_18 : decode cL_touch 18 = .ok (.iload_n 3, 1) := by decide +kernel
theorem dL_touch_19 : decode cL_touch 19 = .ok (.ireturn, 1) := by decide +kernel
theorem dL_touch_20 : decode cL_touch 20 = .ok (.iinc 3 1, 3) := by decide +kernel
theorem dL_touch_23 : decode cL_touch 23 = .ok (.goto (-21), 3) := by decide +kernel
theorem dL_touch_26 : decode cL_touch 26 = .ok (.bipush (-6), 2) := by decide +kernel
theorem dL_touch_28 : decode cL_touch 28 = .ok (.ireturn, 1) := by decide +kernel
set_option maxRecDepth 20000 in
theorem ggL_live_L_fed : GoodIn wsL_live wsL_fed := goodIn_r _ [4] (by decide +kernel) (by decide +kernel)
set_option maxRecDepth 20000 in
theorem gL_live_L_fed : GoodIn wsL_live (va_wsS RL 19 yL_fed wsL_fed) := goodIn_app (goodIn_of _ (by decide +kernel)) ggL_live_L_fed
theorem dL_live_0 : decode cL_live 0 = .ok (.iconst 0, 1) := by decide +kernel
theorem dL_live_1 : decode cL_live 1 = .ok (.istore 4, 2) := by decide +kernel
theorem dL_live_3 : decode cL_live 3 = .ok (.iconst 0, 1) := by decide +kernel
theorem dL_live_4 : decode cL_live 4 = .ok (.istore 5, 2) := by decide +kernel
theorem dL_live_6 : decode cL_live 6 = .ok (.iload 5, 2) := by decide +kernel
theorem dL_live_8 : decode cL_live 8 = .ok (.aload_n 0, 1) := by decide +kernel
theorem dL_live_9 : decode cL_live 9 = .ok (.iconst 5, 1) := by decide +kernel
theorem dL_live_10 : decode cL_live 10 = .ok (.iaload, 1) := by decide +kernel
theorem dL_live_11 : decode cL_live 11 = .ok (.if_icmp .ge 42, 3) := by decide +kernel
theorem dL_live_14 : decode cL_live 14 = .ok (.iload 4, 2) := by decide +kernel
theorem dL_live_16 : decode cL_live 16 = .ok (.aload_n 2, 1) := by decide +kernel
theorem dL_live_17 : decode cL_live 17 = .ok (.aload_n 1, 1) := by decide +kernel
theorem dL_live_18 : decode cL_live 18 = .ok (.iconst 2, 1) := by decide +kernel
theorem dL_live_19 : decode cL_live 19 = .ok (.iload 5, 2) := by decide +kernel
theorem dL_live_21 : decode cL_live 21 = .ok (.imul, 1) := by decide +kernel
theorem dL_live_22 : decode cL_live 22 = .ok (.iaload, 1) := by decide +kernel
theorem dL_live_23 : decode cL_live 23 = .ok (.iaload, 1) := by decide +kernel
theorem dL_live_24 : decode cL_live 24 = .ok (.aload_n 1, 1) := by decide +kernel
theorem dL_live_25 : decode cL_live 25 = .ok (.iconst 2, 1) := by decide +kernel
theorem dL_live_26 : decode cL_live 26 = .ok (.iload 5, 2) := by decide +kernel
theorem dL_live_28 : decode cL_live 28 = .ok (.imul, 1) := by decide +kernel
theorem dL_live_29 : decode cL_live 29 = .ok (.iconst 1, 1) := by decide +kernel
theorem dL_live_30 : decode cL_live 30 = .ok (.iadd, 1) := by decide +kernel
theorem dL_live_31 : decode cL_live 31 = .ok (.iaload, 1) := by decide +kernel
theorem dL_live_32 : decode cL_live 32 = .ok (.aload_n 3, 1) := by decide +kernel
theorem dL_live_33 : decode cL_live 33 = .ok (.invokestatic 19, 3) := by decide +kernel
theorem dL_live_36 : decode cL_live 36 = .ok (.ifCond .eq 7, 3) := by decide +kernel
theorem dL_live_39 : decode cL_live 39 = .ok (.iconst 1, 1) := by decide +kernel
theorem dL_live_40 : decode cL_live 40 = .ok (.goto 4, 3) := by decide +kernel
theorem dL_live_43 : decode cL_live 43 = .ok (.iconst 0, 1) := by decide +kernel
theorem dL_live_44 : decode cL_live 44 = .ok (.iadd, 1) := by decide +kernel
theorem dL_live_45 : decode cL_live 45 = .ok (.istore 4, 2) := by decide +kernel
theorem dL_live_47 : decode cL_live 47 = .ok (.iinc 5 1, 3) := by decide +kernel
theorem dL_live_50 : decode cL_live 50 = .ok (.goto (-44), 3) := by decide +kernel
theorem dL_live_53 : decode cL_live 53 = .ok (.iload 4, 2) := by decide +kernel
theorem dL_live_55 : decode cL_live 55 = .ok (.ireturn, 1) := by decide +kernel
set_option maxRecDepth 20000 in
theorem ggL_same_L_live : GoodIn wsL_same wsL_live := goodIn_r _ [5, 6, 7, 4, 8] (by decide +kernel) (by decide +kernel)
set_option maxRecDepth 20000 in
theorem gL_same_L_live : GoodIn wsL_same (va_wsS RL 25 yL_live wsL_live) := goodIn_app (goodIn_of _ (by decide +kernel)) ggL_same_L_live
set_option maxRecDepth 20000 in
theorem ggL_same_L_suspect : GoodIn wsL_same wsL_suspect := goodIn_r _ [11, 12, 13, 4, 14, 15, 16, 17, 6, 7, 8] (by decide +kernel) (by decide +kernel)
set_option maxRecDepth 20000 in
theorem gL_same_L_suspect : GoodIn wsL_same (va_wsS RL 29 yL_suspect wsL_suspect) := goodIn_app (goodIn_of _ (by decide +kernel)) ggL_same_L_suspect
set_option maxRecDepth 20000 in
theorem ggL_same_X5_at : GoodIn wsL_same wsX5_at := goodIn_r _ [22, 23, 24, 25, 26, 21, 27, 28, 29, 30, 31, 32, 33, 34, 35, 36, 37, 38, 39, 40, 41, 42, 43, 44, 45, 46, 47, 48, 49, 50, 51, 52, 53, 54, 55, 56, 57, 58, 59, 60, 61, 62, 63, 64, 65, 66, 67, 68, 69, 70, 71, 72, 73, 74, 75, 76, 77, 78, 79, 80, 81, 82, 83, 84, 85, 86, 87, 88, 89, 90, 91, 92, 93, 94, 95, 96, 168, 169, 170, 171, 172, 173, 174, 175, 176, 177, 178, 179, 180, 181, 182, 183, 184, 185, 186, 187, 188, 189, 190, 191, 192] (by decide +kernel) (by decide +kernel)
set_option maxRecDepth 20000 in
theorem gL_same_X5_at : GoodIn wsL_same (wsV RL 33 RX5 yX5_at wsX5_at) := goodIn_app (goodIn_of _ (by decide +kernel)) ggL_same_X5_at
set_option maxRecDepth 20000 in
theorem ggL_same_L_touch : GoodIn wsL_same wsL_touch := goodIn_r _ [99] (by decide +kernel) (by decide +kernel)
set_option maxRecDepth 20000 in
theorem gL_same_L_touch : GoodIn wsL_same (va_wsS RL 37 yL_touch wsL_touch) := goodIn_app (goodIn_of _ (by decide +kernel)) ggL_same_L_touch
set_option maxRecDepth 20000 in
theorem ggL_same_L_fed : GoodIn wsL_same wsL_fed := goodIn_r _ [8] (by decide +kernel) (by decide +kernel)
set_option maxRecDepth 20000 in
theorem gL_same_L_fed : GoodIn wsL_same (va_wsS RL 19 yL_fed wsL_fed) := goodIn_app (goodIn_of _ (by decide +kernel)) ggL_same_L_fed
set_option maxRecDepth 20000 in
theorem ggL_same_X5_row : GoodIn wsL_same wsX5_row := goodIn_r _ [103, 23, 24, 104, 38, 105, 106, 41, 107, 108, 21, 109, 110, 111, 112, 113, 114, 37, 39, 40, 42, 43, 44, 45, 46, 47, 48, 115, 50, 116, 117, 118, 49, 51, 52, 53, 54, 55, 56, 57, 58, 59, 60, 61, 62, 63, 64, 65, 66, 67, 68, 69, 70, 71, 72, 73, 74, 75, 76, 77, 78, 79, 80, 81, 82, 34, 35, 36, 168, 169, 170, 171, 172, 173, 174, 175, 176, 177, 178, 179, 180, 181, 182, 183, 184, 185, 186, 187, 188, 189, 190, 191, 192] (by decide +kernel) (by decide +kernel)
set_option maxRecDepth 20000 in
theorem gL_same_X5_row : GoodIn wsL_same (wsV RL 41 RX5 yX5_row wsX5_row) := goodIn_app (goodIn_of _ (by decide +kernel)) ggL_same_X5_row
set_option maxRecDepth 20000 in
theorem ggL_same_X5_ofTouch : GoodIn wsL_same wsX5_ofTouch := goodIn_r _ [122, 23, 123, 38, 124, 125, 41, 96, 126, 44, 45, 46, 47, 48, 168, 169, 170, 171, 172, 173, 174, 175, 176, 177, 178, 179, 180, 181, 182, 183, 184, 185, 186, 187] (by decide +kernel) (by decide +kernel)
set_option maxRecDepth 20000 in
theorem gL_same_X5_ofTouch : GoodIn wsL_same (wsV RL 45 RX5 yX5_ofTouch wsX5_ofTouch) := goodIn_app (goodIn_of _ (by decide +kernel)) ggL_same_X5_ofTouch
set_option maxRecDepth 20000 in
theorem ggL_same_X5_reading : GoodIn wsL_same wsX5_reading := goodIn_r _ [130, 23, 168, 169, 170, 171, 172, 173, 174, 175, 176, 177, 178, 179, 180, 181, 182, 183, 184, 185, 186, 187] (by decide +kernel) (by decide +kernel)
set_option maxRecDepth 20000 in
theorem gL_same_X5_reading : GoodIn wsL_same (wsV RL 48 RX5 yX5_reading wsX5_reading) := goodIn_app (goodIn_of _ (by decide +kernel)) ggL_same_X5_reading
set_option maxRecDepth 20000 in
theorem ggL_same_X5_ofNet : GoodIn wsL_same wsX5_ofNet := goodIn_r _ [134, 23, 135, 136, 21, 137, 138, 38, 139, 140, 41, 141, 142, 143, 144, 28, 29, 30, 31, 32, 168, 169, 170, 171, 172, 173, 174, 175, 176, 177, 178, 179, 180, 181, 182, 183, 184, 185, 186, 187] (by decide +kernel) (by decide +kernel)
set_option maxRecDepth 20000 in
theorem gL_same_X5_ofNet : GoodIn wsL_same (wsV RL 51 RX5 yX5_ofNet wsX5_ofNet) := goodIn_app (goodIn_of _ (by decide +kernel)) ggL_same_X5_ofNet
set_option maxRecDepth 20000 in
theorem ggL_same_X5_count : GoodIn wsL_same wsX5_count := goodIn_r _ [148, 23, 24, 149, 150, 151, 38, 152, 153, 95, 96, 154, 123, 124, 125, 41, 126, 44, 45, 46, 47, 48, 155, 156, 157, 158, 159, 160, 161, 104, 105, 106, 111, 112, 113, 114, 37, 39, 40, 42, 21, 43, 115, 50, 116, 117, 118, 49, 51, 52, 53, 54, 55, 56, 57, 58, 59, 60, 61, 62, 63, 64, 65, 66, 67, 68, 69, 70, 71, 72, 73, 74, 75, 76, 77, 78, 79, 80, 81, 82, 34, 35, 36, 162, 163, 164, 165, 166, 167, 144, 168, 169, 170, 171, 172, 173, 174, 175, 176, 177, 178, 179, 180, 181, 182, 183, 184, 185, 186, 187, 193, 194, 195, 196, 188, 189, 190, 191, 192] (by decide +kernel) (by decide +kernel)
set_option maxRecDepth 20000 in
theorem gL_same_X5_count : GoodIn wsL_same (wsV RL 54 RX5 yX5_count wsX5_count) := goodIn_app (goodIn_of _ (by decide +kernel)) ggL_same_X5_count
theorem dL_same_0 : decode cL_same 0 = .ok (.iconst 0, 1) := by decide +kernel
theorem dL_same_1 : decode cL_same 1 = .ok (.istore 8, 2) := by decide +kernel
theorem dL_same_3 : decode cL_same 3 = .ok (.iconst 0, 1) := by decide +kernel
theorem dL_same_4 : decode cL_same 4 = .ok (.istore 9, 2) := by decide +kernel
theorem dL_same_6 : decode cL_same 6 = .ok (.iconst 0, 1) := by decide +kernel
theorem dL_same_7 : decode cL_same 7 = .ok (.istore 10, 2) := by decide +kernel
theorem dL_same_9 : decode cL_same 9 = .ok (.aload_n 3, 1) := by decide +kernel
theorem dL_same_10 : decode cL_same 10 = .ok (.aload 4, 2) := by decide +kernel
theorem dL_same_12 : decode cL_same 12 = .ok (.aload 6, 2) := by decide +kernel
theorem dL_same_14 : decode cL_same 14 = .ok (.aload 7, 2) := by decide +kernel
theorem dL_same_16 : decode cL_same 16 = .ok (.invokestatic 25, 3) := by decide +kernel
theorem dL_same_19 : decode cL_same 19 = .ok (.istore 11, 2) := by decide +kernel
theorem dL_same_21 : decode cL_same 21 = .ok (.bipush 8, 2) := by decide +kernel
theorem dL_same_23 : decode cL_same 23 = .ok (.newarray .int, 2) := by decide +kernel
theorem dL_same_25 : decode cL_same 25 = .ok (.astore 12, 2) := by decide +kernel
theorem dL_same_27 : decode cL_same 27 = .ok (.iconst 0, 1) := by decide +kernel
theorem dL_same_28 : decode cL_same 28 = .ok (.istore 13, 2) := by decide +kernel
theorem dL_same_30 : decode cL_same 30 = .ok (.iload 13, 2) := by decide +kernel
theorem dL_same_32 : decode cL_same 32 = .ok (.bipush 8, 2) := by decide +kernel
theorem dL_same_34 : decode cL_same 34 = .ok (.if_icmp .ge 449, 3) := by decide +kernel
theorem dL_same_37 : decode cL_same 37 = .ok (.iconst 0, 1) := by decide +kernel
theorem dL_same_38 : decode cL_same 38 = .ok (.istore 14, 2) := by decide +kernel
theorem dL_same_40 : decode cL_same 40 = .ok (.iconst 0, 1) := by decide +kernel
theorem dL_same_41 : decode cL_same 41 = .ok (.istore 15, 2) := by decide +kernel
theorem dL_same_43 : decode cL_same 43 = .ok (.iconst 0, 1) := by decide +kernel
theorem dL_same_44 : decode cL_same 44 = .ok (.istore 16, 2) := by decide +kernel
theorem dL_same_46 : decode cL_same 46 = .ok (.iconst 0, 1) := by decide +kernel
theorem dL_same_47 : decode cL_same 47 = .ok (.istore 17, 2) := by decide +kernel
theorem dL_same_49 : decode cL_same 49 = .ok (.iload 17, 2) := by decide +kernel
theorem dL_same_51 : decode cL_same 51 = .ok (.bipush 8, 2) := by decide +kernel
theorem dL_same_53 : decode cL_same 53 = .ok (.if_icmp .ge 344, 3) := by decide +kernel
theorem dL_same_56 : decode cL_same 56 = .ok (.bipush 8, 2) := by decide +kernel
theorem dL_same_58 : decode cL_same 58 = .ok (.iload 13, 2) := by decide +kernel
theorem dL_same_60 : decode cL_same 60 = .ok (.imul, 1) := by decide +kernel
theorem dL_same_61 : decode cL_same 61 = .ok (.iload 17, 2) := by decide +kernel
theorem dL_same_63 : decode cL_same 63 = .ok (.iadd, 1) := by decide +kernel
theorem dL_same_64 : decode cL_same 64 = .ok (.istore 18, 2) := by decide +kernel
theorem dL_same_66 : decode cL_same 66 = .ok (.iload 18, 2) := by decide +kernel
theorem dL_same_68 : decode cL_same 68 = .ok (.aload 6, 2) := by decide +kernel
theorem dL_same_70 : decode cL_same 70 = .ok (.aload 7, 2) := by decide +kernel
theorem dL_same_72 : decode cL_same 72 = .ok (.invokestatic 29, 3) := by decide +kernel
theorem dL_same_75 : decode cL_same 75 = .ok (.istore 19, 2) := by decide +kernel
theorem dL_same_77 : decode cL_same 77 = .ok (.iload 19, 2) := by decide +kernel
theorem dL_same_79 : decode cL_same 79 = .ok (.ifCond .eq 18, 3) := by decide +kernel
theorem dL_same_82 : decode cL_same 82 = .ok (.lload_n 1, 1) := by decide +kernel
theorem dL_same_83 : decode cL_same 83 = .ok (.iload 18, 2) := by decide +kernel
theorem dL_same_85 : decode cL_same 85 = .ok (.lshr, 1) := by decide +kernel
theorem dL_same_86 : decode cL_same 86 = .ok (.lconst 1, 1) := by decide +kernel
theorem dL_same_87 : decode cL_same 87 = .ok (.land, 1) := by decide +kernel
theorem dL_same_88 : decode cL_same 88 = .ok (.lconst 1, 1) := by decide +kernel
theorem dL_same_89 : decode cL_same 89 = .ok (.lcmp, 1) := by decide +kernel
theorem dL_same_90 : decode cL_same 90 = .ok (.ifCond .ne 7, 3) := by decide +kernel
theorem dL_same_93 : decode cL_same 93 = .ok (.iconst 1, 1) := by decide +kernel
theorem dL_same_94 : decode cL_same 94 = .ok (.goto 4, 3) := by decide +kernel
theorem dL_same_97 : decode cL_same 97 = .ok (.iconst 0, 1) := by decide +kernel
theorem dL_same_98 : decode cL_same 98 = .ok (.istore 20, 2) := by decide +kernel
theorem dL_same_100 : decode cL_same 100 = .ok (.aload 12, 2) := by decide +kernel
theorem dL_same_102 : decode cL_same 102 = .ok (.aload 6, 2) := by decide +kernel
theorem dL_same_104 : decode cL_same 104 = .ok (.iload 18, 2) := by decide +kernel
theorem dL_same_106 : decode cL_same 106 = .ok (.iaload, 1) := by decide +kernel
theorem dL_same_107 : decode cL_same 107 = .ok (.dup2, 1) := by decide +kernel
theorem dL_same_108 : decode cL_same 108 = .ok (.iaload, 1) := by decide +kernel
theorem dL_same_109 : decode cL_same 109 = .ok (.iconst 1, 1) := by decide +kernel
theorem dL_same_110 : decode cL_same 110 = .ok (.iadd, 1) := by decide +kernel
theorem dL_same_111 : decode cL_same 111 = .ok (.iastore, 1) := by decide +kernel
theorem dL_same_112 : decode cL_same 112 = .ok (.iload 14, 2) := by decide +kernel
theorem dL_same_114 : decode cL_same 114 = .ok (.aload 6, 2) := by decide +kernel
theorem dL_same_116 : decode cL_same 116 = .ok (.iload 18, 2) := by decide +kernel
theorem dL_same_118 : decode cL_same 118 = .ok (.iaload, 1) := by decide +kernel
theorem dL_same_119 : decode cL_same 119 = .ok (.ifCond .le 10, 3) := by decide +kernel
theorem dL_same_122 : decode cL_same 122 = .ok (.iconst 1, 1) := by decide +kernel
theorem dL_same_123 : decode cL_same 123 = .ok (.iload 17, 2) := by decide +kernel
theorem dL_same_125 : decode cL_same 125 = .ok (.ishl, 1) := by decide +kernel
theorem dL_same_126 : decode cL_same 126 = .ok (.goto 4, 3) := by decide +kernel
theorem dL_same_129 : decode cL_same 129 = .ok (.iconst 0, 1) := by decide +kernel
theorem dL_same_130 : decode cL_same 130 = .ok (.ior, 1) := by decide +kernel
theorem dL_same_131 : decode cL_same 131 = .ok (.istore 14, 2) := by decide +kernel
theorem dL_same_133 : decode cL_same 133 = .ok (.iload 15, 2) := by decide +kernel
theorem dL_same_135 : decode cL_same 135 = .ok (.iload 19, 2) := by decide +kernel
theorem dL_same_137 : decode cL_same 137 = .ok (.ifCond .eq 10, 3) := by decide +kernel
theorem dL_same_140 : decode cL_same 140 = .ok (.iconst 1, 1) := by decide +kernel
theorem dL_same_141 : decode cL_same 141 = .ok (.iload 17, 2) := by decide +kernel
theorem dL_same_143 : decode cL_same 143 = .ok (.ishl, 1) := by decide +kernel
theorem dL_same_144 : decode cL_same 144 = .ok (.goto 4, 3) := by decide +kernel
theorem dL_same_147 : decode cL_same 147 = .ok (.iconst 0, 1) := by decide +kernel
theorem dL_same_148 : decode cL_same 148 = .ok (.ior, 1) := by decide +kernel
theorem dL_same_149 : decode cL_same 149 = .ok (.istore 15, 2) := by decide +kernel
theorem dL_same_151 : decode cL_same 151 = .ok (.iload 16, 2) := by decide +kernel
theorem dL_same_153 : decode cL_same 153 = .ok (.iload 20, 2) := by decide +kernel
theorem dL_same_155 : decode cL_same 155 = .ok (.iload 17, 2) := by decide +kernel
theorem dL_same_157 : decode cL_same 157 = .ok (.ishl, 1) := by decide +kernel
theorem dL_same_158 : decode cL_same 158 = .ok (.ior, 1) := by decide +kernel
theorem dL_same_159 : decode cL_same 159 = .ok (.istore 16, 2) := by decide +kernel
theorem dL_same_161 : decode cL_same 161 = .ok (.aload_n 0, 1) := by decide +kernel
theorem dL_same_162 : decode cL_same 162 = .ok (.iload 13, 2) := by decide +kernel
theorem dL_same_164 : decode cL_same 164 = .ok (.iload 17, 2) := by decide +kernel
theorem dL_same_166 : decode cL_same 166 = .ok (.iconst 0, 1) := by decide +kernel
theorem dL_same_167 : decode cL_same 167 = .ok (.invokevirtual 33, 3) := by decide +kernel
theorem dL_same_170 : decode cL_same 170 = .ok (.aload 6, 2) := by decide +kernel
theorem dL_same_172 : decode cL_same 172 = .ok (.iload 18, 2) := by decide +kernel
theorem dL_same_174 : decode cL_same 174 = .ok (.iaload, 1) := by decide +kernel
theorem dL_same_175 : decode cL_same 175 = .ok (.if_icmp .ne 46, 3) := by decide +kernel
theorem dL_same_178 : decode cL_same 178 = .ok (.aload_n 0, 1) := by decide +kernel
theorem dL_same_179 : decode cL_same 179 = .ok (.iload 13, 2) := by decide +kernel
theorem dL_same_181 : decode cL_same 181 = .ok (.iload 17, 2) := by decide +kernel
theorem dL_same_183 : decode cL_same 183 = .ok (.iconst 3, 1) := by decide +kernel
theorem dL_same_184 : decode cL_same 184 = .ok (.invokevirtual 33, 3) := by decide +kernel
theorem dL_same_187 : decode cL_same 187 = .ok (.iload 19, 2) := by decide +kernel
theorem dL_same_189 : decode cL_same 189 = .ok (.ifCond .eq 7, 3) := by decide +kernel
theorem dL_same_192 : decode cL_same 192 = .ok (.iconst 1, 1) := by decide +kernel
theorem dL_same_193 : decode cL_same 193 = .ok (.goto 4, 3) := by decide +kernel
theorem dL_same_196 : decode cL_same 196 = .ok (.iconst 0, 1) := by decide +kernel
theorem dL_same_197 : decode cL_same 197 = .ok (.if_icmp .ne 24, 3) := by decide +kernel
theorem dL_same_200 : decode cL_same 200 = .ok (.aload_n 0, 1) := by decide +kernel
theorem dL_same_201 : decode cL_same 201 = .ok (.iload 13, 2) := by decide +kernel
theorem dL_same_203 : decode cL_same 203 = .ok (.iload 17, 2) := by decide +kernel
theorem dL_same_205 : decode cL_same 205 = .ok (.bipush 6, 2) := by decide +kernel
theorem dL_same_207 : decode cL_same 207 = .ok (.invokevirtual 33, 3) := by decide +kernel
theorem dL_same_210 : decode cL_same 210 = .ok (.iload 18, 2) := by decide +kernel
theorem dL_same_212 : decode cL_same 212 = .ok (.aload_n 3, 1) := by decide +kernel
theorem dL_same_213 : decode cL_same 213 = .ok (.aload 4, 2) := by decide +kernel
theorem dL_same_215 : decode cL_same 215 = .ok (.invokestatic 37, 3) := by decide +kernel
theorem dL_same_218 : decode cL_same 218 = .ok (.if_icmp .eq 5, 3) := by decide +kernel
theorem dL_same_221 : decode cL_same 221 = .ok (.iconst 0, 1) := by decide +kernel
theorem dL_same_222 : decode cL_same 222 = .ok (.ireturn, 1) := by decide +kernel
theorem dL_same_223 : decode cL_same 223 = .ok (.aload_n 0, 1) := by decide +kernel
theorem dL_same_224 : decode cL_same 224 = .ok (.iload 13, 2) := by decide +kernel
theorem dL_same_226 : decode cL_same 226 = .ok (.iload 17, 2) := by decide +kernel
theorem dL_same_228 : decode cL_same 228 = .ok (.iconst 2, 1) := by decide +kernel
theorem dL_same_229 : decode cL_same 229 = .ok (.invokevirtual 33, 3) := by decide +kernel
theorem dL_same_232 : decode cL_same 232 = .ok (.istore 21, 2) := by decide +kernel
theorem dL_same_234 : decode cL_same 234 = .ok (.iload 21, 2) := by decide +kernel
theorem dL_same_236 : decode cL_same 236 = .ok (.ifCond .lt 31, 3) := by decide +kernel
theorem dL_same_239 : decode cL_same 239 = .ok (.aload_n 3, 1) := by decide +kernel
theorem dL_same_240 : decode cL_same 240 = .ok (.iconst 4, 1) := by decide +kernel
theorem dL_same_241 : decode cL_same 241 = .ok (.iaload, 1) := by decide +kernel
theorem dL_same_242 : decode cL_same 242 = .ok (.ifCond .eq 8, 3) := by decide +kernel
theorem dL_same_245 : decode cL_same 245 = .ok (.iload 11, 2) := by decide +kernel
theorem dL_same_247 : decode cL_same 247 = .ok (.ifCond .ne 22, 3) := by decide +kernel
theorem dL_same_250 : decode cL_same 250 = .ok (.iload 21, 2) := by decide +kernel
theorem dL_same_252 : decode cL_same 252 = .ok (.ifCond .ne 15, 3) := by decide +kernel
theorem dL_same_255 : decode cL_same 255 = .ok (.aload_n 0, 1) := by decide +kernel
theorem dL_same_256 : decode cL_same 256 = .ok (.iload 13, 2) := by decide +kernel
theorem dL_same_258 : decode cL_same 258 = .ok (.iload 17, 2) := by decide +kernel
theorem dL_same_260 : decode cL_same 260 = .ok (.iconst 1, 1) := by decide +kernel
theorem dL_same_261 : decode cL_same 261 = .ok (.invokevirtual 33, 3) := by decide +kernel
theorem dL_same_264 : decode cL_same 264 = .ok (.ifCond .eq 5, 3) := by decide +kernel
theorem dL_same_267 : decode cL_same 267 = .ok (.iconst 0, 1) := by decide +kernel
theorem dL_same_268 : decode cL_same 268 = .ok (.ireturn, 1) := by decide +kernel
theorem dL_same_269 : decode cL_same 269 = .ok (.iload 18, 2) := by decide +kernel
theorem dL_same_271 : decode cL_same 271 = .ok (.aload_n 3, 1) := by decide +kernel
theorem dL_same_272 : decode cL_same 272 = .ok (.aload 4, 2) := by decide +kernel
theorem dL_same_274 : decode cL_same 274 = .ok (.invokestatic 37, 3) := by decide +kernel
theorem dL_same_277 : decode cL_same 277 = .ok (.istore 22, 2) := by decide +kernel
theorem dL_same_279 : decode cL_same 279 = .ok (.iload 22, 2) := by decide +kernel
theorem dL_same_281 : decode cL_same 281 = .ok (.ifCond .lt 29, 3) := by decide +kernel
theorem dL_same_284 : decode cL_same 284 = .ok (.aload 6, 2) := by decide +kernel
theorem dL_same_286 : decode cL_same 286 = .ok (.iload 18, 2) := by decide +kernel
theorem dL_same_288 : decode cL_same 288 = .ok (.iaload, 1) := by decide +kernel
theorem dL_same_289 : decode cL_same 289 = .ok (.aload 4, 2) := by decide +kernel
theorem dL_same_291 : decode cL_same 291 = .ok (.iconst 2, 1) := by decide +kernel
theorem dL_same_292 : decode cL_same 292 = .ok (.iload 22, 2) := by decide +kernel
theorem dL_same_294 : decode cL_same 294 = .ok (.imul, 1) := by decide +kernel
theorem dL_same_295 : decode cL_same 295 = .ok (.iconst 1, 1) := by decide +kernel
theorem dL_same_296 : decode cL_same 296 = .ok (.iadd, 1) := by decide +kernel
theorem dL_same_297 : decode cL_same 297 = .ok (.iaload, 1) := by decide +kernel
theorem dL_same_298 : decode cL_same 298 = .ok (.aload 7, 2) := by decide +kernel
theorem dL_same_300 : decode cL_same 300 = .ok (.invokestatic 19, 3) := by decide +kernel
theorem dL_same_303 : decode cL_same 303 = .ok (.ifCond .eq 7, 3) := by decide +kernel
theorem dL_same_306 : decode cL_same 306 = .ok (.iconst 1, 1) := by decide +kernel
theorem dL_same_307 : decode cL_same 307 = .ok (.goto 4, 3) := by decide +kernel
theorem dL_same_310 : decode cL_same 310 = .ok (.iconst 0, 1) := by decide +kernel
theorem dL_same_311 : decode cL_same 311 = .ok (.istore 23, 2) := by decide +kernel
theorem dL_same_313 : decode cL_same 313 = .ok (.aload_n 3, 1) := by decide +kernel
theorem dL_same_314 : decode cL_same 314 = .ok (.iconst 0, 1) := by decide +kernel
theorem dL_same_315 : decode cL_same 315 = .ok (.iaload, 1) := by decide +kernel
theorem dL_same_316 : decode cL_same 316 = .ok (.ifCond .ne 35, 3) := by decide +kernel
theorem dL_same_319 : decode cL_same 319 = .ok (.aload_n 3, 1) := by decide +kernel
theorem dL_same_320 : decode cL_same 320 = .ok (.iconst 1, 1) := by decide +kernel
theorem dL_same_321 : decode cL_same 321 = .ok (.iaload, 1) := by decide +kernel
theorem dL_same_322 : decode cL_same 322 = .ok (.ifCond .ne 29, 3) := by decide +kernel
theorem dL_same_325 : decode cL_same 325 = .ok (.iload 21, 2) := by decide +kernel
theorem dL_same_327 : decode cL_same 327 = .ok (.iload 23, 2) := by decide +kernel
theorem dL_same_329 : decode cL_same 329 = .ok (.ifCond .eq 16, 3) := by decide +kernel
theorem dL_same_332 : decode cL_same 332 = .ok (.bipush 10, 2) := by decide +kernel
theorem dL_same_334 : decode cL_same 334 = .ok (.aload_n 3, 1) := by decide +kernel
theorem dL_same_335 : decode cL_same 335 = .ok (.iconst 2, 1) := by decide +kernel
theorem dL_same_336 : decode cL_same 336 = .ok (.iaload, 1) := by decide +kernel
theorem dL_same_337 : decode cL_same 337 = .ok (.imul, 1) := by decide +kernel
theorem dL_same_338 : decode cL_same 338 = .ok (.aload_n 3, 1) := by decide +kernel
theorem dL_same_339 : decode cL_same 339 = .ok (.iconst 4, 1) := by decide +kernel
theorem dL_same_340 : decode cL_same 340 = .ok (.iaload, 1) := by decide +kernel
theorem dL_same_341 : decode cL_same 341 = .ok (.imul, 1) := by decide +kernel
theorem dL_same_342 : decode cL_same 342 = .ok (.goto 4, 3) := by decide +kernel
theorem dL_same_345 : decode cL_same 345 = .ok (.iconst 0, 1) := by decide +kernel
theorem dL_same_346 : decode cL_same 346 = .ok (.if_icmp .eq 5, 3) := by decide +kernel
theorem dL_same_349 : decode cL_same 349 = .ok (.iconst 0, 1) := by decide +kernel
theorem dL_same_350 : decode cL_same 350 = .ok (.ireturn, 1) := by decide +kernel
theorem dL_same_351 : decode cL_same 351 = .ok (.iload 9, 2) := by decide +kernel
theorem dL_same_353 : decode cL_same 353 = .ok (.iload 19, 2) := by decide +kernel
theorem dL_same_355 : decode cL_same 355 = .ok (.ifCond .eq 7, 3) := by decide +kernel
theorem dL_same_358 : decode cL_same 358 = .ok (.iconst 1, 1) := by decide +kernel
theorem dL_same_359 : decode cL_same 359 = .ok (.goto 4, 3) := by decide +kernel
theorem dL_same_362 : decode cL_same 362 = .ok (.iconst 0, 1) := by decide +kernel
theorem dL_same_363 : decode cL_same 363 = .ok (.iadd, 1) := by decide +kernel
theorem dL_same_364 : decode cL_same 364 = .ok (.istore 9, 2) := by decide +kernel
theorem dL_same_366 : decode cL_same 366 = .ok (.iload 10, 2) := by decide +kernel
theorem dL_same_368 : decode cL_same 368 = .ok (.iload 20, 2) := by decide +kernel
theorem dL_same_370 : decode cL_same 370 = .ok (.iadd, 1) := by decide +kernel
theorem dL_same_371 : decode cL_same 371 = .ok (.istore 10, 2) := by decide +kernel
theorem dL_same_373 : decode cL_same 373 = .ok (.iload 8, 2) := by decide +kernel
theorem dL_same_375 : decode cL_same 375 = .ok (.aload 6, 2) := by decide +kernel
theorem dL_same_377 : decode cL_same 377 = .ok (.iload 18, 2) := by decide +kernel
theorem dL_same_379 : decode cL_same 379 = .ok (.iaload, 1) := by decide +kernel
theorem dL_same_380 : decode cL_same 380 = .ok (.ifCond .le 7, 3) := by decide +kernel
theorem dL_same_383 : decode cL_same 383 = .ok (.iconst 1, 1) := by decide +kernel
theorem dL_same_384 : decode cL_same 384 = .ok (.goto 4, 3) := by decide +kernel
theorem dL_same_387 : decode cL_same 387 = .ok (.iconst 0, 1) := by decide +kernel
theorem dL_same_388 : decode cL_same 388 = .ok (.iadd, 1) := by decide +kernel
theorem dL_same_389 : decode cL_same 389 = .ok (.istore 8, 2) := by decide +kernel
theorem dL_same_391 : decode cL_same 391 = .ok (.iinc 17 1, 3) := by decide +kernel
theorem dL_same_394 : decode cL_same 394 = .ok (.goto (-345), 3) := by decide +kernel
theorem dL_same_397 : decode cL_same 397 = .ok (.aload_n 0, 1) := by decide +kernel
theorem dL_same_398 : decode cL_same 398 = .ok (.iload 13, 2) := by decide +kernel
theorem dL_same_400 : decode cL_same 400 = .ok (.iconst 0, 1) := by decide +kernel
theorem dL_same_401 : decode cL_same 401 = .ok (.invokevirtual 41, 3) := by decide +kernel
theorem dL_same_404 : decode cL_same 404 = .ok (.iload 14, 2) := by decide +kernel
theorem dL_same_406 : decode cL_same 406 = .ok (.if_icmp .ne 27, 3) := by decide +kernel
theorem dL_same_409 : decode cL_same 409 = .ok (.aload_n 0, 1) := by decide +kernel
theorem dL_same_410 : decode cL_same 410 = .ok (.iload 13, 2) := by decide +kernel
theorem dL_same_412 : decode cL_same 412 = .ok (.iconst 1, 1) := by decide +kernel
theorem dL_same_413 : decode cL_same 413 = .ok (.invokevirtual 41, 3) := by decide +kernel
theorem dL_same_416 : decode cL_same 416 = .ok (.iload 15, 2) := by decide +kernel
theorem dL_same_418 : decode cL_same 418 = .ok (.if_icmp .ne 15, 3) := by decide +kernel
theorem dL_same_421 : decode cL_same 421 = .ok (.aload_n 0, 1) := by decide +kernel
theorem dL_same_422 : decode cL_same 422 = .ok (.iload 13, 2) := by decide +kernel
theorem dL_same_424 : decode cL_same 424 = .ok (.iconst 2, 1) := by decide +kernel
theorem dL_same_425 : decode cL_same 425 = .ok (.invokevirtual 41, 3) := by decide +kernel
theorem dL_same_428 : decode cL_same 428 = .ok (.iload 16, 2) := by decide +kernel
theorem dL_same_430 : decode cL_same 430 = .ok (.if_icmp .eq 5, 3) := by decide +kernel
theorem dL_same_433 : decode cL_same 433 = .ok (.iconst 0, 1) := by decide +kernel
theorem dL_same_434 : decode cL_same 434 = .ok (.ireturn, 1) := by decide +kernel
theorem dL_same_435 : decode cL_same 435 = .ok (.iconst 0, 1) := by decide +kernel
theorem dL_same_436 : decode cL_same 436 = .ok (.istore 17, 2) := by decide +kernel
theorem dL_same_438 : decode cL_same 438 = .ok (.iload 17, 2) := by decide +kernel
theorem dL_same_440 : decode cL_same 440 = .ok (.iconst 5, 1) := by decide +kernel
theorem dL_same_441 : decode cL_same 441 = .ok (.if_icmp .ge 36, 3) := by decide +kernel
theorem dL_same_444 : decode cL_same 444 = .ok (.iload 13, 2) := by decide +kernel
theorem dL_same_446 : decode cL_same 446 = .ok (.iconst 1, 1) := by decide +kernel
theorem dL_same_447 : decode cL_same 447 = .ok (.if_icmp .ne 30, 3) := by decide +kernel
theorem dL_same_450 : decode cL_same 450 = .ok (.aload_n 0, 1) := by decide +kernel
theorem dL_same_451 : decode cL_same 451 = .ok (.iload 13, 2) := by decide +kernel
theorem dL_same_453 : decode cL_same 453 = .ok (.iload 17, 2) := by decide +kernel
theorem dL_same_455 : decode cL_same 455 = .ok (.iconst 4, 1) := by decide +kernel
theorem dL_same_456 : decode cL_same 456 = .ok (.invokevirtual 33, 3) := by decide +kernel
theorem dL_same_459 : decode cL_same 459 = .ok (.iload 16, 2) := by decide +kernel
theorem dL_same_461 : decode cL_same 461 = .ok (.iload 17, 2) := by decide +kernel
theorem dL_same_463 : decode cL_same 463 = .ok (.ishr, 1) := by decide +kernel
theorem dL_same_464 : decode cL_same 464 = .ok (.iconst 1, 1) := by decide +kernel
theorem dL_same_465 : decode cL_same 465 = .ok (.iand, 1) := by decide +kernel
theorem dL_same_466 : decode cL_same 466 = .ok (.if_icmp .eq 5, 3) := by decide +kernel
theorem dL_same_469 : decode cL_same 469 = .ok (.iconst 0, 1) := by decide +kernel
theorem dL_same_470 : decode cL_same 470 = .ok (.ireturn, 1) := by decide +kernel
theorem dL_same_471 : decode cL_same 471 = .ok (.iinc 17 1, 3) := by decide +kernel
theorem dL_same_474 : decode cL_same 474 = .ok (.goto (-36), 3) := by decide +kernel
theorem dL_same_477 : decode cL_same 477 = .ok (.iinc 13 1, 3) := by decide +kernel
theorem dL_same_480 : decode cL_same 480 = .ok (.goto (-450), 3) := by decide +kernel
theorem dL_same_483 : decode cL_same 483 = .ok (.iconst 0, 1) := by decide +kernel
theorem dL_same_484 : decode cL_same 484 = .ok (.istore 13, 2) := by decide +kernel
theorem dL_same_486 : decode cL_same 486 = .ok (.iload 13, 2) := by decide +kernel
theorem dL_same_488 : decode cL_same 488 = .ok (.aload_n 3, 1) := by decide +kernel
theorem dL_same_489 : decode cL_same 489 = .ok (.iconst 5, 1) := by decide +kernel
theorem dL_same_490 : decode cL_same 490 = .ok (.iaload, 1) := by decide +kernel
theorem dL_same_491 : decode cL_same 491 = .ok (.if_icmp .ge 109, 3) := by decide +kernel
theorem dL_same_494 : decode cL_same 494 = .ok (.aload_n 0, 1) := by decide +kernel
theorem dL_same_495 : decode cL_same 495 = .ok (.iload 13, 2) := by decide +kernel
theorem dL_same_497 : decode cL_same 497 = .ok (.iconst 0, 1) := by decide +kernel
theorem dL_same_498 : decode cL_same 498 = .ok (.invokevirtual 45, 3) := by decide +kernel
theorem dL_same_501 : decode cL_same 501 = .ok (.aload 4, 2) := by decide +kernel
theorem dL_same_503 : decode cL_same 503 = .ok (.iconst 2, 1) := by decide +kernel
theorem dL_same_504 : decode cL_same 504 = .ok (.iload 13, 2) := by decide +kernel
theorem dL_same_506 : decode cL_same 506 = .ok (.imul, 1) := by decide +kernel
theorem dL_same_507 : decode cL_same 507 = .ok (.iaload, 1) := by decide +kernel
theorem dL_same_508 : decode cL_same 508 = .ok (.if_icmp .ne 84, 3) := by decide +kernel
theorem dL_same_511 : decode cL_same 511 = .ok (.aload_n 0, 1) := by decide +kernel
theorem dL_same_512 : decode cL_same 512 = .ok (.iload 13, 2) := by decide +kernel
theorem dL_same_514 : decode cL_same 514 = .ok (.iconst 1, 1) := by decide +kernel
theorem dL_same_515 : decode cL_same 515 = .ok (.invokevirtual 45, 3) := by decide +kernel
theorem dL_same_518 : decode cL_same 518 = .ok (.aload 6, 2) := by decide +kernel
theorem dL_same_520 : decode cL_same 520 = .ok (.aload 4, 2) := by decide +kernel
theorem dL_same_522 : decode cL_same 522 = .ok (.iconst 2, 1) := by decide +kernel
theorem dL_same_523 : decode cL_same 523 = .ok (.iload 13, 2) := by decide +kernel
theorem dL_same_525 : decode cL_same 525 = .ok (.imul, 1) := by decide +kernel
theorem dL_same_526 : decode cL_same 526 = .ok (.iaload, 1) := by decide +kernel
theorem dL_same_527 : decode cL_same 527 = .ok (.iaload, 1) := by decide +kernel
theorem dL_same_528 : decode cL_same 528 = .ok (.if_icmp .ne 64, 3) := by decide +kernel
theorem dL_same_531 : decode cL_same 531 = .ok (.aload_n 0, 1) := by decide +kernel
theorem dL_same_532 : decode cL_same 532 = .ok (.iload 13, 2) := by decide +kernel
theorem dL_same_534 : decode cL_same 534 = .ok (.iconst 2, 1) := by decide +kernel
theorem dL_same_535 : decode cL_same 535 = .ok (.invokevirtual 45, 3) := by decide +kernel
theorem dL_same_538 : decode cL_same 538 = .ok (.aload 4, 2) := by decide +kernel
theorem dL_same_540 : decode cL_same 540 = .ok (.iconst 2, 1) := by decide +kernel
theorem dL_same_541 : decode cL_same 541 = .ok (.iload 13, 2) := by decide +kernel
theorem dL_same_543 : decode cL_same 543 = .ok (.imul, 1) := by decide +kernel
theorem dL_same_544 : decode cL_same 544 = .ok (.iconst 1, 1) := by decide +kernel
theorem dL_same_545 : decode cL_same 545 = .ok (.iadd, 1) := by decide +kernel
theorem dL_same_546 : decode cL_same 546 = .ok (.iaload, 1) := by decide +kernel
theorem dL_same_547 : decode cL_same 547 = .ok (.if_icmp .ne 45, 3) := by decide +kernel
theorem dL_same_550 : decode cL_same 550 = .ok (.aload_n 0, 1) := by decide +kernel
theorem dL_same_551 : decode cL_same 551 = .ok (.iload 13, 2) := by decide +kernel
theorem dL_same_553 : decode cL_same 553 = .ok (.iconst 3, 1) := by decide +kernel
theorem dL_same_554 : decode cL_same 554 = .ok (.invokevirtual 45, 3) := by decide +kernel
theorem dL_same_557 : decode cL_same 557 = .ok (.aload 6, 2) := by decide +kernel
theorem dL_same_559 : decode cL_same 559 = .ok (.aload 4, 2) := by decide +kernel
theorem dL_same_561 : decode cL_same 561 = .ok (.iconst 2, 1) := by decide +kernel
theorem dL_same_562 : decode cL_same 562 = .ok (.iload 13, 2) := by decide +kernel
theorem dL_same_564 : decode cL_same 564 = .ok (.imul, 1) := by decide +kernel
theorem dL_same_565 : decode cL_same 565 = .ok (.iaload, 1) := by decide +kernel
theorem dL_same_566 : decode cL_same 566 = .ok (.iaload, 1) := by decide +kernel
theorem dL_same_567 : decode cL_same 567 = .ok (.aload 4, 2) := by decide +kernel
theorem dL_same_569 : decode cL_same 569 = .ok (.iconst 2, 1) := by decide +kernel
theorem dL_same_570 : decode cL_same 570 = .ok (.iload 13, 2) := by decide +kernel
theorem dL_same_572 : decode cL_same 572 = .ok (.imul, 1) := by decide +kernel
theorem dL_same_573 : decode cL_same 573 = .ok (.iconst 1, 1) := by decide +kernel
theorem dL_same_574 : decode cL_same 574 = .ok (.iadd, 1) := by decide +kernel
theorem dL_same_575 : decode cL_same 575 = .ok (.iaload, 1) := by decide +kernel
theorem dL_same_576 : decode cL_same 576 = .ok (.aload 7, 2) := by decide +kernel
theorem dL_same_578 : decode cL_same 578 = .ok (.invokestatic 19, 3) := by decide +kernel
theorem dL_same_581 : decode cL_same 581 = .ok (.ifCond .eq 7, 3) := by decide +kernel
theorem dL_same_584 : decode cL_same 584 = .ok (.iconst 1, 1) := by decide +kernel
theorem dL_same_585 : decode cL_same 585 = .ok (.goto 4, 3) := by decide +kernel
theorem dL_same_588 : decode cL_same 588 = .ok (.iconst 0, 1) := by decide +kernel
theorem dL_same_589 : decode cL_same 589 = .ok (.if_icmp .eq 5, 3) := by decide +kernel
theorem dL_same_592 : decode cL_same 592 = .ok (.iconst 0, 1) := by decide +kernel
theorem dL_same_593 : decode cL_same 593 = .ok (.ireturn, 1) := by decide +kernel
theorem dL_same_594 : decode cL_same 594 = .ok (.iinc 13 1, 3) := by decide +kernel
theorem dL_same_597 : decode cL_same 597 = .ok (.goto (-111), 3) := by decide +kernel
theorem dL_same_600 : decode cL_same 600 = .ok (.iconst 0, 1) := by decide +kernel
theorem dL_same_601 : decode cL_same 601 = .ok (.istore 13, 2) := by decide +kernel
theorem dL_same_603 : decode cL_same 603 = .ok (.iload 13, 2) := by decide +kernel
theorem dL_same_605 : decode cL_same 605 = .ok (.aload_n 3, 1) := by decide +kernel
theorem dL_same_606 : decode cL_same 606 = .ok (.bipush 6, 2) := by decide +kernel
theorem dL_same_608 : decode cL_same 608 = .ok (.iaload, 1) := by decide +kernel
theorem dL_same_609 : decode cL_same 609 = .ok (.if_icmp .ge 66, 3) := by decide +kernel
theorem dL_same_612 : decode cL_same 612 = .ok (.aload_n 0, 1) := by decide +kernel
theorem dL_same_613 : decode cL_same 613 = .ok (.iload 13, 2) := by decide +kernel
theorem dL_same_615 : decode cL_same 615 = .ok (.iconst 0, 1) := by decide +kernel
theorem dL_same_616 : decode cL_same 616 = .ok (.invokevirtual 48, 3) := by decide +kernel
theorem dL_same_619 : decode cL_same 619 = .ok (.aload 5, 2) := by decide +kernel
theorem dL_same_621 : decode cL_same 621 = .ok (.iconst 3, 1) := by decide +kernel
theorem dL_same_622 : decode cL_same 622 = .ok (.iload 13, 2) := by decide +kernel
theorem dL_same_624 : decode cL_same 624 = .ok (.imul, 1) := by decide +kernel
theorem dL_same_625 : decode cL_same 625 = .ok (.iaload, 1) := by decide +kernel
theorem dL_same_626 : decode cL_same 626 = .ok (.if_icmp .ne 41, 3) := by decide +kernel
theorem dL_same_629 : decode cL_same 629 = .ok (.aload_n 0, 1) := by decide +kernel
theorem dL_same_630 : decode cL_same 630 = .ok (.iload 13, 2) := by decide +kernel
theorem dL_same_632 : decode cL_same 632 = .ok (.iconst 1, 1) := by decide +kernel
theorem dL_same_633 : decode cL_same 633 = .ok (.invokevirtual 48, 3) := by decide +kernel
theorem dL_same_636 : decode cL_same 636 = .ok (.aload 5, 2) := by decide +kernel
theorem dL_same_638 : decode cL_same 638 = .ok (.iconst 3, 1) := by decide +kernel
theorem dL_same_639 : decode cL_same 639 = .ok (.iload 13, 2) := by decide +kernel
theorem dL_same_641 : decode cL_same 641 = .ok (.imul, 1) := by decide +kernel
theorem dL_same_642 : decode cL_same 642 = .ok (.iconst 1, 1) := by decide +kernel
theorem dL_same_643 : decode cL_same 643 = .ok (.iadd, 1) := by decide +kernel
theorem dL_same_644 : decode cL_same 644 = .ok (.iaload, 1) := by decide +kernel
theorem dL_same_645 : decode cL_same 645 = .ok (.if_icmp .ne 22, 3) := by decide +kernel
theorem dL_same_648 : decode cL_same 648 = .ok (.aload_n 0, 1) := by decide +kernel
theorem dL_same_649 : decode cL_same 649 = .ok (.iload 13, 2) := by decide +kernel
theorem dL_same_651 : decode cL_same 651 = .ok (.iconst 2, 1) := by decide +kernel
theorem dL_same_652 : decode cL_same 652 = .ok (.invokevirtual 48, 3) := by decide +kernel
theorem dL_same_655 : decode cL_same 655 = .ok (.aload 5, 2) := by decide +kernel
theorem dL_same_657 : decode cL_same 657 = .ok (.iconst 3, 1) := by decide +kernel
theorem dL_same_658 : decode cL_same 658 = .ok (.iload 13, 2) := by decide +kernel
theorem dL_same_660 : decode cL_same 660 = .ok (.imul, 1) := by decide +kernel
theorem dL_same_661 : decode cL_same 661 = .ok (.iconst 2, 1) := by decide +kernel
theorem dL_same_662 : decode cL_same 662 = .ok (.iadd, 1) := by decide +kernel
theorem dL_same_663 : decode cL_same 663 = .ok (.iaload, 1) := by decide +kernel
theorem dL_same_664 : decode cL_same 664 = .ok (.if_icmp .eq 5, 3) := by decide +kernel
theorem dL_same_667 : decode cL_same 667 = .ok (.iconst 0, 1) := by decide +kernel
theorem dL_same_668 : decode cL_same 668 = .ok (.ireturn, 1) := by decide +kernel
theorem dL_same_669 : decode cL_same 669 = .ok (.iinc 13 1, 3) := by decide +kernel
theorem dL_same_672 : decode cL_same 672 = .ok (.goto (-69), 3) := by decide +kernel
theorem dL_same_675 : decode cL_same 675 = .ok (.iconst 1, 1) := by decide +kernel
theorem dL_same_676 : decode cL_same 676 = .ok (.istore 13, 2) := by decide +kernel
theorem dL_same_678 : decode cL_same 678 = .ok (.iload 13, 2) := by decide +kernel
theorem dL_same_680 : decode cL_same 680 = .ok (.bipush 8, 2) := by decide +kernel
theorem dL_same_682 : decode cL_same 682 = .ok (.if_icmp .ge 41, 3) := by decide +kernel
theorem dL_same_685 : decode cL_same 685 = .ok (.aload_n 0, 1) := by decide +kernel
theorem dL_same_686 : decode cL_same 686 = .ok (.iload 13, 2) := by decide +kernel
theorem dL_same_688 : decode cL_same 688 = .ok (.iconst 0, 1) := by decide +kernel
theorem dL_same_689 : decode cL_same 689 = .ok (.invokevirtual 51, 3) := by decide +kernel
theorem dL_same_692 : decode cL_same 692 = .ok (.aload 12, 2) := by decide +kernel
theorem dL_same_694 : decode cL_same 694 = .ok (.iload 13, 2) := by decide +kernel
theorem dL_same_696 : decode cL_same 696 = .ok (.iaload, 1) := by decide +kernel
theorem dL_same_697 : decode cL_same 697 = .ok (.if_icmp .ne 18, 3) := by decide +kernel
theorem dL_same_700 : decode cL_same 700 = .ok (.aload_n 0, 1) := by decide +kernel
theorem dL_same_701 : decode cL_same 701 = .ok (.iload 13, 2) := by decide +kernel
theorem dL_same_703 : decode cL_same 703 = .ok (.iconst 1, 1) := by decide +kernel
theorem dL_same_704 : decode cL_same 704 = .ok (.invokevirtual 51, 3) := by decide +kernel
theorem dL_same_707 : decode cL_same 707 = .ok (.aload 7, 2) := by decide +kernel
theorem dL_same_709 : decode cL_same 709 = .ok (.iload 13, 2) := by decide +kernel
theorem dL_same_711 : decode cL_same 711 = .ok (.iaload, 1) := by decide +kernel
theorem dL_same_712 : decode cL_same 712 = .ok (.if_icmp .eq 5, 3) := by decide +kernel
theorem dL_same_715 : decode cL_same 715 = .ok (.iconst 0, 1) := by decide +kernel
theorem dL_same_716 : decode cL_same 716 = .ok (.ireturn, 1) := by decide +kernel
theorem dL_same_717 : decode cL_same 717 = .ok (.iinc 13 1, 3) := by decide +kernel
theorem dL_same_720 : decode cL_same 720 = .ok (.goto (-42), 3) := by decide +kernel
theorem dL_same_723 : decode cL_same 723 = .ok (.iconst 0, 1) := by decide +kernel
theorem dL_same_724 : decode cL_same 724 = .ok (.istore 13, 2) := by decide +kernel
theorem dL_same_726 : decode cL_same 726 = .ok (.iload 13, 2) := by decide +kernel
theorem dL_same_728 : decode cL_same 728 = .ok (.iconst 4, 1) := by decide +kernel
theorem dL_same_729 : decode cL_same 729 = .ok (.if_icmp .ge 27, 3) := by decide +kernel
theorem dL_same_732 : decode cL_same 732 = .ok (.aload_n 0, 1) := by decide +kernel
theorem dL_same_733 : decode cL_same 733 = .ok (.bipush 9, 2) := by decide +kernel
theorem dL_same_735 : decode cL_same 735 = .ok (.iload 13, 2) := by decide +kernel
theorem dL_same_737 : decode cL_same 737 = .ok (.iadd, 1) := by decide +kernel
theorem dL_same_738 : decode cL_same 738 = .ok (.invokevirtual 54, 3) := by decide +kernel
theorem dL_same_741 : decode cL_same 741 = .ok (.aload_n 3, 1) := by decide +kernel
theorem dL_same_742 : decode cL_same 742 = .ok (.iload 13, 2) := by decide +kernel
theorem dL_same_744 : decode cL_same 744 = .ok (.iaload, 1) := by decide +kernel
theorem dL_same_745 : decode cL_same 745 = .ok (.if_icmp .eq 5, 3) := by decide +kernel
theorem dL_same_748 : decode cL_same 748 = .ok (.iconst 0, 1) := by decide +kernel
theorem dL_same_749 : decode cL_same 749 = .ok (.ireturn, 1) := by decide +kernel
theorem dL_same_750 : decode cL_same 750 = .ok (.iinc 13 1, 3) := by decide +kernel
theorem dL_same_753 : decode cL_same 753 = .ok (.goto (-27), 3) := by decide +kernel
theorem dL_same_756 : decode cL_same 756 = .ok (.aload_n 0, 1) := by decide +kernel
theorem dL_same_757 : decode cL_same 757 = .ok (.iconst 0, 1) := by decide +kernel
theorem dL_same_758 : decode cL_same 758 = .ok (.invokevirtual 54, 3) := by decide +kernel
theorem dL_same_761 : decode cL_same 761 = .ok (.aload_n 3, 1) := by decide +kernel
theorem dL_same_762 : decode cL_same 762 = .ok (.iconst 4, 1) := by decide +kernel
theorem dL_same_763 : decode cL_same 763 = .ok (.iaload, 1) := by decide +kernel
theorem dL_same_764 : decode cL_same 764 = .ok (.if_icmp .ne 121, 3) := by decide +kernel
theorem dL_same_767 : decode cL_same 767 = .ok (.aload_n 0, 1) := by decide +kernel
theorem dL_same_768 : decode cL_same 768 = .ok (.iconst 1, 1) := by decide +kernel
theorem dL_same_769 : decode cL_same 769 = .ok (.invokevirtual 54, 3) := by decide +kernel
theorem dL_same_772 : decode cL_same 772 = .ok (.aload_n 3, 1) := by decide +kernel
theorem dL_same_773 : decode cL_same 773 = .ok (.iconst 5, 1) := by decide +kernel
theorem dL_same_774 : decode cL_same 774 = .ok (.iaload, 1) := by decide +kernel
theorem dL_same_775 : decode cL_same 775 = .ok (.if_icmp .ne 110, 3) := by decide +kernel
theorem dL_same_778 : decode cL_same 778 = .ok (.aload_n 0, 1) := by decide +kernel
theorem dL_same_779 : decode cL_same 779 = .ok (.iconst 2, 1) := by decide +kernel
theorem dL_same_780 : decode cL_same 780 = .ok (.invokevirtual 54, 3) := by decide +kernel
theorem dL_same_783 : decode cL_same 783 = .ok (.iload 11, 2) := by decide +kernel
theorem dL_same_785 : decode cL_same 785 = .ok (.if_icmp .ne 100, 3) := by decide +kernel
theorem dL_same_788 : decode cL_same 788 = .ok (.aload_n 0, 1) := by decide +kernel
theorem dL_same_789 : decode cL_same 789 = .ok (.iconst 3, 1) := by decide +kernel
theorem dL_same_790 : decode cL_same 790 = .ok (.invokevirtual 54, 3) := by decide +kernel
theorem dL_same_793 : decode cL_same 793 = .ok (.aload_n 3, 1) := by decide +kernel
theorem dL_same_794 : decode cL_same 794 = .ok (.bipush 6, 2) := by decide +kernel
theorem dL_same_796 : decode cL_same 796 = .ok (.iaload, 1) := by decide +kernel
theorem dL_same_797 : decode cL_same 797 = .ok (.if_icmp .ne 88, 3) := by decide +kernel
theorem dL_same_800 : decode cL_same 800 = .ok (.aload_n 0, 1) := by decide +kernel
theorem dL_same_801 : decode cL_same 801 = .ok (.iconst 4, 1) := by decide +kernel
theorem dL_same_802 : decode cL_same 802 = .ok (.invokevirtual 54, 3) := by decide +kernel
theorem dL_same_805 : decode cL_same 805 = .ok (.iload 8, 2) := by decide +kernel
theorem dL_same_807 : decode cL_same 807 = .ok (.if_icmp .ne 78, 3) := by decide +kernel
theorem dL_same_810 : decode cL_same 810 = .ok (.aload_n 0, 1) := by decide +kernel
theorem dL_same_811 : decode cL_same 811 = .ok (.iconst 5, 1) := by decide +kernel
theorem dL_same_812 : decode cL_same 812 = .ok (.invokevirtual 54, 3) := by decide +kernel
theorem dL_same_815 : decode cL_same 815 = .ok (.iload 9, 2) := by decide +kernel
theorem dL_same_817 : decode cL_same 817 = .ok (.if_icmp .ne 68, 3) := by decide +kernel
theorem dL_same_820 : decode cL_same 820 = .ok (.aload_n 0, 1) := by decide +kernel
theorem dL_same_821 : decode cL_same 821 = .ok (.bipush 6, 2) := by decide +kernel
theorem dL_same_823 : decode cL_same 823 = .ok (.invokevirtual 54, 3) := by decide +kernel
theorem dL_same_826 : decode cL_same 826 = .ok (.iload 10, 2) := by decide +kernel
theorem dL_same_828 : decode cL_same 828 = .ok (.if_icmp .ne 57, 3) := by decide +kernel
theorem dL_same_831 : decode cL_same 831 = .ok (.aload_n 0, 1) := by decide +kernel
theorem dL_same_832 : decode cL_same 832 = .ok (.aload_n 3, 1) := by decide +kernel
theorem dL_same_833 : decode cL_same 833 = .ok (.iconst 5, 1) := by decide +kernel
theorem dL_same_834 : decode cL_same 834 = .ok (.iaload, 1) := by decide +kernel
theorem dL_same_835 : decode cL_same 835 = .ok (.iconst 0, 1) := by decide +kernel
theorem dL_same_836 : decode cL_same 836 = .ok (.invokevirtual 45, 3) := by decide +kernel
theorem dL_same_839 : decode cL_same 839 = .ok (.iconst (-1), 1) := by decide +kernel
theorem dL_same_840 : decode cL_same 840 = .ok (.if_icmp .ne 45, 3) := by decide +kernel
theorem dL_same_843 : decode cL_same 843 = .ok (.aload_n 0, 1) := by decide +kernel
theorem dL_same_844 : decode cL_same 844 = .ok (.aload_n 3, 1) := by decide +kernel
theorem dL_same_845 : decode cL_same 845 = .ok (.bipush 6, 2) := by decide +kernel
theorem dL_same_847 : decode cL_same 847 = .ok (.iaload, 1) := by decide +kernel
theorem dL_same_848 : decode cL_same 848 = .ok (.iconst 0, 1) := by decide +kernel
theorem dL_same_849 : decode cL_same 849 = .ok (.invokevirtual 48, 3) := by decide +kernel
theorem dL_same_852 : decode cL_same 852 = .ok (.iconst (-1), 1) := by decide +kernel
theorem dL_same_853 : decode cL_same 853 = .ok (.if_icmp .ne 32, 3) := by decide +kernel
theorem dL_same_856 : decode cL_same 856 = .ok (.aload_n 3, 1) := by decide +kernel
theorem dL_same_857 : decode cL_same 857 = .ok (.bipush 6, 2) := by decide +kernel
theorem dL_same_859 : decode cL_same 859 = .ok (.iaload, 1) := by decide +kernel
theorem dL_same_860 : decode cL_same 860 = .ok (.ifCond .gt 21, 3) := by decide +kernel
theorem dL_same_863 : decode cL_same 863 = .ok (.aload_n 0, 1) := by decide +kernel
theorem dL_same_864 : decode cL_same 864 = .ok (.bipush 7, 2) := by decide +kernel
theorem dL_same_866 : decode cL_same 866 = .ok (.invokevirtual 54, 3) := by decide +kernel
theorem dL_same_869 : decode cL_same 869 = .ok (.iload 9, 2) := by decide +kernel
theorem dL_same_871 : decode cL_same 871 = .ok (.iload 9, 2) := by decide +kernel
theorem dL_same_873 : decode cL_same 873 = .ok (.iconst 1, 1) := by decide +kernel
theorem dL_same_874 : decode cL_same 874 = .ok (.isub, 1) := by decide +kernel
theorem dL_same_875 : decode cL_same 875 = .ok (.imul, 1) := by decide +kernel
theorem dL_same_876 : decode cL_same 876 = .ok (.iconst 2, 1) := by decide +kernel
theorem dL_same_877 : decode cL_same 877 = .ok (.idiv, 1) := by decide +kernel
theorem dL_same_878 : decode cL_same 878 = .ok (.if_icmp .ne 7, 3) := by decide +kernel
theorem dL_same_881 : decode cL_same 881 = .ok (.iconst 1, 1) := by decide +kernel
theorem dL_same_882 : decode cL_same 882 = .ok (.goto 4, 3) := by decide +kernel
theorem dL_same_885 : decode cL_same 885 = .ok (.iconst 0, 1) := by decide +kernel
theorem dL_same_886 : decode cL_same 886 = .ok (.ireturn, 1) := by decide +kernel
set_option maxRecDepth 20000 in
theorem ggL_law_X5_init : GoodIn wsL_law wsX5_init := goodIn_r _ [7, 8, 9, 10, 11, 12, 13, 14, 15, 16, 17, 18, 19, 20, 21, 22, 23, 24, 25, 26, 27, 28, 29, 30, 31, 32, 33, 3, 34, 35, 36, 37, 38, 39, 40, 41, 42, 43, 44, 45, 46, 47, 48, 49, 50, 51, 52, 53, 54, 55, 56, 57, 58, 59, 60, 61, 62, 63, 64, 65, 66, 67, 68, 69, 70, 71, 72, 73, 74, 75, 76, 77, 334, 335, 336, 337, 338, 339, 340, 341, 342, 343, 344, 345, 346, 327, 328, 329, 330, 331, 332, 333, 347, 348, 349, 350, 351, 352, 353, 354, 355] (by decide +kernel) (by decide +kernel)
set_option maxRecDepth 20000 in
theorem gL_law_X5_init : GoodIn wsL_law (wsX5_init) := ggL_law_X5_init
set_option maxRecDepth 20000 in
theorem ggL_law_L_cell : GoodIn wsL_law wsL_cell := goodIn_r _ [81, 82, 83] (by decide +kernel) (by decide +kernel)
set_option maxRecDepth 20000 in
theorem gL_law_L_cell : GoodIn wsL_law (va_wsS RL 61 yL_cell wsL_cell) := goodIn_app (goodIn_of _ (by decide +kernel)) ggL_law_L_cell
set_option maxRecDepth 20000 in
theorem ggL_law_L_low : GoodIn wsL_law wsL_low := goodIn_r _ [86, 87] (by decide +kernel) (by decide +kernel)
set_option maxRecDepth 20000 in
theorem gL_law_L_low : GoodIn wsL_law (va_wsS RL 65 yL_low wsL_low) := goodIn_app (goodIn_of _ (by decide +kernel)) ggL_law_L_low
set_option maxRecDepth 20000 in
theorem ggL_law_L_touch : GoodIn wsL_law wsL_touch := goodIn_r _ [90] (by decide +kernel) (by decide +kernel)
set_option maxRecDepth 20000 in
theorem gL_law_L_touch : GoodIn wsL_law (va_wsS RL 37 yL_touch wsL_touch) := goodIn_app (goodIn_of _ (by decide +kernel)) ggL_law_L_touch
set_option maxRecDepth 20000 in
theorem ggL_law_L_near : GoodIn wsL_law wsL_near := goodIn_r _ [93] (by decide +kernel) (by decide +kernel)
set_option maxRecDepth 20000 in
theorem gL_law_L_near : GoodIn wsL_law (va_wsS RL 68 yL_near wsL_near) := goodIn_app (goodIn_of _ (by decide +kernel)) ggL_law_L_near
set_option maxRecDepth 20000 in
theorem ggL_law_X5_track : GoodIn wsL_law wsX5_track := goodIn_r _ [97, 23, 14, 98, 22, 99, 100, 71, 72, 101, 13, 102, 103, 34, 48, 49, 50, 51, 35, 36, 37, 38, 39, 40, 42, 44, 45, 46, 47, 104, 105, 106, 107, 2, 108, 109, 110, 111, 112, 113, 114, 115, 116, 117, 118, 119, 120, 121, 122, 123, 124, 125, 126, 327, 328, 329, 330, 331, 332, 333, 349, 350, 334, 335, 336, 337, 338, 339, 340, 341, 342, 343, 344, 345, 346] (by decide +kernel) (by decide +kernel)
set_option maxRecDepth 20000 in
theorem gL_law_X5_track : GoodIn wsL_law (wsV RL 72 RX5 yX5_track wsX5_track) := goodIn_app (goodIn_of _ (by decide +kernel)) ggL_law_X5_track
set_option maxRecDepth 20000 in
theorem ggL_law_X5_feed : GoodIn wsL_law wsX5_feed := goodIn_r _ [130, 23, 14, 98, 22, 99, 100, 71, 72, 101, 13, 102, 103, 34, 48, 49, 50, 51, 35, 36, 37, 38, 39, 40, 42, 44, 45, 46, 47, 131, 132, 133, 109, 2, 110, 120, 121, 122, 123, 134, 135, 136, 137, 124, 125, 126, 327, 328, 329, 330, 331, 332, 333, 349, 350, 334, 335, 336, 337, 338, 339, 340, 341, 342, 343, 344, 345, 346] (by decide +kernel) (by decide +kernel)
set_option maxRecDepth 20000 in
theorem gL_law_X5_feed : GoodIn wsL_law (wsV RL 75 RX5 yX5_feed wsX5_feed) := goodIn_app (goodIn_of _ (by decide +kernel)) ggL_law_X5_feed
set_option maxRecDepth 20000 in
theorem ggL_law_L_fed : GoodIn wsL_law wsL_fed := goodIn_r _ [140] (by decide +kernel) (by decide +kernel)
set_option maxRecDepth 20000 in
theorem gL_law_L_fed : GoodIn wsL_law (va_wsS RL 19 yL_fed wsL_fed) := goodIn_app (goodIn_of _ (by decide +kernel)) ggL_law_L_fed
set_option maxRecDepth 20000 in
theorem ggL_law_L_beside : GoodIn wsL_law wsL_beside := goodIn_r _ [143, 144, 145, 80, 146] (by decide +kernel) (by decide +kernel)
set_option maxRecDepth 20000 in
theorem gL_law_L_beside : GoodIn wsL_law (va_wsS RL 16 yL_beside wsL_beside) := goodIn_app (goodIn_of _ (by decide +kernel)) ggL_law_L_beside
set_option maxRecDepth 20000 in
theorem ggL_law_X5_touch : GoodIn wsL_law wsX5_touch := goodIn_r _ [150, 23, 14, 98, 22, 99, 100, 71, 72, 101, 13, 102, 103, 34, 48, 49, 50, 51, 35, 36, 37, 38, 39, 40, 42, 44, 45, 46, 47, 151, 152, 153, 107, 2, 108, 109, 110, 154, 155, 156, 157, 158, 159, 160, 161, 118, 119, 120, 121, 122, 123, 124, 125, 126, 327, 328, 329, 330, 331, 332, 333, 349, 350, 334, 335, 336, 337, 338, 339, 340, 341, 342, 343, 344, 345, 346] (by decide +kernel) (by decide +kernel)
set_option maxRecDepth 20000 in
theorem gL_law_X5_touch : GoodIn wsL_law (wsV RL 78 RX5 yX5_touch wsX5_touch) := goodIn_app (goodIn_of _ (by decide +kernel)) ggL_law_X5_touch
set_option maxRecDepth 20000 in
theorem ggL_law_X5_mend : GoodIn wsL_law wsX5_mend := goodIn_r _ [165, 23, 14, 98, 22, 99, 100, 71, 72, 101, 13, 102, 103, 34, 48, 49, 50, 51, 35, 36, 37, 38, 39, 40, 42, 44, 45, 46, 47, 166, 167, 168, 120, 121, 122, 123, 124, 125, 126, 327, 328, 329, 330, 331, 332, 333, 349, 350, 334, 335, 336, 337, 338, 339, 340, 341, 342, 343, 344, 345, 346] (by decide +kernel) (by decide +kernel)
set_option maxRecDepth 20000 in
theorem gL_law_X5_mend : GoodIn wsL_law (wsV RL 80 RX5 yX5_mend wsX5_mend) := goodIn_app (goodIn_of _ (by decide +kernel)) ggL_law_X5_mend
set_option maxRecDepth 20000 in
theorem ggL_law_X5_warm : GoodIn wsL_law wsX5_warm := goodIn_r _ [172, 23, 14, 98, 22, 99, 100, 71, 72, 101, 13, 102, 103, 34, 48, 49, 50, 51, 35, 36, 37, 38, 39, 40, 42, 44, 45, 46, 47, 173, 174, 175, 176, 177, 178, 179, 180, 181, 182, 183, 134, 135, 136, 137, 184, 185, 186, 187, 43, 188, 2, 189, 190, 191, 192, 193, 124, 125, 126, 327, 328, 329, 330, 331, 332, 333, 349, 350, 334, 335, 336, 337, 338, 339, 340, 341, 342, 343, 344, 345, 346] (by decide +kernel) (by decide +kernel)
set_option maxRecDepth 20000 in
theorem gL_law_X5_warm : GoodIn wsL_law (wsV RL 83 RX5 yX5_warm wsX5_warm) := goodIn_app (goodIn_of _ (by decide +kernel)) ggL_law_X5_warm
set_option maxRecDepth 20000 in
theorem ggL_law_X5_at : GoodIn wsL_law wsX5_at := goodIn_r _ [197, 14, 19, 198, 107, 2, 108, 199, 200, 201, 202, 203, 204, 205, 206, 207, 208, 13, 209, 210, 35, 118, 119, 134, 135, 136, 137, 36, 211, 18, 212, 213, 214, 215, 216, 217, 58, 218, 219, 220, 221, 222, 57, 223, 224, 63, 225, 49, 50, 51, 66, 226, 227, 228, 65, 41, 188, 189, 190, 191, 192, 193, 229, 230, 231, 232, 233, 234, 235, 236, 237, 155, 156, 157, 37, 38, 327, 328, 329, 330, 331, 332, 333, 334, 335, 336, 337, 338, 339, 340, 341, 342, 343, 344, 345, 346, 347, 348, 353, 354, 355] (by decide +kernel) (by decide +kernel)
set_option maxRecDepth 20000 in
theorem gL_law_X5_at : GoodIn wsL_law (wsV RL 33 RX5 yX5_at wsX5_at) := goodIn_app (goodIn_of _ (by decide +kernel)) ggL_law_X5_at
set_option maxRecDepth 20000 in
theorem ggL_law_X5_probe : GoodIn wsL_law wsX5_probe := goodIn_r _ [241, 23, 14, 98, 22, 99, 100, 71, 72, 101, 13, 102, 103, 34, 48, 49, 50, 51, 35, 36, 37, 38, 39, 40, 42, 44, 45, 46, 47, 242, 243, 244, 107, 2, 108, 205, 206, 207, 124, 125, 126, 327, 328, 329, 330, 331, 332, 333, 349, 350, 334, 335, 336, 337, 338, 339, 340, 341, 342, 343, 344, 345, 346] (by decide +kernel) (by decide +kernel)
set_option maxRecDepth 20000 in
theorem gL_law_X5_probe : GoodIn wsL_law (wsV RL 86 RX5 yX5_probe wsX5_probe) := goodIn_app (goodIn_of _ (by decide +kernel)) ggL_law_X5_probe
set_option maxRecDepth 20000 in
theorem ggL_law_L_suspect : GoodIn wsL_law wsL_suspect := goodIn_r _ [247, 141, 142, 80, 143, 144, 145, 146, 138, 139, 140] (by decide +kernel) (by decide +kernel)
set_option maxRecDepth 20000 in
theorem gL_law_L_suspect : GoodIn wsL_law (va_wsS RL 29 yL_suspect wsL_suspect) := goodIn_app (goodIn_of _ (by decide +kernel)) ggL_law_L_suspect
set_option maxRecDepth 20000 in
theorem ggL_law_X5_wouldRead : GoodIn wsL_law wsX5_wouldRead := goodIn_r _ [251, 14, 19, 198, 107, 2, 108, 208, 13, 209, 210, 35, 118, 119, 134, 135, 136, 137, 36, 252, 18, 253, 254, 58, 222, 57, 223, 224, 63, 225, 49, 50, 51, 66, 226, 227, 228, 65, 41, 188, 189, 190, 191, 192, 193, 205, 206, 207, 327, 328, 329, 330, 331, 332, 333, 334, 335, 336, 337, 338, 339, 340, 341, 342, 343, 344, 345, 346, 347, 348, 353, 354, 355] (by decide +kernel) (by decide +kernel)
set_option maxRecDepth 20000 in
theorem gL_law_X5_wouldRead : GoodIn wsL_law (wsV RL 89 RX5 yX5_wouldRead wsX5_wouldRead) := goodIn_app (goodIn_of _ (by decide +kernel)) ggL_law_X5_wouldRead
set_option maxRecDepth 20000 in
theorem ggL_law_L_live : GoodIn wsL_law wsL_live := goodIn_r _ [257, 138, 139, 80, 140] (by decide +kernel) (by decide +kernel)
set_option maxRecDepth 20000 in
theorem gL_law_L_live : GoodIn wsL_law (va_wsS RL 25 yL_live wsL_live) := goodIn_app (goodIn_of _ (by decide +kernel)) ggL_law_L_live
set_option maxRecDepth 20000 in
theorem ggL_law_X5_set : GoodIn wsL_law wsX5_set := goodIn_r _ [261, 23, 14, 98, 22, 99, 100, 71, 72, 101, 13, 102, 103, 34, 48, 49, 50, 51, 35, 36, 37, 38, 39, 40, 42, 44, 45, 46, 47, 262, 263, 264, 120, 121, 122, 123, 124, 125, 126, 327, 328, 329, 330, 331, 332, 333, 349, 350, 334, 335, 336, 337, 338, 339, 340, 341, 342, 343, 344, 345, 346] (by decide +kernel) (by decide +kernel)
set_option maxRecDepth 20000 in
theorem gL_law_X5_set : GoodIn wsL_law (wsV RL 93 RX5 yX5_set wsX5_set) := goodIn_app (goodIn_of _ (by decide +kernel)) ggL_law_X5_set
set_option maxRecDepth 20000 in
theorem ggL_law_X5_cool : GoodIn wsL_law wsX5_cool := goodIn_r _ [268, 23, 14, 98, 22, 99, 100, 71, 72, 101, 13, 102, 103, 34, 48, 49, 50, 51, 35, 36, 37, 38, 39, 40, 42, 44, 45, 46, 47, 121, 122, 123, 124, 125, 126, 327, 328, 329, 330, 331, 332, 333, 334, 335, 336, 337, 338, 339, 340, 341, 342, 343, 344, 345, 346, 349, 350] (by decide +kernel) (by decide +kernel)
set_option maxRecDepth 20000 in
theorem gL_law_X5_cool : GoodIn wsL_law (wsV RL 96 RX5 yX5_cool wsX5_cool) := goodIn_app (goodIn_of _ (by decide +kernel)) ggL_law_X5_cool
set_option maxRecDepth 20000 in
theorem ggL_law_L_same0 : GoodIn wsL_law [Cond.code yL_same cL_same 24 (some .boolean)] := fun w hw => by rw [List.mem_singleton] at hw; rw [hw]; exact ⟨List.mem_of_getElem? (i := 271) rfl, good_of_word rfl⟩
set_option maxRecDepth 20000 in
theorem ggL_law_L_same : GoodIn wsL_law wsL_same := goodIn_ca (a := []) ggL_law_L_same0 (goodIn_r _ [3, 255, 256, 80, 257, 138, 139, 140, 245, 246, 247, 141, 142, 143, 144, 145, 146, 194, 195, 196, 2, 197, 14, 19, 198, 107, 108, 199, 200, 201, 202, 203, 204, 205, 206, 207, 208, 13, 209, 210, 35, 118, 119, 134, 135, 136, 137, 36, 211, 18, 212, 213, 214, 215, 216, 217, 58, 218, 219, 220, 221, 222, 57, 223, 224, 63, 225, 49, 50, 51, 66, 226, 227, 228, 65, 41, 188, 189, 190, 191, 192, 193, 229, 230, 231, 232, 233, 234, 235, 236, 237, 155, 156, 157, 37, 38, 88, 89, 90, 272, 273, 274, 275, 276, 277, 278, 279, 280, 281, 282, 283, 284, 285, 286, 287, 288, 289, 290, 291, 292, 293, 294, 181, 182, 183, 39, 295, 296, 297, 298, 299, 300, 301, 302, 303, 109, 110, 304, 305, 306, 307, 308, 309, 42, 310, 311, 312, 313, 27, 23, 177, 178, 179, 180, 314, 315, 316, 317, 318, 319, 320, 321, 322, 323, 324, 325, 326, 327, 328, 329, 330, 331, 332, 333, 334, 335, 336, 337, 338, 339, 340, 341, 342, 343, 344, 345, 346, 347, 348, 353, 354, 355, 351, 352, 349, 350] (by decide +kernel) (by decide +kernel))
set_option maxRecDepth 20000 in
theorem gL_law_L_same : GoodIn wsL_law (va_wsS RL 100 yL_same wsL_same) := goodIn_app (goodIn_of _ (by decide +kernel)) ggL_law_L_same
theorem dL_law_0 : decode cL_law 0 = .ok (.new 23, 3) := by decide +kernel
theorem dL_law_3 : decode cL_law 3 = .ok (.dup, 1) := by decide +kernel
theorem dL_law_4 : decode cL_law 4 = .ok (.invokespecial 58, 3) := by decide +kernel
theorem dL_law_7 : decode cL_law 7 = .ok (.astore_n 1, 1) := by decide +kernel
theorem dL_law_8 : decode cL_law 8 = .ok (.bipush 7, 2) := by decide +kernel
theorem dL_law_10 : decode cL_law 10 = .ok (.newarray .int, 2) := by decide +kernel
theorem dL_law_12 : decode cL_law 12 = .ok (.astore_n 2, 1) := by decide +kernel
theorem dL_law_13 : decode cL_law 13 = .ok (.bipush 6, 2) := by decide +kernel
theorem dL_law_15 : decode cL_law 15 = .ok (.newarray .int, 2) := by decide +kernel
theorem dL_law_17 : decode cL_law 17 = .ok (.astore_n 3, 1) := by decide +kernel
theorem dL_law_18 : decode cL_law 18 = .ok (.bipush 24, 2) := by decide +kernel
theorem dL_law_20 : decode cL_law 20 = .ok (.newarray .int, 2) := by decide +kernel
theorem dL_law_22 : decode cL_law 22 = .ok (.astore 4, 2) := by decide +kernel
theorem dL_law_24 : decode cL_law 24 = .ok (.bipush 64, 2) := by decide +kernel
theorem dL_law_26 : decode cL_law 26 = .ok (.newarray .int, 2) := by decide +kernel
theorem dL_law_28 : decode cL_law 28 = .ok (.astore 5, 2) := by decide +kernel
theorem dL_law_30 : decode cL_law 30 = .ok (.bipush 8, 2) := by decide +kernel
theorem dL_law_32 : decode cL_law 32 = .ok (.newarray .int, 2) := by decide +kernel
theorem dL_law_34 : decode cL_law 34 = .ok (.astore 6, 2) := by decide +kernel
theorem dL_law_36 : decode cL_law 36 = .ok (.ldc2_w 59, 3) := by decide +kernel
theorem dL_law_39 : decode cL_law 39 = .ok (.lstore 7, 2) := by decide +kernel
theorem dL_law_41 : decode cL_law 41 = .ok (.aload_n 2, 1) := by decide +kernel
theorem dL_law_42 : decode cL_law 42 = .ok (.iconst 0, 1) := by decide +kernel
theorem dL_law_43 : decode cL_law 43 = .ok (.bipush 15, 2) := by decide +kernel
theorem dL_law_45 : decode cL_law 45 = .ok (.iastore, 1) := by decide +kernel
theorem dL_law_46 : decode cL_law 46 = .ok (.aload_n 2, 1) := by decide +kernel
theorem dL_law_47 : decode cL_law 47 = .ok (.iconst 1, 1) := by decide +kernel
theorem dL_law_48 : decode cL_law 48 = .ok (.iconst 5, 1) := by decide +kernel
theorem dL_law_49 : decode cL_law 49 = .ok (.iastore, 1) := by decide +kernel
theorem dL_law_50 : decode cL_law 50 = .ok (.aload_n 2, 1) := by decide +kernel
theorem dL_law_51 : decode cL_law 51 = .ok (.iconst 2, 1) := by decide +kernel
theorem dL_law_52 : decode cL_law 52 = .ok (.bipush 20, 2) := by decide +kernel
theorem dL_law_54 : decode cL_law 54 = .ok (.iastore, 1) := by decide +kernel
theorem dL_law_55 : decode cL_law 55 = .ok (.aload_n 2, 1) := by decide +kernel
theorem dL_law_56 : decode cL_law 56 = .ok (.iconst 3, 1) := by decide +kernel
theorem dL_law_57 : decode cL_law 57 = .ok (.iconst 3, 1) := by decide +kernel
theorem dL_law_58 : decode cL_law 58 = .ok (.iastore, 1) := by decide +kernel
theorem dL_law_59 : decode cL_law 59 = .ok (.iconst 0, 1) := by decide +kernel
theorem dL_law_60 : decode cL_law 60 = .ok (.istore 9, 2) := by decide +kernel
theorem dL_law_62 : decode cL_law 62 = .ok (.iload 9, 2) := by decide +kernel
theorem dL_law_64 : decode cL_law 64 = .ok (.bipush 34, 2) := by decide +kernel
theorem dL_law_66 : decode cL_law 66 = .ok (.if_icmp .ge 1224, 3) := by decide +kernel
theorem dL_law_69 : decode cL_law 69 = .ok (.aload_n 0, 1) := by decide +kernel
theorem dL_law_70 : decode cL_law 70 = .ok (.iconst 2, 1) := by decide +kernel
theorem dL_law_71 : decode cL_law 71 = .ok (.iload 9, 2) := by decide +kernel
theorem dL_law_73 : decode cL_law 73 = .ok (.imul, 1) := by decide +kernel
theorem dL_law_74 : decode cL_law 74 = .ok (.invokestatic 61, 3) := by decide +kernel
theorem dL_law_77 : decode cL_law 77 = .ok (.istore 10, 2) := by decide +kernel
theorem dL_law_79 : decode cL_law 79 = .ok (.aload_n 0, 1) := by decide +kernel
theorem dL_law_80 : decode cL_law 80 = .ok (.iconst 2, 1) := by decide +kernel
theorem dL_law_81 : decode cL_law 81 = .ok (.iload 9, 2) := by decide +kernel
theorem dL_law_83 : decode cL_law 83 = .ok (.imul, 1) := by decide +kernel
theorem dL_law_84 : decode cL_law 84 = .ok (.iconst 1, 1) := by decide +kernel
theorem dL_law_85 : decode cL_law 85 = .ok (.iadd, 1) := by decide +kernel
theorem dL_law_86 : decode cL_law 86 = .ok (.invokestatic 61, 3) := by decide +kernel
theorem dL_law_89 : decode cL_law 89 = .ok (.istore 11, 2) := by decide +kernel
theorem dL_law_91 : decode cL_law 91 = .ok (.iload 9, 2) := by decide +kernel
theorem dL_law_93 : decode cL_law 93 = .ok (.bipush 8, 2) := by decide +kernel
theorem dL_law_95 : decode cL_law 95 = .ok (.if_icmp .ge 19, 3) := by decide +kernel
theorem dL_law_98 : decode cL_law 98 = .ok (.iload 9, 2) := by decide +kernel
theorem dL_law_100 : decode cL_law 100 = .ok (.iconst 4, 1) := by decide +kernel
theorem dL_law_101 : decode cL_law 101 = .ok (.irem, 1) := by decide +kernel
theorem dL_law_102 : decode cL_law 102 = .ok (.iconst 3, 1) := by decide +kernel
theorem dL_law_103 : decode cL_law 103 = .ok (.if_icmp .ne 7, 3) := by decide +kernel
theorem dL_law_106 : decode cL_law 106 = .ok (.iconst 3, 1) := by decide +kernel
theorem dL_law_107 : decode cL_law 107 = .ok (.goto 14, 3) := by decide +kernel
theorem dL_law_110 : decode cL_law 110 = .ok (.iconst 0, 1) := by decide +kernel
theorem dL_law_111 : decode cL_law 111 = .ok (.goto 10, 3) := by decide +kernel
theorem dL_law_114 : decode cL_law 114 = .ok (.iload 10, 2) := by decide +kernel
theorem dL_law_116 : decode cL_law 116 = .ok (.bipush 15, 2) := by decide +kernel
theorem dL_law_118 : decode cL_law 118 = .ok (.invokestatic 65, 3) := by decide +kernel
theorem dL_law_121 : decode cL_law 121 = .ok (.istore 12, 2) := by decide +kernel
theorem dL_law_123 : decode cL_law 123 = .ok (.iload 11, 2) := by decide +kernel
theorem dL_law_125 : decode cL_law 125 = .ok (.iconst 5, 1) := by decide +kernel
theorem dL_law_126 : decode cL_law 126 = .ok (.invokestatic 65, 3) := by decide +kernel
theorem dL_law_129 : decode cL_law 129 = .ok (.istore 13, 2) := by decide +kernel
theorem dL_law_131 : decode cL_law 131 = .ok (.iload 11, 2) := by decide +kernel
theorem dL_law_133 : decode cL_law 133 = .ok (.iconst 4, 1) := by decide +kernel
theorem dL_law_134 : decode cL_law 134 = .ok (.ishr, 1) := by decide +kernel
theorem dL_law_135 : decode cL_law 135 = .ok (.iconst 5, 1) := by decide +kernel
theorem dL_law_136 : decode cL_law 136 = .ok (.invokestatic 65, 3) := by decide +kernel
theorem dL_law_139 : decode cL_law 139 = .ok (.istore 14, 2) := by decide +kernel
theorem dL_law_141 : decode cL_law 141 = .ok (.bipush 8, 2) := by decide +kernel
theorem dL_law_143 : decode cL_law 143 = .ok (.iload 13, 2) := by decide +kernel
theorem dL_law_145 : decode cL_law 145 = .ok (.imul, 1) := by decide +kernel
theorem dL_law_146 : decode cL_law 146 = .ok (.iload 14, 2) := by decide +kernel
theorem dL_law_148 : decode cL_law 148 = .ok (.iadd, 1) := by decide +kernel
theorem dL_law_149 : decode cL_law 149 = .ok (.istore 15, 2) := by decide +kernel
theorem dL_law_151 : decode cL_law 151 = .ok (.iconst 0, 1) := by decide +kernel
theorem dL_law_152 : decode cL_law 152 = .ok (.istore 16, 2) := by decide +kernel
theorem dL_law_154 : decode cL_law 154 = .ok (.iload 12, 2) := by decide +kernel
theorem dL_law_156 : decode cL_law 156 = .ok (.iconst 3, 1) := by decide +kernel
theorem dL_law_157 : decode cL_law 157 = .ok (.if_icmp .ge 155, 3) := by decide +kernel
theorem dL_law_160 : decode cL_law 160 = .ok (.iload 11, 2) := by decide +kernel
theorem dL_law_162 : decode cL_law 162 = .ok (.bipush 8, 2) := by decide +kernel
theorem dL_law_164 : decode cL_law 164 = .ok (.ishr, 1) := by decide +kernel
theorem dL_law_165 : decode cL_law 165 = .ok (.iconst 5, 1) := by decide +kernel
theorem dL_law_166 : decode cL_law 166 = .ok (.invokestatic 65, 3) := by decide +kernel
theorem dL_law_169 : decode cL_law 169 = .ok (.istore 17, 2) := by decide +kernel
theorem dL_law_171 : decode cL_law 171 = .ok (.iload 15, 2) := by decide +kernel
theorem dL_law_173 : decode cL_law 173 = .ok (.aload_n 2, 1) := by decide +kernel
theorem dL_law_174 : decode cL_law 174 = .ok (.aload_n 3, 1) := by decide +kernel
theorem dL_law_175 : decode cL_law 175 = .ok (.invokestatic 37, 3) := by decide +kernel
theorem dL_law_178 : decode cL_law 178 = .ok (.ifCond .lt 7, 3) := by decide +kernel
theorem dL_law_181 : decode cL_law 181 = .ok (.iconst 1, 1) := by decide +kernel
theorem dL_law_182 : decode cL_law 182 = .ok (.goto 4, 3) := by decide +kernel
theorem dL_law_185 : decode cL_law 185 = .ok (.iconst 0, 1) := by decide +kernel
theorem dL_law_186 : decode cL_law 186 = .ok (.istore 18, 2) := by decide +kernel
theorem dL_law_188 : decode cL_law 188 = .ok (.iconst 0, 1) := by decide +kernel
theorem dL_law_189 : decode cL_law 189 = .ok (.istore 19, 2) := by decide +kernel
theorem dL_law_191 : decode cL_law 191 = .ok (.iload 19, 2) := by decide +kernel
theorem dL_law_193 : decode cL_law 193 = .ok (.aload_n 2, 1) := by decide +kernel
theorem dL_law_194 : decode cL_law 194 = .ok (.iconst 5, 1) := by decide +kernel
theorem dL_law_195 : decode cL_law 195 = .ok (.iaload, 1) := by decide +kernel
theorem dL_law_196 : decode cL_law 196 = .ok (.if_icmp .ge 51, 3) := by decide +kernel
theorem dL_law_199 : decode cL_law 199 = .ok (.iload 18, 2) := by decide +kernel
theorem dL_law_201 : decode cL_law 201 = .ok (.ifCond .ne 33, 3) := by decide +kernel
theorem dL_law_204 : decode cL_law 204 = .ok (.iload 15, 2) := by decide +kernel
theorem dL_law_206 : decode cL_law 206 = .ok (.aload_n 3, 1) := by decide +kernel
theorem dL_law_207 : decode cL_law 207 = .ok (.iconst 2, 1) := by decide +kernel
theorem dL_law_208 : decode cL_law 208 = .ok (.iload 19, 2) := by decide +kernel
theorem dL_law_210 : decode cL_law 210 = .ok (.imul, 1) := by decide +kernel
theorem dL_law_211 : decode cL_law 211 = .ok (.iaload, 1) := by decide +kernel
theorem dL_law_212 : decode cL_law 212 = .ok (.invokestatic 68, 3) := by decide +kernel
theorem dL_law_215 : decode cL_law 215 = .ok (.ifCond .eq 23, 3) := by decide +kernel
theorem dL_law_218 : decode cL_law 218 = .ok (.aload_n 3, 1) := by decide +kernel
theorem dL_law_219 : decode cL_law 219 = .ok (.iconst 2, 1) := by decide +kernel
theorem dL_law_220 : decode cL_law 220 = .ok (.iload 19, 2) := by decide +kernel
theorem dL_law_222 : decode cL_law 222 = .ok (.imul, 1) := by decide +kernel
theorem dL_law_223 : decode cL_law 223 = .ok (.iconst 1, 1) := by decide +kernel
theorem dL_law_224 : decode cL_law 224 = .ok (.iadd, 1) := by decide +kernel
theorem dL_law_225 : decode cL_law 225 = .ok (.iaload, 1) := by decide +kernel
theorem dL_law_226 : decode cL_law 226 = .ok (.aload 5, 2) := by decide +kernel
theorem dL_law_228 : decode cL_law 228 = .ok (.iload 15, 2) := by decide +kernel
theorem dL_law_230 : decode cL_law 230 = .ok (.iaload, 1) := by decide +kernel
theorem dL_law_231 : decode cL_law 231 = .ok (.if_icmp .ne 7, 3) := by decide +kernel
theorem dL_law_234 : decode cL_law 234 = .ok (.iconst 1, 1) := by decide +kernel
theorem dL_law_235 : decode cL_law 235 = .ok (.goto 4, 3) := by decide +kernel
theorem dL_law_238 : decode cL_law 238 = .ok (.iconst 0, 1) := by decide +kernel
theorem dL_law_239 : decode cL_law 239 = .ok (.istore 18, 2) := by decide +kernel
theorem dL_law_241 : decode cL_law 241 = .ok (.iinc 19 1, 3) := by decide +kernel
theorem dL_law_244 : decode cL_law 244 = .ok (.goto (-53), 3) := by decide +kernel
theorem dL_law_247 : decode cL_law 247 = .ok (.aload_n 1, 1) := by decide +kernel
theorem dL_law_248 : decode cL_law 248 = .ok (.iload 13, 2) := by decide +kernel
theorem dL_law_250 : decode cL_law 250 = .ok (.iload 14, 2) := by decide +kernel
theorem dL_law_252 : decode cL_law 252 = .ok (.iload 17, 2) := by decide +kernel
theorem dL_law_254 : decode cL_law 254 = .ok (.invokevirtual 72, 3) := by decide +kernel
theorem dL_law_257 : decode cL_law 257 = .ok (.iload 18, 2) := by decide +kernel
theorem dL_law_259 : decode cL_law 259 = .ok (.ifCond .eq 8, 3) := by decide +kernel
theorem dL_law_262 : decode cL_law 262 = .ok (.bipush (-5), 2) := by decide +kernel
theorem dL_law_264 : decode cL_law 264 = .ok (.goto 8, 3) := by decide +kernel
theorem dL_law_267 : decode cL_law 267 = .ok (.aload 5, 2) := by decide +kernel
theorem dL_law_269 : decode cL_law 269 = .ok (.iload 15, 2) := by decide +kernel
theorem dL_law_271 : decode cL_law 271 = .ok (.iaload, 1) := by decide +kernel
theorem dL_law_272 : decode cL_law 272 = .ok (.if_icmp .eq 5, 3) := by decide +kernel
theorem dL_law_275 : decode cL_law 275 = .ok (.iconst 0, 1) := by decide +kernel
theorem dL_law_276 : decode cL_law 276 = .ok (.ireturn, 1) := by decide +kernel
theorem dL_law_277 : decode cL_law 277 = .ok (.iload 18, 2) := by decide +kernel
theorem dL_law_279 : decode cL_law 279 = .ok (.ifCond .ne 7, 3) := by decide +kernel
theorem dL_law_282 : decode cL_law 282 = .ok (.iconst 1, 1) := by decide +kernel
theorem dL_law_283 : decode cL_law 283 = .ok (.goto 4, 3) := by decide +kernel
theorem dL_law_286 : decode cL_law 286 = .ok (.iconst 0, 1) := by decide +kernel
theorem dL_law_287 : decode cL_law 287 = .ok (.istore 16, 2) := by decide +kernel
theorem dL_law_289 : decode cL_law 289 = .ok (.aload 5, 2) := by decide +kernel
theorem dL_law_291 : decode cL_law 291 = .ok (.iload 15, 2) := by decide +kernel
theorem dL_law_293 : decode cL_law 293 = .ok (.iload 18, 2) := by decide +kernel
theorem dL_law_295 : decode cL_law 295 = .ok (.ifCond .eq 11, 3) := by decide +kernel
theorem dL_law_298 : decode cL_law 298 = .ok (.aload 5, 2) := by decide +kernel
theorem dL_law_300 : decode cL_law 300 = .ok (.iload 15, 2) := by decide +kernel
theorem dL_law_302 : decode cL_law 302 = .ok (.iaload, 1) := by decide +kernel
theorem dL_law_303 : decode cL_law 303 = .ok (.goto 5, 3) := by decide +kernel
theorem dL_law_306 : decode cL_law 306 = .ok (.iload 17, 2) := by decide +kernel
theorem dL_law_308 : decode cL_law 308 = .ok (.iastore, 1) := by decide +kernel
theorem dL_law_309 : decode cL_law 309 = .ok (.goto 937, 3) := by decide +kernel
theorem dL_law_312 : decode cL_law 312 = .ok (.iload 12, 2) := by decide +kernel
theorem dL_law_314 : decode cL_law 314 = .ok (.iconst 5, 1) := by decide +kernel
theorem dL_law_315 : decode cL_law 315 = .ok (.if_icmp .ge 113, 3) := by decide +kernel
theorem dL_law_318 : decode cL_law 318 = .ok (.iconst 1, 1) := by decide +kernel
theorem dL_law_319 : decode cL_law 319 = .ok (.iload 11, 2) := by decide +kernel
theorem dL_law_321 : decode cL_law 321 = .ok (.iconst 4, 1) := by decide +kernel
theorem dL_law_322 : decode cL_law 322 = .ok (.invokestatic 65, 3) := by decide +kernel
theorem dL_law_325 : decode cL_law 325 = .ok (.iadd, 1) := by decide +kernel
theorem dL_law_326 : decode cL_law 326 = .ok (.istore 17, 2) := by decide +kernel
theorem dL_law_328 : decode cL_law 328 = .ok (.iconst 1, 1) := by decide +kernel
theorem dL_law_329 : decode cL_law 329 = .ok (.iload 11, 2) := by decide +kernel
theorem dL_law_331 : decode cL_law 331 = .ok (.iconst 5, 1) := by decide +kernel
theorem dL_law_332 : decode cL_law 332 = .ok (.ishr, 1) := by decide +kernel
theorem dL_law_333 : decode cL_law 333 = .ok (.iconst 4, 1) := by decide +kernel
theorem dL_law_334 : decode cL_law 334 = .ok (.invokestatic 65, 3) := by decide +kernel
theorem dL_law_337 : decode cL_law 337 = .ok (.iadd, 1) := by decide +kernel
theorem dL_law_338 : decode cL_law 338 = .ok (.istore 18, 2) := by decide +kernel
theorem dL_law_340 : decode cL_law 340 = .ok (.aload_n 1, 1) := by decide +kernel
theorem dL_law_341 : decode cL_law 341 = .ok (.iload 17, 2) := by decide +kernel
theorem dL_law_343 : decode cL_law 343 = .ok (.iload 18, 2) := by decide +kernel
theorem dL_law_345 : decode cL_law 345 = .ok (.invokevirtual 75, 3) := by decide +kernel
theorem dL_law_348 : decode cL_law 348 = .ok (.istore 19, 2) := by decide +kernel
theorem dL_law_350 : decode cL_law 350 = .ok (.iload 17, 2) := by decide +kernel
theorem dL_law_352 : decode cL_law 352 = .ok (.iload 18, 2) := by decide +kernel
theorem dL_law_354 : decode cL_law 354 = .ok (.if_icmp .ne 13, 3) := by decide +kernel
theorem dL_law_357 : decode cL_law 357 = .ok (.iload 19, 2) := by decide +kernel
theorem dL_law_359 : decode cL_law 359 = .ok (.bipush (-2), 2) := by decide +kernel
theorem dL_law_361 : decode cL_law 361 = .ok (.if_icmp .eq 30, 3) := by decide +kernel
theorem dL_law_364 : decode cL_law 364 = .ok (.goto 25, 3) := by decide +kernel
theorem dL_law_367 : decode cL_law 367 = .ok (.iload 19, 2) := by decide +kernel
theorem dL_law_369 : decode cL_law 369 = .ok (.iload 17, 2) := by decide +kernel
theorem dL_law_371 : decode cL_law 371 = .ok (.iload 18, 2) := by decide +kernel
theorem dL_law_373 : decode cL_law 373 = .ok (.aload 6, 2) := by decide +kernel
theorem dL_law_375 : decode cL_law 375 = .ok (.invokestatic 19, 3) := by decide +kernel
theorem dL_law_378 : decode cL_law 378 = .ok (.ifCond .eq 7, 3) := by decide +kernel
theorem dL_law_381 : decode cL_law 381 = .ok (.iconst 0, 1) := by decide +kernel
theorem dL_law_382 : decode cL_law 382 = .ok (.goto 4, 3) := by decide +kernel
theorem dL_law_385 : decode cL_law 385 = .ok (.iconst 1, 1) := by decide +kernel
theorem dL_law_386 : decode cL_law 386 = .ok (.if_icmp .eq 5, 3) := by decide +kernel
theorem dL_law_389 : decode cL_law 389 = .ok (.iconst 0, 1) := by decide +kernel
theorem dL_law_390 : decode cL_law 390 = .ok (.ireturn, 1) := by decide +kernel
theorem dL_law_391 : decode cL_law 391 = .ok (.iload 17, 2) := by decide +kernel
theorem dL_law_393 : decode cL_law 393 = .ok (.iload 18, 2) := by decide +kernel
theorem dL_law_395 : decode cL_law 395 = .ok (.if_icmp .eq 30, 3) := by decide +kernel
theorem dL_law_398 : decode cL_law 398 = .ok (.aload 6, 2) := by decide +kernel
theorem dL_law_400 : decode cL_law 400 = .ok (.iload 17, 2) := by decide +kernel
theorem dL_law_402 : decode cL_law 402 = .ok (.dup2, 1) := by decide +kernel
theorem dL_law_403 : decode cL_law 403 = .ok (.iaload, 1) := by decide +kernel
theorem dL_law_404 : decode cL_law 404 = .ok (.iconst 1, 1) := by decide +kernel
theorem dL_law_405 : decode cL_law 405 = .ok (.iload 18, 2) := by decide +kernel
theorem dL_law_407 : decode cL_law 407 = .ok (.ishl, 1) := by decide +kernel
theorem dL_law_408 : decode cL_law 408 = .ok (.ixor, 1) := by decide +kernel
theorem dL_law_409 : decode cL_law 409 = .ok (.iastore, 1) := by decide +kernel
theorem dL_law_410 : decode cL_law 410 = .ok (.aload 6, 2) := by decide +kernel
theorem dL_law_412 : decode cL_law 412 = .ok (.iload 18, 2) := by decide +kernel
theorem dL_law_414 : decode cL_law 414 = .ok (.dup2, 1) := by decide +kernel
theorem dL_law_415 : decode cL_law 415 = .ok (.iaload, 1) := by decide +kernel
theorem dL_law_416 : decode cL_law 416 = .ok (.iconst 1, 1) := by decide +kernel
theorem dL_law_417 : decode cL_law 417 = .ok (.iload 17, 2) := by decide +kernel
theorem dL_law_419 : decode cL_law 419 = .ok (.ishl, 1) := by decide +kernel
theorem dL_law_420 : decode cL_law 420 = .ok (.ixor, 1) := by decide +kernel
theorem dL_law_421 : decode cL_law 421 = .ok (.iastore, 1) := by decide +kernel
theorem dL_law_422 : decode cL_law 422 = .ok (.iconst 1, 1) := by decide +kernel
theorem dL_law_423 : decode cL_law 423 = .ok (.istore 16, 2) := by decide +kernel
theorem dL_law_425 : decode cL_law 425 = .ok (.goto 821, 3) := by decide +kernel
theorem dL_law_428 : decode cL_law 428 = .ok (.iload 12, 2) := by decide +kernel
theorem dL_law_430 : decode cL_law 430 = .ok (.bipush 7, 2) := by decide +kernel
theorem dL_law_432 : decode cL_law 432 = .ok (.if_icmp .ge 188, 3) := by decide +kernel
theorem dL_law_435 : decode cL_law 435 = .ok (.iconst 1, 1) := by decide +kernel
theorem dL_law_436 : decode cL_law 436 = .ok (.iload 11, 2) := by decide +kernel
theorem dL_law_438 : decode cL_law 438 = .ok (.bipush 9, 2) := by decide +kernel
theorem dL_law_440 : decode cL_law 440 = .ok (.ishr, 1) := by decide +kernel
theorem dL_law_441 : decode cL_law 441 = .ok (.iconst 4, 1) := by decide +kernel
theorem dL_law_442 : decode cL_law 442 = .ok (.invokestatic 65, 3) := by decide +kernel
theorem dL_law_445 : decode cL_law 445 = .ok (.iadd, 1) := by decide +kernel
end
section
theorem dL_law_446 : decode cL_law 446 = .ok (.istore 17, 2) := by decide +kernel
theorem dL_law_448 : decode cL_law 448 = .ok (.aload 5, 2) := by decide +kernel
theorem dL_law_450 : decode cL_law 450 = .ok (.iload 15, 2) := by decide +kernel
theorem dL_law_452 : decode cL_law 452 = .ok (.iaload, 1) := by decide +kernel
theorem dL_law_453 : decode cL_law 453 = .ok (.ifCond .le 79, 3) := by decide +kernel
theorem dL_law_456 : decode cL_law 456 = .ok (.aload 5, 2) := by decide +kernel
theorem dL_law_458 : decode cL_law 458 = .ok (.iload 15, 2) := by decide +kernel
theorem dL_law_460 : decode cL_law 460 = .ok (.iaload, 1) := by decide +kernel
theorem dL_law_461 : decode cL_law 461 = .ok (.iload 17, 2) := by decide +kernel
theorem dL_law_463 : decode cL_law 463 = .ok (.if_icmp .eq 69, 3) := by decide +kernel
theorem dL_law_466 : decode cL_law 466 = .ok (.iload 15, 2) := by decide +kernel
theorem dL_law_468 : decode cL_law 468 = .ok (.aload_n 2, 1) := by decide +kernel
theorem dL_law_469 : decode cL_law 469 = .ok (.aload_n 3, 1) := by decide +kernel
theorem dL_law_470 : decode cL_law 470 = .ok (.invokestatic 37, 3) := by decide +kernel
theorem dL_law_473 : decode cL_law 473 = .ok (.ifCond .ge 59, 3) := by decide +kernel
theorem dL_law_476 : decode cL_law 476 = .ok (.iload 15, 2) := by decide +kernel
theorem dL_law_478 : decode cL_law 478 = .ok (.iconst 0, 1) := by decide +kernel
theorem dL_law_479 : decode cL_law 479 = .ok (.aload 5, 2) := by decide +kernel
theorem dL_law_481 : decode cL_law 481 = .ok (.invokestatic 16, 3) := by decide +kernel
theorem dL_law_484 : decode cL_law 484 = .ok (.iload 17, 2) := by decide +kernel
theorem dL_law_486 : decode cL_law 486 = .ok (.if_icmp .eq 42, 3) := by decide +kernel
theorem dL_law_489 : decode cL_law 489 = .ok (.iload 15, 2) := by decide +kernel
theorem dL_law_491 : decode cL_law 491 = .ok (.iconst 1, 1) := by decide +kernel
theorem dL_law_492 : decode cL_law 492 = .ok (.aload 5, 2) := by decide +kernel
theorem dL_law_494 : decode cL_law 494 = .ok (.invokestatic 16, 3) := by decide +kernel
theorem dL_law_497 : decode cL_law 497 = .ok (.iload 17, 2) := by decide +kernel
theorem dL_law_499 : decode cL_law 499 = .ok (.if_icmp .eq 29, 3) := by decide +kernel
theorem dL_law_502 : decode cL_law 502 = .ok (.iload 15, 2) := by decide +kernel
theorem dL_law_504 : decode cL_law 504 = .ok (.iconst 2, 1) := by decide +kernel
theorem dL_law_505 : decode cL_law 505 = .ok (.aload 5, 2) := by decide +kernel
theorem dL_law_507 : decode cL_law 507 = .ok (.invokestatic 16, 3) := by decide +kernel
theorem dL_law_510 : decode cL_law 510 = .ok (.iload 17, 2) := by decide +kernel
theorem dL_law_512 : decode cL_law 512 = .ok (.if_icmp .eq 16, 3) := by decide +kernel
theorem dL_law_515 : decode cL_law 515 = .ok (.iload 15, 2) := by decide +kernel
theorem dL_law_517 : decode cL_law 517 = .ok (.iconst 3, 1) := by decide +kernel
theorem dL_law_518 : decode cL_law 518 = .ok (.aload 5, 2) := by decide +kernel
theorem dL_law_520 : decode cL_law 520 = .ok (.invokestatic 16, 3) := by decide +kernel
theorem dL_law_523 : decode cL_law 523 = .ok (.iload 17, 2) := by decide +kernel
theorem dL_law_525 : decode cL_law 525 = .ok (.if_icmp .ne 7, 3) := by decide +kernel
theorem dL_law_528 : decode cL_law 528 = .ok (.iconst 1, 1) := by decide +kernel
theorem dL_law_529 : decode cL_law 529 = .ok (.goto 4, 3) := by decide +kernel
theorem dL_law_532 : decode cL_law 532 = .ok (.iconst 0, 1) := by decide +kernel
theorem dL_law_533 : decode cL_law 533 = .ok (.istore 18, 2) := by decide +kernel
theorem dL_law_535 : decode cL_law 535 = .ok (.aload_n 1, 1) := by decide +kernel
theorem dL_law_536 : decode cL_law 536 = .ok (.iload 13, 2) := by decide +kernel
theorem dL_law_538 : decode cL_law 538 = .ok (.iload 14, 2) := by decide +kernel
theorem dL_law_540 : decode cL_law 540 = .ok (.iload 17, 2) := by decide +kernel
theorem dL_law_542 : decode cL_law 542 = .ok (.invokevirtual 78, 3) := by decide +kernel
theorem dL_law_545 : decode cL_law 545 = .ok (.iload 18, 2) := by decide +kernel
theorem dL_law_547 : decode cL_law 547 = .ok (.ifCond .ne 8, 3) := by decide +kernel
theorem dL_law_550 : decode cL_law 550 = .ok (.bipush (-5), 2) := by decide +kernel
theorem dL_law_552 : decode cL_law 552 = .ok (.goto 18, 3) := by decide +kernel
theorem dL_law_555 : decode cL_law 555 = .ok (.aload_n 2, 1) := by decide +kernel
theorem dL_law_556 : decode cL_law 556 = .ok (.iconst 5, 1) := by decide +kernel
theorem dL_law_557 : decode cL_law 557 = .ok (.iaload, 1) := by decide +kernel
theorem dL_law_558 : decode cL_law 558 = .ok (.iconst 3, 1) := by decide +kernel
theorem dL_law_559 : decode cL_law 559 = .ok (.if_icmp .ne 8, 3) := by decide +kernel
theorem dL_law_562 : decode cL_law 562 = .ok (.bipush (-4), 2) := by decide +kernel
theorem dL_law_564 : decode cL_law 564 = .ok (.goto 6, 3) := by decide +kernel
theorem dL_law_567 : decode cL_law 567 = .ok (.aload_n 2, 1) := by decide +kernel
theorem dL_law_568 : decode cL_law 568 = .ok (.iconst 5, 1) := by decide +kernel
theorem dL_law_569 : decode cL_law 569 = .ok (.iaload, 1) := by decide +kernel
theorem dL_law_570 : decode cL_law 570 = .ok (.if_icmp .eq 5, 3) := by decide +kernel
theorem dL_law_573 : decode cL_law 573 = .ok (.iconst 0, 1) := by decide +kernel
theorem dL_law_574 : decode cL_law 574 = .ok (.ireturn, 1) := by decide +kernel
theorem dL_law_575 : decode cL_law 575 = .ok (.iload 18, 2) := by decide +kernel
theorem dL_law_577 : decode cL_law 577 = .ok (.ifCond .eq 40, 3) := by decide +kernel
theorem dL_law_580 : decode cL_law 580 = .ok (.aload_n 2, 1) := by decide +kernel
theorem dL_law_581 : decode cL_law 581 = .ok (.iconst 5, 1) := by decide +kernel
theorem dL_law_582 : decode cL_law 582 = .ok (.iaload, 1) := by decide +kernel
theorem dL_law_583 : decode cL_law 583 = .ok (.iconst 3, 1) := by decide +kernel
theorem dL_law_584 : decode cL_law 584 = .ok (.if_icmp .ge 33, 3) := by decide +kernel
theorem dL_law_587 : decode cL_law 587 = .ok (.aload_n 3, 1) := by decide +kernel
theorem dL_law_588 : decode cL_law 588 = .ok (.iconst 2, 1) := by decide +kernel
theorem dL_law_589 : decode cL_law 589 = .ok (.aload_n 2, 1) := by decide +kernel
theorem dL_law_590 : decode cL_law 590 = .ok (.iconst 5, 1) := by decide +kernel
theorem dL_law_591 : decode cL_law 591 = .ok (.iaload, 1) := by decide +kernel
theorem dL_law_592 : decode cL_law 592 = .ok (.imul, 1) := by decide +kernel
theorem dL_law_593 : decode cL_law 593 = .ok (.iload 15, 2) := by decide +kernel
theorem dL_law_595 : decode cL_law 595 = .ok (.iastore, 1) := by decide +kernel
theorem dL_law_596 : decode cL_law 596 = .ok (.aload_n 3, 1) := by decide +kernel
theorem dL_law_597 : decode cL_law 597 = .ok (.iconst 2, 1) := by decide +kernel
theorem dL_law_598 : decode cL_law 598 = .ok (.aload_n 2, 1) := by decide +kernel
theorem dL_law_599 : decode cL_law 599 = .ok (.iconst 5, 1) := by decide +kernel
theorem dL_law_600 : decode cL_law 600 = .ok (.iaload, 1) := by decide +kernel
theorem dL_law_601 : decode cL_law 601 = .ok (.imul, 1) := by decide +kernel
theorem dL_law_602 : decode cL_law 602 = .ok (.iconst 1, 1) := by decide +kernel
theorem dL_law_603 : decode cL_law 603 = .ok (.iadd, 1) := by decide +kernel
theorem dL_law_604 : decode cL_law 604 = .ok (.iload 17, 2) := by decide +kernel
theorem dL_law_606 : decode cL_law 606 = .ok (.iastore, 1) := by decide +kernel
theorem dL_law_607 : decode cL_law 607 = .ok (.aload_n 2, 1) := by decide +kernel
theorem dL_law_608 : decode cL_law 608 = .ok (.iconst 5, 1) := by decide +kernel
theorem dL_law_609 : decode cL_law 609 = .ok (.dup2, 1) := by decide +kernel
theorem dL_law_610 : decode cL_law 610 = .ok (.iaload, 1) := by decide +kernel
theorem dL_law_611 : decode cL_law 611 = .ok (.iconst 1, 1) := by decide +kernel
theorem dL_law_612 : decode cL_law 612 = .ok (.iadd, 1) := by decide +kernel
theorem dL_law_613 : decode cL_law 613 = .ok (.iastore, 1) := by decide +kernel
theorem dL_law_614 : decode cL_law 614 = .ok (.iconst 1, 1) := by decide +kernel
theorem dL_law_615 : decode cL_law 615 = .ok (.istore 16, 2) := by decide +kernel
theorem dL_law_617 : decode cL_law 617 = .ok (.goto 629, 3) := by decide +kernel
theorem dL_law_620 : decode cL_law 620 = .ok (.iload 12, 2) := by decide +kernel
theorem dL_law_622 : decode cL_law 622 = .ok (.bipush 7, 2) := by decide +kernel
theorem dL_law_624 : decode cL_law 624 = .ok (.if_icmp .ne 106, 3) := by decide +kernel
theorem dL_law_627 : decode cL_law 627 = .ok (.iload 11, 2) := by decide +kernel
theorem dL_law_629 : decode cL_law 629 = .ok (.iconst 3, 1) := by decide +kernel
theorem dL_law_630 : decode cL_law 630 = .ok (.invokestatic 65, 3) := by decide +kernel
theorem dL_law_633 : decode cL_law 633 = .ok (.istore 17, 2) := by decide +kernel
theorem dL_law_635 : decode cL_law 635 = .ok (.iload 17, 2) := by decide +kernel
theorem dL_law_637 : decode cL_law 637 = .ok (.aload_n 2, 1) := by decide +kernel
theorem dL_law_638 : decode cL_law 638 = .ok (.iconst 5, 1) := by decide +kernel
theorem dL_law_639 : decode cL_law 639 = .ok (.iaload, 1) := by decide +kernel
theorem dL_law_640 : decode cL_law 640 = .ok (.if_icmp .ge 7, 3) := by decide +kernel
theorem dL_law_643 : decode cL_law 643 = .ok (.iconst 1, 1) := by decide +kernel
theorem dL_law_644 : decode cL_law 644 = .ok (.goto 4, 3) := by decide +kernel
theorem dL_law_647 : decode cL_law 647 = .ok (.iconst 0, 1) := by decide +kernel
theorem dL_law_648 : decode cL_law 648 = .ok (.istore 18, 2) := by decide +kernel
theorem dL_law_650 : decode cL_law 650 = .ok (.iconst 2, 1) := by decide +kernel
theorem dL_law_651 : decode cL_law 651 = .ok (.iload 17, 2) := by decide +kernel
theorem dL_law_653 : decode cL_law 653 = .ok (.imul, 1) := by decide +kernel
theorem dL_law_654 : decode cL_law 654 = .ok (.istore 19, 2) := by decide +kernel
theorem dL_law_656 : decode cL_law 656 = .ok (.iload 19, 2) := by decide +kernel
theorem dL_law_658 : decode cL_law 658 = .ok (.iconst 2, 1) := by decide +kernel
theorem dL_law_659 : decode cL_law 659 = .ok (.aload_n 2, 1) := by decide +kernel
theorem dL_law_660 : decode cL_law 660 = .ok (.iconst 5, 1) := by decide +kernel
theorem dL_law_661 : decode cL_law 661 = .ok (.iaload, 1) := by decide +kernel
theorem dL_law_662 : decode cL_law 662 = .ok (.imul, 1) := by decide +kernel
theorem dL_law_663 : decode cL_law 663 = .ok (.iconst 2, 1) := by decide +kernel
theorem dL_law_664 : decode cL_law 664 = .ok (.isub, 1) := by decide +kernel
theorem dL_law_665 : decode cL_law 665 = .ok (.if_icmp .ge 19, 3) := by decide +kernel
theorem dL_law_668 : decode cL_law 668 = .ok (.aload_n 3, 1) := by decide +kernel
theorem dL_law_669 : decode cL_law 669 = .ok (.iload 19, 2) := by decide +kernel
theorem dL_law_671 : decode cL_law 671 = .ok (.aload_n 3, 1) := by decide +kernel
theorem dL_law_672 : decode cL_law 672 = .ok (.iload 19, 2) := by decide +kernel
theorem dL_law_674 : decode cL_law 674 = .ok (.iconst 2, 1) := by decide +kernel
theorem dL_law_675 : decode cL_law 675 = .ok (.iadd, 1) := by decide +kernel
theorem dL_law_676 : decode cL_law 676 = .ok (.iaload, 1) := by decide +kernel
theorem dL_law_677 : decode cL_law 677 = .ok (.iastore, 1) := by decide +kernel
theorem dL_law_678 : decode cL_law 678 = .ok (.iinc 19 1, 3) := by decide +kernel
theorem dL_law_681 : decode cL_law 681 = .ok (.goto (-25), 3) := by decide +kernel
theorem dL_law_684 : decode cL_law 684 = .ok (.aload_n 2, 1) := by decide +kernel
theorem dL_law_685 : decode cL_law 685 = .ok (.iconst 5, 1) := by decide +kernel
theorem dL_law_686 : decode cL_law 686 = .ok (.dup2, 1) := by decide +kernel
theorem dL_law_687 : decode cL_law 687 = .ok (.iaload, 1) := by decide +kernel
theorem dL_law_688 : decode cL_law 688 = .ok (.iload 18, 2) := by decide +kernel
theorem dL_law_690 : decode cL_law 690 = .ok (.ifCond .eq 7, 3) := by decide +kernel
theorem dL_law_693 : decode cL_law 693 = .ok (.iconst 1, 1) := by decide +kernel
theorem dL_law_694 : decode cL_law 694 = .ok (.goto 4, 3) := by decide +kernel
theorem dL_law_697 : decode cL_law 697 = .ok (.iconst 0, 1) := by decide +kernel
theorem dL_law_698 : decode cL_law 698 = .ok (.isub, 1) := by decide +kernel
theorem dL_law_699 : decode cL_law 699 = .ok (.iastore, 1) := by decide +kernel
theorem dL_law_700 : decode cL_law 700 = .ok (.aload_n 1, 1) := by decide +kernel
theorem dL_law_701 : decode cL_law 701 = .ok (.iload 17, 2) := by decide +kernel
theorem dL_law_703 : decode cL_law 703 = .ok (.invokevirtual 80, 3) := by decide +kernel
theorem dL_law_706 : decode cL_law 706 = .ok (.iload 18, 2) := by decide +kernel
theorem dL_law_708 : decode cL_law 708 = .ok (.ifCond .eq 9, 3) := by decide +kernel
theorem dL_law_711 : decode cL_law 711 = .ok (.aload_n 2, 1) := by decide +kernel
theorem dL_law_712 : decode cL_law 712 = .ok (.iconst 5, 1) := by decide +kernel
theorem dL_law_713 : decode cL_law 713 = .ok (.iaload, 1) := by decide +kernel
theorem dL_law_714 : decode cL_law 714 = .ok (.goto 4, 3) := by decide +kernel
theorem dL_law_717 : decode cL_law 717 = .ok (.iconst (-1), 1) := by decide +kernel
theorem dL_law_718 : decode cL_law 718 = .ok (.if_icmp .eq 5, 3) := by decide +kernel
theorem dL_law_721 : decode cL_law 721 = .ok (.iconst 0, 1) := by decide +kernel
theorem dL_law_722 : decode cL_law 722 = .ok (.ireturn, 1) := by decide +kernel
theorem dL_law_723 : decode cL_law 723 = .ok (.iload 18, 2) := by decide +kernel
theorem dL_law_725 : decode cL_law 725 = .ok (.istore 16, 2) := by decide +kernel
theorem dL_law_727 : decode cL_law 727 = .ok (.goto 519, 3) := by decide +kernel
theorem dL_law_730 : decode cL_law 730 = .ok (.iload 12, 2) := by decide +kernel
theorem dL_law_732 : decode cL_law 732 = .ok (.bipush 10, 2) := by decide +kernel
theorem dL_law_734 : decode cL_law 734 = .ok (.if_icmp .ge 79, 3) := by decide +kernel
theorem dL_law_737 : decode cL_law 737 = .ok (.iconst 1, 1) := by decide +kernel
theorem dL_law_738 : decode cL_law 738 = .ok (.iload 11, 2) := by decide +kernel
theorem dL_law_740 : decode cL_law 740 = .ok (.bipush 12, 2) := by decide +kernel
theorem dL_law_742 : decode cL_law 742 = .ok (.invokestatic 65, 3) := by decide +kernel
theorem dL_law_745 : decode cL_law 745 = .ok (.iadd, 1) := by decide +kernel
theorem dL_law_746 : decode cL_law 746 = .ok (.istore 17, 2) := by decide +kernel
theorem dL_law_748 : decode cL_law 748 = .ok (.aload_n 2, 1) := by decide +kernel
theorem dL_law_749 : decode cL_law 749 = .ok (.iconst 4, 1) := by decide +kernel
theorem dL_law_750 : decode cL_law 750 = .ok (.iaload, 1) := by decide +kernel
theorem dL_law_751 : decode cL_law 751 = .ok (.iload 17, 2) := by decide +kernel
theorem dL_law_753 : decode cL_law 753 = .ok (.iadd, 1) := by decide +kernel
theorem dL_law_754 : decode cL_law 754 = .ok (.bipush 100, 2) := by decide +kernel
theorem dL_law_756 : decode cL_law 756 = .ok (.if_icmp .gt 7, 3) := by decide +kernel
theorem dL_law_759 : decode cL_law 759 = .ok (.iconst 1, 1) := by decide +kernel
theorem dL_law_760 : decode cL_law 760 = .ok (.goto 4, 3) := by decide +kernel
theorem dL_law_763 : decode cL_law 763 = .ok (.iconst 0, 1) := by decide +kernel
theorem dL_law_764 : decode cL_law 764 = .ok (.istore 18, 2) := by decide +kernel
theorem dL_law_766 : decode cL_law 766 = .ok (.aload_n 1, 1) := by decide +kernel
theorem dL_law_767 : decode cL_law 767 = .ok (.iload 17, 2) := by decide +kernel
theorem dL_law_769 : decode cL_law 769 = .ok (.invokevirtual 83, 3) := by decide +kernel
theorem dL_law_772 : decode cL_law 772 = .ok (.iload 18, 2) := by decide +kernel
theorem dL_law_774 : decode cL_law 774 = .ok (.ifCond .eq 12, 3) := by decide +kernel
theorem dL_law_777 : decode cL_law 777 = .ok (.aload_n 2, 1) := by decide +kernel
theorem dL_law_778 : decode cL_law 778 = .ok (.iconst 4, 1) := by decide +kernel
theorem dL_law_779 : decode cL_law 779 = .ok (.iaload, 1) := by decide +kernel
theorem dL_law_780 : decode cL_law 780 = .ok (.iload 17, 2) := by decide +kernel
theorem dL_law_782 : decode cL_law 782 = .ok (.iadd, 1) := by decide +kernel
theorem dL_law_783 : decode cL_law 783 = .ok (.goto 5, 3) := by decide +kernel
theorem dL_law_786 : decode cL_law 786 = .ok (.bipush (-5), 2) := by decide +kernel
theorem dL_law_788 : decode cL_law 788 = .ok (.if_icmp .eq 5, 3) := by decide +kernel
theorem dL_law_791 : decode cL_law 791 = .ok (.iconst 0, 1) := by decide +kernel
theorem dL_law_792 : decode cL_law 792 = .ok (.ireturn, 1) := by decide +kernel
theorem dL_law_793 : decode cL_law 793 = .ok (.aload_n 2, 1) := by decide +kernel
theorem dL_law_794 : decode cL_law 794 = .ok (.iconst 4, 1) := by decide +kernel
theorem dL_law_795 : decode cL_law 795 = .ok (.dup2, 1) := by decide +kernel
theorem dL_law_796 : decode cL_law 796 = .ok (.iaload, 1) := by decide +kernel
theorem dL_law_797 : decode cL_law 797 = .ok (.iload 18, 2) := by decide +kernel
theorem dL_law_799 : decode cL_law 799 = .ok (.ifCond .eq 8, 3) := by decide +kernel
theorem dL_law_802 : decode cL_law 802 = .ok (.iload 17, 2) := by decide +kernel
theorem dL_law_804 : decode cL_law 804 = .ok (.goto 4, 3) := by decide +kernel
theorem dL_law_807 : decode cL_law 807 = .ok (.iconst 0, 1) := by decide +kernel
theorem dL_law_808 : decode cL_law 808 = .ok (.iadd, 1) := by decide +kernel
theorem dL_law_809 : decode cL_law 809 = .ok (.iastore, 1) := by decide +kernel
theorem dL_law_810 : decode cL_law 810 = .ok (.goto 436, 3) := by decide +kernel
theorem dL_law_813 : decode cL_law 813 = .ok (.iload 12, 2) := by decide +kernel
theorem dL_law_815 : decode cL_law 815 = .ok (.bipush 13, 2) := by decide +kernel
theorem dL_law_817 : decode cL_law 817 = .ok (.if_icmp .ge 243, 3) := by decide +kernel
theorem dL_law_820 : decode cL_law 820 = .ok (.aload_n 1, 1) := by decide +kernel
theorem dL_law_821 : decode cL_law 821 = .ok (.iload 13, 2) := by decide +kernel
theorem dL_law_823 : decode cL_law 823 = .ok (.iload 14, 2) := by decide +kernel
theorem dL_law_825 : decode cL_law 825 = .ok (.iconst 2, 1) := by decide +kernel
theorem dL_law_826 : decode cL_law 826 = .ok (.invokevirtual 33, 3) := by decide +kernel
theorem dL_law_829 : decode cL_law 829 = .ok (.istore 17, 2) := by decide +kernel
theorem dL_law_831 : decode cL_law 831 = .ok (.aload_n 1, 1) := by decide +kernel
theorem dL_law_832 : decode cL_law 832 = .ok (.iload 13, 2) := by decide +kernel
theorem dL_law_834 : decode cL_law 834 = .ok (.iload 14, 2) := by decide +kernel
theorem dL_law_836 : decode cL_law 836 = .ok (.invokevirtual 86, 3) := by decide +kernel
theorem dL_law_839 : decode cL_law 839 = .ok (.aload_n 2, 1) := by decide +kernel
theorem dL_law_840 : decode cL_law 840 = .ok (.bipush 6, 2) := by decide +kernel
theorem dL_law_842 : decode cL_law 842 = .ok (.iaload, 1) := by decide +kernel
theorem dL_law_843 : decode cL_law 843 = .ok (.bipush 8, 2) := by decide +kernel
theorem dL_law_845 : decode cL_law 845 = .ok (.if_icmp .ne 8, 3) := by decide +kernel
theorem dL_law_848 : decode cL_law 848 = .ok (.bipush (-4), 2) := by decide +kernel
theorem dL_law_850 : decode cL_law 850 = .ok (.goto 5, 3) := by decide +kernel
theorem dL_law_853 : decode cL_law 853 = .ok (.iload 17, 2) := by decide +kernel
theorem dL_law_855 : decode cL_law 855 = .ok (.if_icmp .eq 5, 3) := by decide +kernel
theorem dL_law_858 : decode cL_law 858 = .ok (.iconst 0, 1) := by decide +kernel
theorem dL_law_859 : decode cL_law 859 = .ok (.ireturn, 1) := by decide +kernel
theorem dL_law_860 : decode cL_law 860 = .ok (.aload_n 2, 1) := by decide +kernel
theorem dL_law_861 : decode cL_law 861 = .ok (.bipush 6, 2) := by decide +kernel
theorem dL_law_863 : decode cL_law 863 = .ok (.iaload, 1) := by decide +kernel
theorem dL_law_864 : decode cL_law 864 = .ok (.bipush 8, 2) := by decide +kernel
theorem dL_law_866 : decode cL_law 866 = .ok (.if_icmp .ge 191, 3) := by decide +kernel
theorem dL_law_869 : decode cL_law 869 = .ok (.aload 4, 2) := by decide +kernel
theorem dL_law_871 : decode cL_law 871 = .ok (.iconst 3, 1) := by decide +kernel
theorem dL_law_872 : decode cL_law 872 = .ok (.aload_n 2, 1) := by decide +kernel
theorem dL_law_873 : decode cL_law 873 = .ok (.bipush 6, 2) := by decide +kernel
theorem dL_law_875 : decode cL_law 875 = .ok (.iaload, 1) := by decide +kernel
theorem dL_law_876 : decode cL_law 876 = .ok (.imul, 1) := by decide +kernel
theorem dL_law_877 : decode cL_law 877 = .ok (.iload 15, 2) := by decide +kernel
theorem dL_law_879 : decode cL_law 879 = .ok (.iastore, 1) := by decide +kernel
theorem dL_law_880 : decode cL_law 880 = .ok (.aload 4, 2) := by decide +kernel
theorem dL_law_882 : decode cL_law 882 = .ok (.iconst 3, 1) := by decide +kernel
theorem dL_law_883 : decode cL_law 883 = .ok (.aload_n 2, 1) := by decide +kernel
theorem dL_law_884 : decode cL_law 884 = .ok (.bipush 6, 2) := by decide +kernel
theorem dL_law_886 : decode cL_law 886 = .ok (.iaload, 1) := by decide +kernel
theorem dL_law_887 : decode cL_law 887 = .ok (.imul, 1) := by decide +kernel
theorem dL_law_888 : decode cL_law 888 = .ok (.iconst 1, 1) := by decide +kernel
theorem dL_law_889 : decode cL_law 889 = .ok (.iadd, 1) := by decide +kernel
theorem dL_law_890 : decode cL_law 890 = .ok (.iload 17, 2) := by decide +kernel
theorem dL_law_892 : decode cL_law 892 = .ok (.iastore, 1) := by decide +kernel
theorem dL_law_893 : decode cL_law 893 = .ok (.aload 4, 2) := by decide +kernel
theorem dL_law_895 : decode cL_law 895 = .ok (.iconst 3, 1) := by decide +kernel
theorem dL_law_896 : decode cL_law 896 = .ok (.aload_n 2, 1) := by decide +kernel
theorem dL_law_897 : decode cL_law 897 = .ok (.bipush 6, 2) := by decide +kernel
theorem dL_law_899 : decode cL_law 899 = .ok (.iaload, 1) := by decide +kernel
theorem dL_law_900 : decode cL_law 900 = .ok (.imul, 1) := by decide +kernel
theorem dL_law_901 : decode cL_law 901 = .ok (.iconst 2, 1) := by decide +kernel
theorem dL_law_902 : decode cL_law 902 = .ok (.iadd, 1) := by decide +kernel
theorem dL_law_903 : decode cL_law 903 = .ok (.aload_n 2, 1) := by decide +kernel
theorem dL_law_904 : decode cL_law 904 = .ok (.iconst 4, 1) := by decide +kernel
theorem dL_law_905 : decode cL_law 905 = .ok (.iaload, 1) := by decide +kernel
theorem dL_law_906 : decode cL_law 906 = .ok (.iastore, 1) := by decide +kernel
theorem dL_law_907 : decode cL_law 907 = .ok (.aload_n 2, 1) := by decide +kernel
theorem dL_law_908 : decode cL_law 908 = .ok (.bipush 6, 2) := by decide +kernel
theorem dL_law_910 : decode cL_law 910 = .ok (.dup2, 1) := by decide +kernel
theorem dL_law_911 : decode cL_law 911 = .ok (.iaload, 1) := by decide +kernel
theorem dL_law_912 : decode cL_law 912 = .ok (.iconst 1, 1) := by decide +kernel
theorem dL_law_913 : decode cL_law 913 = .ok (.iadd, 1) := by decide +kernel
theorem dL_law_914 : decode cL_law 914 = .ok (.iastore, 1) := by decide +kernel
theorem dL_law_915 : decode cL_law 915 = .ok (.iconst 0, 1) := by decide +kernel
theorem dL_law_916 : decode cL_law 916 = .ok (.istore 18, 2) := by decide +kernel
theorem dL_law_918 : decode cL_law 918 = .ok (.iload 18, 2) := by decide +kernel
theorem dL_law_920 : decode cL_law 920 = .ok (.bipush 64, 2) := by decide +kernel
theorem dL_law_922 : decode cL_law 922 = .ok (.if_icmp .ge 135, 3) := by decide +kernel
theorem dL_law_925 : decode cL_law 925 = .ok (.iload 18, 2) := by decide +kernel
theorem dL_law_927 : decode cL_law 927 = .ok (.aload 5, 2) := by decide +kernel
theorem dL_law_929 : decode cL_law 929 = .ok (.aload 6, 2) := by decide +kernel
theorem dL_law_931 : decode cL_law 931 = .ok (.invokestatic 29, 3) := by decide +kernel
theorem dL_law_934 : decode cL_law 934 = .ok (.ifCond .ne 6, 3) := by decide +kernel
theorem dL_law_937 : decode cL_law 937 = .ok (.goto 114, 3) := by decide +kernel
theorem dL_law_940 : decode cL_law 940 = .ok (.aload_n 1, 1) := by decide +kernel
theorem dL_law_941 : decode cL_law 941 = .ok (.iload 13, 2) := by decide +kernel
theorem dL_law_943 : decode cL_law 943 = .ok (.iload 14, 2) := by decide +kernel
theorem dL_law_945 : decode cL_law 945 = .ok (.iload 18, 2) := by decide +kernel
theorem dL_law_947 : decode cL_law 947 = .ok (.bipush 8, 2) := by decide +kernel
theorem dL_law_949 : decode cL_law 949 = .ok (.idiv, 1) := by decide +kernel
theorem dL_law_950 : decode cL_law 950 = .ok (.iload 18, 2) := by decide +kernel
theorem dL_law_952 : decode cL_law 952 = .ok (.bipush 8, 2) := by decide +kernel
theorem dL_law_954 : decode cL_law 954 = .ok (.irem, 1) := by decide +kernel
theorem dL_law_955 : decode cL_law 955 = .ok (.invokevirtual 89, 3) := by decide +kernel
theorem dL_law_958 : decode cL_law 958 = .ok (.iload 17, 2) := by decide +kernel
theorem dL_law_960 : decode cL_law 960 = .ok (.isub, 1) := by decide +kernel
theorem dL_law_961 : decode cL_law 961 = .ok (.istore 19, 2) := by decide +kernel
theorem dL_law_963 : decode cL_law 963 = .ok (.iload 19, 2) := by decide +kernel
theorem dL_law_965 : decode cL_law 965 = .ok (.aload_n 2, 1) := by decide +kernel
theorem dL_law_966 : decode cL_law 966 = .ok (.iconst 3, 1) := by decide +kernel
theorem dL_law_967 : decode cL_law 967 = .ok (.iaload, 1) := by decide +kernel
theorem dL_law_968 : decode cL_law 968 = .ok (.if_icmp .gt 12, 3) := by decide +kernel
theorem dL_law_971 : decode cL_law 971 = .ok (.iload 19, 2) := by decide +kernel
theorem dL_law_973 : decode cL_law 973 = .ok (.ineg, 1) := by decide +kernel
theorem dL_law_974 : decode cL_law 974 = .ok (.aload_n 2, 1) := by decide +kernel
theorem dL_law_975 : decode cL_law 975 = .ok (.iconst 3, 1) := by decide +kernel
theorem dL_law_976 : decode cL_law 976 = .ok (.iaload, 1) := by decide +kernel
theorem dL_law_977 : decode cL_law 977 = .ok (.if_icmp .le 16, 3) := by decide +kernel
theorem dL_law_980 : decode cL_law 980 = .ok (.lload 7, 2) := by decide +kernel
theorem dL_law_982 : decode cL_law 982 = .ok (.lconst 1, 1) := by decide +kernel
theorem dL_law_983 : decode cL_law 983 = .ok (.iload 18, 2) := by decide +kernel
theorem dL_law_985 : decode cL_law 985 = .ok (.lshl, 1) := by decide +kernel
theorem dL_law_986 : decode cL_law 986 = .ok (.ldc2_w 59, 3) := by decide +kernel
theorem dL_law_989 : decode cL_law 989 = .ok (.lxor, 1) := by decide +kernel
theorem dL_law_990 : decode cL_law 990 = .ok (.land, 1) := by decide +kernel
theorem dL_law_991 : decode cL_law 991 = .ok (.lstore 7, 2) := by decide +kernel
theorem dL_law_993 : decode cL_law 993 = .ok (.aload_n 2, 1) := by decide +kernel
theorem dL_law_994 : decode cL_law 994 = .ok (.aload_n 3, 1) := by decide +kernel
theorem dL_law_995 : decode cL_law 995 = .ok (.aload 5, 2) := by decide +kernel
theorem dL_law_997 : decode cL_law 997 = .ok (.aload 6, 2) := by decide +kernel
theorem dL_law_999 : decode cL_law 999 = .ok (.invokestatic 25, 3) := by decide +kernel
theorem dL_law_1002 : decode cL_law 1002 = .ok (.iconst 1, 1) := by decide +kernel
theorem dL_law_1003 : decode cL_law 1003 = .ok (.if_icmp .eq 6, 3) := by decide +kernel
theorem dL_law_1006 : decode cL_law 1006 = .ok (.goto 45, 3) := by decide +kernel
theorem dL_law_1009 : decode cL_law 1009 = .ok (.iload 18, 2) := by decide +kernel
theorem dL_law_1011 : decode cL_law 1011 = .ok (.aload_n 2, 1) := by decide +kernel
theorem dL_law_1012 : decode cL_law 1012 = .ok (.aload_n 3, 1) := by decide +kernel
theorem dL_law_1013 : decode cL_law 1013 = .ok (.invokestatic 37, 3) := by decide +kernel
theorem dL_law_1016 : decode cL_law 1016 = .ok (.istore 20, 2) := by decide +kernel
theorem dL_law_1018 : decode cL_law 1018 = .ok (.iload 20, 2) := by decide +kernel
theorem dL_law_1020 : decode cL_law 1020 = .ok (.ifCond .lt 31, 3) := by decide +kernel
theorem dL_law_1023 : decode cL_law 1023 = .ok (.aload 5, 2) := by decide +kernel
theorem dL_law_1025 : decode cL_law 1025 = .ok (.iload 18, 2) := by decide +kernel
theorem dL_law_1027 : decode cL_law 1027 = .ok (.iaload, 1) := by decide +kernel
theorem dL_law_1028 : decode cL_law 1028 = .ok (.aload_n 3, 1) := by decide +kernel
theorem dL_law_1029 : decode cL_law 1029 = .ok (.iconst 2, 1) := by decide +kernel
theorem dL_law_1030 : decode cL_law 1030 = .ok (.iload 20, 2) := by decide +kernel
theorem dL_law_1032 : decode cL_law 1032 = .ok (.imul, 1) := by decide +kernel
theorem dL_law_1033 : decode cL_law 1033 = .ok (.iconst 1, 1) := by decide +kernel
theorem dL_law_1034 : decode cL_law 1034 = .ok (.iadd, 1) := by decide +kernel
theorem dL_law_1035 : decode cL_law 1035 = .ok (.iaload, 1) := by decide +kernel
theorem dL_law_1036 : decode cL_law 1036 = .ok (.aload 6, 2) := by decide +kernel
theorem dL_law_1038 : decode cL_law 1038 = .ok (.invokestatic 19, 3) := by decide +kernel
theorem dL_law_1041 : decode cL_law 1041 = .ok (.ifCond .eq 10, 3) := by decide +kernel
theorem dL_law_1044 : decode cL_law 1044 = .ok (.iload 19, 2) := by decide +kernel
theorem dL_law_1046 : decode cL_law 1046 = .ok (.ifCond .eq 5, 3) := by decide +kernel
theorem dL_law_1049 : decode cL_law 1049 = .ok (.iconst 0, 1) := by decide +kernel
theorem dL_law_1050 : decode cL_law 1050 = .ok (.ireturn, 1) := by decide +kernel
theorem dL_law_1051 : decode cL_law 1051 = .ok (.iinc 18 1, 3) := by decide +kernel
theorem dL_law_1054 : decode cL_law 1054 = .ok (.goto (-136), 3) := by decide +kernel
theorem dL_law_1057 : decode cL_law 1057 = .ok (.goto 189, 3) := by decide +kernel
theorem dL_law_1060 : decode cL_law 1060 = .ok (.iload 12, 2) := by decide +kernel
theorem dL_law_1062 : decode cL_law 1062 = .ok (.bipush 13, 2) := by decide +kernel
theorem dL_law_1064 : decode cL_law 1064 = .ok (.if_icmp .ne 167, 3) := by decide +kernel
theorem dL_law_1067 : decode cL_law 1067 = .ok (.iload 11, 2) := by decide +kernel
theorem dL_law_1069 : decode cL_law 1069 = .ok (.iconst 4, 1) := by decide +kernel
theorem dL_law_1070 : decode cL_law 1070 = .ok (.invokestatic 65, 3) := by decide +kernel
theorem dL_law_1073 : decode cL_law 1073 = .ok (.istore 17, 2) := by decide +kernel
theorem dL_law_1075 : decode cL_law 1075 = .ok (.iload 17, 2) := by decide +kernel
theorem dL_law_1077 : decode cL_law 1077 = .ok (.ifCond .ne 30, 3) := by decide +kernel
theorem dL_law_1080 : decode cL_law 1080 = .ok (.iload 11, 2) := by decide +kernel
theorem dL_law_1082 : decode cL_law 1082 = .ok (.iconst 3, 1) := by decide +kernel
theorem dL_law_1083 : decode cL_law 1083 = .ok (.ishr, 1) := by decide +kernel
theorem dL_law_1084 : decode cL_law 1084 = .ok (.iconst 3, 1) := by decide +kernel
theorem dL_law_1085 : decode cL_law 1085 = .ok (.invokestatic 65, 3) := by decide +kernel
theorem dL_law_1088 : decode cL_law 1088 = .ok (.ifCond .ne 7, 3) := by decide +kernel
theorem dL_law_1091 : decode cL_law 1091 = .ok (.iconst 0, 1) := by decide +kernel
theorem dL_law_1092 : decode cL_law 1092 = .ok (.goto 77, 3) := by decide +kernel
theorem dL_law_1095 : decode cL_law 1095 = .ok (.iload 11, 2) := by decide +kernel
theorem dL_law_1097 : decode cL_law 1097 = .ok (.iconst 5, 1) := by decide +kernel
theorem dL_law_1098 : decode cL_law 1098 = .ok (.ishr, 1) := by decide +kernel
theorem dL_law_1099 : decode cL_law 1099 = .ok (.bipush 25, 2) := by decide +kernel
theorem dL_law_1101 : decode cL_law 1101 = .ok (.invokestatic 65, 3) := by decide +kernel
theorem dL_law_1104 : decode cL_law 1104 = .ok (.goto 65, 3) := by decide +kernel
theorem dL_law_1107 : decode cL_law 1107 = .ok (.iload 17, 2) := by decide +kernel
theorem dL_law_1109 : decode cL_law 1109 = .ok (.iconst 1, 1) := by decide +kernel
theorem dL_law_1110 : decode cL_law 1110 = .ok (.if_icmp .ne 30, 3) := by decide +kernel
theorem dL_law_1113 : decode cL_law 1113 = .ok (.iload 11, 2) := by decide +kernel
theorem dL_law_1115 : decode cL_law 1115 = .ok (.iconst 3, 1) := by decide +kernel
theorem dL_law_1116 : decode cL_law 1116 = .ok (.ishr, 1) := by decide +kernel
theorem dL_law_1117 : decode cL_law 1117 = .ok (.iconst 3, 1) := by decide +kernel
theorem dL_law_1118 : decode cL_law 1118 = .ok (.invokestatic 65, 3) := by decide +kernel
theorem dL_law_1121 : decode cL_law 1121 = .ok (.ifCond .ne 7, 3) := by decide +kernel
theorem dL_law_1124 : decode cL_law 1124 = .ok (.iconst 0, 1) := by decide +kernel
theorem dL_law_1125 : decode cL_law 1125 = .ok (.goto 44, 3) := by decide +kernel
theorem dL_law_1128 : decode cL_law 1128 = .ok (.iload 11, 2) := by decide +kernel
theorem dL_law_1130 : decode cL_law 1130 = .ok (.iconst 5, 1) := by decide +kernel
theorem dL_law_1131 : decode cL_law 1131 = .ok (.ishr, 1) := by decide +kernel
theorem dL_law_1132 : decode cL_law 1132 = .ok (.bipush 51, 2) := by decide +kernel
theorem dL_law_1134 : decode cL_law 1134 = .ok (.invokestatic 65, 3) := by decide +kernel
theorem dL_law_1137 : decode cL_law 1137 = .ok (.goto 32, 3) := by decide +kernel
theorem dL_law_1140 : decode cL_law 1140 = .ok (.iload 17, 2) := by decide +kernel
theorem dL_law_1142 : decode cL_law 1142 = .ok (.iconst 2, 1) := by decide +kernel
theorem dL_law_1143 : decode cL_law 1143 = .ok (.if_icmp .ne 17, 3) := by decide +kernel
theorem dL_law_1146 : decode cL_law 1146 = .ok (.iconst 1, 1) := by decide +kernel
theorem dL_law_1147 : decode cL_law 1147 = .ok (.iload 11, 2) := by decide +kernel
theorem dL_law_1149 : decode cL_law 1149 = .ok (.iconst 5, 1) := by decide +kernel
theorem dL_law_1150 : decode cL_law 1150 = .ok (.ishr, 1) := by decide +kernel
theorem dL_law_1151 : decode cL_law 1151 = .ok (.bipush 99, 2) := by decide +kernel
theorem dL_law_1153 : decode cL_law 1153 = .ok (.invokestatic 65, 3) := by decide +kernel
theorem dL_law_1156 : decode cL_law 1156 = .ok (.iadd, 1) := by decide +kernel
theorem dL_law_1157 : decode cL_law 1157 = .ok (.goto 12, 3) := by decide +kernel
theorem dL_law_1160 : decode cL_law 1160 = .ok (.iload 11, 2) := by decide +kernel
theorem dL_law_1162 : decode cL_law 1162 = .ok (.iconst 5, 1) := by decide +kernel
theorem dL_law_1163 : decode cL_law 1163 = .ok (.ishr, 1) := by decide +kernel
theorem dL_law_1164 : decode cL_law 1164 = .ok (.bipush 20, 2) := by decide +kernel
theorem dL_law_1166 : decode cL_law 1166 = .ok (.invokestatic 65, 3) := by decide +kernel
theorem dL_law_1169 : decode cL_law 1169 = .ok (.istore 18, 2) := by decide +kernel
theorem dL_law_1171 : decode cL_law 1171 = .ok (.aload_n 1, 1) := by decide +kernel
theorem dL_law_1172 : decode cL_law 1172 = .ok (.iload 17, 2) := by decide +kernel
theorem dL_law_1174 : decode cL_law 1174 = .ok (.iload 18, 2) := by decide +kernel
theorem dL_law_1176 : decode cL_law 1176 = .ok (.invokevirtual 93, 3) := by decide +kernel
theorem dL_law_1179 : decode cL_law 1179 = .ok (.aload_n 2, 1) := by decide +kernel
theorem dL_law_1180 : decode cL_law 1180 = .ok (.iload 17, 2) := by decide +kernel
theorem dL_law_1182 : decode cL_law 1182 = .ok (.iaload, 1) := by decide +kernel
theorem dL_law_1183 : decode cL_law 1183 = .ok (.if_icmp .eq 5, 3) := by decide +kernel
theorem dL_law_1186 : decode cL_law 1186 = .ok (.iconst 0, 1) := by decide +kernel
theorem dL_law_1187 : decode cL_law 1187 = .ok (.ireturn, 1) := by decide +kernel
theorem dL_law_1188 : decode cL_law 1188 = .ok (.aload_n 2, 1) := by decide +kernel
theorem dL_law_1189 : decode cL_law 1189 = .ok (.iload 17, 2) := by decide +kernel
theorem dL_law_1191 : decode cL_law 1191 = .ok (.iload 18, 2) := by decide +kernel
theorem dL_law_1193 : decode cL_law 1193 = .ok (.iastore, 1) := by decide +kernel
theorem dL_law_1194 : decode cL_law 1194 = .ok (.iload 17, 2) := by decide +kernel
theorem dL_law_1196 : decode cL_law 1196 = .ok (.iconst 3, 1) := by decide +kernel
theorem dL_law_1197 : decode cL_law 1197 = .ok (.if_icmp .ge 7, 3) := by decide +kernel
theorem dL_law_1200 : decode cL_law 1200 = .ok (.iconst 1, 1) := by decide +kernel
theorem dL_law_1201 : decode cL_law 1201 = .ok (.goto 4, 3) := by decide +kernel
theorem dL_law_1204 : decode cL_law 1204 = .ok (.iconst 0, 1) := by decide +kernel
theorem dL_law_1205 : decode cL_law 1205 = .ok (.istore 16, 2) := by decide +kernel
theorem dL_law_1207 : decode cL_law 1207 = .ok (.iload 17, 2) := by decide +kernel
theorem dL_law_1209 : decode cL_law 1209 = .ok (.iconst 3, 1) := by decide +kernel
theorem dL_law_1210 : decode cL_law 1210 = .ok (.if_icmp .ne 18, 3) := by decide +kernel
theorem dL_law_1213 : decode cL_law 1213 = .ok (.aload_n 1, 1) := by decide +kernel
theorem dL_law_1214 : decode cL_law 1214 = .ok (.invokevirtual 96, 3) := by decide +kernel
theorem dL_law_1217 : decode cL_law 1217 = .ok (.aload_n 2, 1) := by decide +kernel
theorem dL_law_1218 : decode cL_law 1218 = .ok (.iconst 4, 1) := by decide +kernel
theorem dL_law_1219 : decode cL_law 1219 = .ok (.iaload, 1) := by decide +kernel
theorem dL_law_1220 : decode cL_law 1220 = .ok (.if_icmp .eq 5, 3) := by decide +kernel
theorem dL_law_1223 : decode cL_law 1223 = .ok (.iconst 0, 1) := by decide +kernel
theorem dL_law_1224 : decode cL_law 1224 = .ok (.ireturn, 1) := by decide +kernel
theorem dL_law_1225 : decode cL_law 1225 = .ok (.iconst 1, 1) := by decide +kernel
theorem dL_law_1226 : decode cL_law 1226 = .ok (.istore 16, 2) := by decide +kernel
theorem dL_law_1228 : decode cL_law 1228 = .ok (.goto 18, 3) := by decide +kernel
theorem dL_law_1231 : decode cL_law 1231 = .ok (.aload_n 1, 1) := by decide +kernel
theorem dL_law_1232 : decode cL_law 1232 = .ok (.invokevirtual 96, 3) := by decide +kernel
theorem dL_law_1235 : decode cL_law 1235 = .ok (.aload_n 2, 1) := by decide +kernel
theorem dL_law_1236 : decode cL_law 1236 = .ok (.iconst 4, 1) := by decide +kernel
theorem dL_law_1237 : decode cL_law 1237 = .ok (.iaload, 1) := by decide +kernel
theorem dL_law_1238 : decode cL_law 1238 = .ok (.if_icmp .eq 5, 3) := by decide +kernel
theorem dL_law_1241 : decode cL_law 1241 = .ok (.iconst 0, 1) := by decide +kernel
theorem dL_law_1242 : decode cL_law 1242 = .ok (.ireturn, 1) := by decide +kernel
theorem dL_law_1243 : decode cL_law 1243 = .ok (.iconst 1, 1) := by decide +kernel
theorem dL_law_1244 : decode cL_law 1244 = .ok (.istore 16, 2) := by decide +kernel
theorem dL_law_1246 : decode cL_law 1246 = .ok (.iload 16, 2) := by decide +kernel
theorem dL_law_1248 : decode cL_law 1248 = .ok (.ifCond .eq 17, 3) := by decide +kernel
theorem dL_law_1251 : decode cL_law 1251 = .ok (.aload_n 2, 1) := by decide +kernel
theorem dL_law_1252 : decode cL_law 1252 = .ok (.iconst 4, 1) := by decide +kernel
theorem dL_law_1253 : decode cL_law 1253 = .ok (.iconst 0, 1) := by decide +kernel
theorem dL_law_1254 : decode cL_law 1254 = .ok (.iastore, 1) := by decide +kernel
theorem dL_law_1255 : decode cL_law 1255 = .ok (.aload_n 2, 1) := by decide +kernel
theorem dL_law_1256 : decode cL_law 1256 = .ok (.bipush 6, 2) := by decide +kernel
theorem dL_law_1258 : decode cL_law 1258 = .ok (.iconst 0, 1) := by decide +kernel
theorem dL_law_1259 : decode cL_law 1259 = .ok (.iastore, 1) := by decide +kernel
theorem dL_law_1260 : decode cL_law 1260 = .ok (.ldc2_w 59, 3) := by decide +kernel
theorem dL_law_1263 : decode cL_law 1263 = .ok (.lstore 7, 2) := by decide +kernel
theorem dL_law_1265 : decode cL_law 1265 = .ok (.aload_n 1, 1) := by decide +kernel
theorem dL_law_1266 : decode cL_law 1266 = .ok (.lload 7, 2) := by decide +kernel
theorem dL_law_1268 : decode cL_law 1268 = .ok (.aload_n 2, 1) := by decide +kernel
theorem dL_law_1269 : decode cL_law 1269 = .ok (.aload_n 3, 1) := by decide +kernel
theorem dL_law_1270 : decode cL_law 1270 = .ok (.aload 4, 2) := by decide +kernel
theorem dL_law_1272 : decode cL_law 1272 = .ok (.aload 5, 2) := by decide +kernel
theorem dL_law_1274 : decode cL_law 1274 = .ok (.aload 6, 2) := by decide +kernel
theorem dL_law_1276 : decode cL_law 1276 = .ok (.invokestatic 100, 3) := by decide +kernel
theorem dL_law_1279 : decode cL_law 1279 = .ok (.ifCond .ne 5, 3) := by decide +kernel
theorem dL_law_1282 : decode cL_law 1282 = .ok (.iconst 0, 1) := by decide +kernel
theorem dL_law_1283 : decode cL_law 1283 = .ok (.ireturn, 1) := by decide +kernel
theorem dL_law_1284 : decode cL_law 1284 = .ok (.iinc 9 1, 3) := by decide +kernel
theorem dL_law_1287 : decode cL_law 1287 = .ok (.goto (-1225), 3) := by decide +kernel
theorem dL_law_1290 : decode cL_law 1290 = .ok (.iconst 1, 1) := by decide +kernel
theorem dL_law_1291 : decode cL_law 1291 = .ok (.ireturn, 1) := by decide +kernel
abbrev vwCl : List vw_C := [(RX0, TX0, 13), (RX1, TX1, 3), (RX2, TX2, 2), (RX3, TX3, 2), (RX4, TX4, 2), (RX5, TX5, 7)]
end
section
/-! THE STATE of both systems, by object number and slot. Objects: 0..6 the past's boards, 7 the board, 8 ahead, 9 and 10 the slots' boards, 11 the class, 12 suspicion, 13 lone, 14 past, 15 pad, 16 the rows of the law (settings with steps, touches, readings; touches; readings; nets; pairs; 5: the row of a comparison). Parts: I ints of arrays, F floats of arrays, S int fields, the past's order, which rows of lone are made. -/
abbrev wx_St : Type := (Nat → Nat → Nat → Int32) × (Nat → Nat → Nat → UInt32) × (Nat → Nat → Int32) × (Nat → Nat) × (Nat → Bool)
def wx_sI (σ : wx_St) (o k i : Nat) (x : Int32) : wx_St := (fun a b c => if a = o ∧ b = k ∧ c = i then x else σ.1 a b c, σ.2.1, σ.2.2.1, σ.2.2.2.1, σ.2.2.2.2)
def wx_sF (σ : wx_St) (o k i : Nat) (x : UInt32) : wx_St := (σ.1, fun a b c => if a = o ∧ b = k ∧ c = i then x else σ.2.1 a b c, σ.2.2.1, σ.2.2.2.1, σ.2.2.2.2)
def wx_sS (σ : wx_St) (o j : Nat) (x : Int32) : wx_St := (σ.1, σ.2.1, fun a b => if a = o ∧ b = j then x else σ.2.2.1 a b, σ.2.2.2.1, σ.2.2.2.2)
def wx_sR (σ : wx_St) (i b : Nat) : wx_St := (σ.1, σ.2.1, σ.2.2.1, fun j => if j = i then b else σ.2.2.2.1 j, σ.2.2.2.2)
/-- n ints copied from (o, k) at p to (o', k') at p' -/
def wx_cI (σ : wx_St) (o k p o' k' p' n : Nat) : wx_St := (fun a b c => if a = o' ∧ b = k' then va_cpy (σ.1 o k) (σ.1 o' k') p p' n c else σ.1 a b c, σ.2.1, σ.2.2.1, σ.2.2.2.1, σ.2.2.2.2)
def wx_cF (σ : wx_St) (o k p o' k' p' n : Nat) : wx_St := (σ.1, fun a b c => if a = o' ∧ b = k' then va_cpy (σ.2.1 o k) (σ.2.1 o' k') p p' n c else σ.2.1 a b c, σ.2.2.1, σ.2.2.2.1, σ.2.2.2.2)
/-- row j of lone is made, with zeros -/
def wx_sA (σ : wx_St) (j : Nat) : wx_St := (σ.1, fun a b c => if a = 13 ∧ b = 100 + j then 0 else σ.2.1 a b c, σ.2.2.1, σ.2.2.2.1, fun i => if i = j then true else σ.2.2.2.2 i)
/-- a board's parts: kind 1 ints, 2 floats, 3 booleans, 4 boards, 5 an object of that class, 6 rows of floats -/
def wx_sb (k : Nat) : Nat × Nat :=
  if k = 0 then (1, 4) else if k = 1 then (1, 64) else if k = 2 then (1, 8) else if k = 4 then (1, 3) else if k = 5 then (1, 3) else if k = 7 then (2, 64) else if k = 8 then (2, 64) else if k = 10 then (1, 8) else if k = 11 then (1, 8) else if k = 12 then (1, 8) else if k = 99 then (5, 0) else (0, 0)
def wx_sm (k : Nat) : Nat × Nat :=
  if k = 0 then (1, 7) else if k = 1 then (1, 6) else if k = 2 then (1, 24) else if k = 3 then (1, 64) else if k = 4 then (1, 8) else (0, 0)
def wx_sx (o k : Nat) : Nat × Nat :=
  if o = 16 then wx_sm k
  else if o = 11 then (if k = 5 then (4, 2) else if k = 6 then (3, 2) else if k = 99 then (5, 5) else (0, 0))
  else if o = 12 then (if k = 1 then (1, 64) else if k = 99 then (5, 4) else (0, 0))
  else if o = 13 then (if k = 0 then (1, 4) else if k = 1 then (6, 64) else if k = 2 then (1, 64) else if k = 99 then (5, 1) else (0, 0))
  else if o = 14 then (if k = 0 then (4, 7) else if k = 99 then (5, 3) else (0, 0))
  else if o = 15 then (if k = 0 then (1, 80) else if k = 99 then (5, 2) else (0, 0))
  else (0, 0)
def wx_sh (al : Nat → Bool) (o k : Nat) : Nat × Nat :=
  if o < 11 then wx_sb k else if 100 ≤ k ∧ o = 13 then (if k < 164 ∧ al (k - 100) = true then (2, 6464) else (0, 0)) else wx_sx o k
def wx_ad (ad : Nat → Nat → Nat) (rd : Nat → Nat) (o k : Nat) : Nat := if 100 ≤ k ∧ o = 13 then rd (k - 100) else ad o k
/-- a class's fields: 0 an array of its own, 1 an int, 100 + o the object o -/
def wx_fc (c : Nat) : List Nat :=
  if c = 0 then [0, 0, 0, 1, 0, 0, 1, 0, 0, 1, 0, 0, 0] else if c = 1 then [0, 0, 0] else if c = 2 then [0, 1] else if c = 3 then [0, 1] else if c = 4 then [113, 0] else if c = 5 then [107, 108, 112, 114, 115, 0, 0] else []
def wx_fv (ad : Nat → Nat → Nat) (σ : wx_St) (o j c : Nat) : Value := if c = 0 then .ref (ad o j) else if c = 1 then .int (σ.2.2.1 o j) else .ref (ad (c - 100) 99)
def wx_fl (ad : Nat → Nat → Nat) (σ : wx_St) (o : Nat) : Nat → List Nat → List Value
  | _, [] => []
  | j, c :: cs => wx_fv ad σ o j c :: wx_fl ad σ o (j + 1) cs
theorem wx_fl_get {ad : Nat → Nat → Nat} {σ : wx_St} {o : Nat} : ∀ (cs : List Nat) (i j : Nat), (wx_fl ad σ o i cs)[j]? = (cs[j]?).map (fun c => wx_fv ad σ o (i + j) c)
  | [], i, j => by simp [wx_fl]
  | c :: cs, i, 0 => by simp [wx_fl]
  | c :: cs, i, j + 1 => by
    simp only [wx_fl, List.getElem?_cons_succ]
    rw [wx_fl_get cs (i + 1) j, show i + 1 + j = i + (j + 1) by omega]
theorem wx_fl_len {ad : Nat → Nat → Nat} {σ : wx_St} {o : Nat} : ∀ (cs : List Nat) (i : Nat), (wx_fl ad σ o i cs).length = cs.length
  | [], i => rfl
  | c :: cs, i => by simp [wx_fl, wx_fl_len cs (i + 1)]
def wx_ro (σ : wx_St) (o i : Nat) : Nat := if o = 14 then σ.2.2.2.1 i else 9 + i
def wx_ek (ad : Nat → Nat → Nat) (rd : Nat → Nat) (ca : Nat → ClassId) (σ : wx_St) (o k : Nat) (s : Nat × Nat) : Option va_E :=
  if s.1 = 1 then some (.inl (ca 0, s.2, .inl (σ.1 o k)))
  else if s.1 = 2 then some (.inl (ca 1, s.2, .inr (.inr (.inl (σ.2.1 o k)))))
  else if s.1 = 3 then some (.inl (ca 2, s.2, .inl (σ.1 o k)))
  else if s.1 = 4 then some (.inl (ca 3, s.2, .inr (.inr (.inr (.inr (fun i => some (ad (wx_ro σ o i) 99)))))))
  else if s.1 = 5 then some (.inr (s.2, wx_fl ad σ o 0 (wx_fc s.2)))
  else if s.1 = 6 then some (.inl (ca 4, s.2, .inr (.inr (.inr (.inr (fun i => if σ.2.2.2.2 i = true then some (rd i) else none))))))
  else none
def wx_P (D : va_G) (ad : Nat → Nat → Nat) (rd : Nat → Nat) (ca : Nat → ClassId) (σ : wx_St) (H : Heap) : Prop :=
  ∀ (o k : Nat) (e : va_E), wx_ek ad rd ca σ o k (wx_sh σ.2.2.2.2 o k) = some e → va_at D vwCl (wx_ad ad rd o k, e) H
/-- what is there, is there once -/
def wx_J (ad : Nat → Nat → Nat) (rd : Nat → Nat) (al : Nat → Bool) : Prop :=
  ∀ o k o' k' : Nat, (wx_sh al o k).1 ≠ 0 → (wx_sh al o' k').1 ≠ 0 → wx_ad ad rd o k = wx_ad ad rd o' k' → o = o' ∧ k = k'
def wx_O (A : Nat → Prop) (ad : Nat → Nat → Nat) (rd : Nat → Nat) (al : Nat → Bool) : Prop :=
  ∀ o k : Nat, (wx_sh al o k).1 ≠ 0 → A (wx_ad ad rd o k)
def wx_Z (D : va_G) (ad : Nat → Nat → Nat) (rd : Nat → Nat) (ca : Nat → ClassId) (A : Nat → Prop) (σ : wx_St) (H : Heap) : Prop :=
  wx_P D ad rd ca σ H ∧ wx_J ad rd σ.2.2.2.2 ∧ wx_O A ad rd σ.2.2.2.2
theorem wx_P.set {D : va_G} {ad : Nat → Nat → Nat} {rd : Nat → Nat} {ca : Nat → ClassId} {σ σ' : wx_St} {H H1 : Heap} {o k : Nat} (hP : wx_P D ad rd ca σ H) (hJ : wx_J ad rd σ.2.2.2.2) (hpr : (wx_sh σ.2.2.2.2 o k).1 ≠ 0) (hal : σ'.2.2.2.2 = σ.2.2.2.2)
    (hot : ∀ o' k' : Nat, ¬ (o' = o ∧ k' = k) → wx_ek ad rd ca σ' o' k' (wx_sh σ.2.2.2.2 o' k') = wx_ek ad rd ca σ o' k' (wx_sh σ.2.2.2.2 o' k'))
    (he : ∀ e, wx_ek ad rd ca σ' o k (wx_sh σ.2.2.2.2 o k) = some e → va_at D vwCl (wx_ad ad rd o k, e) H1) (oq : ∀ q : Nat, q ≠ wx_ad ad rd o k → H1[q]? = H[q]?) : wx_P D ad rd ca σ' H1 := by
  intro o' k' e h
  rw [hal] at h
  by_cases hk : o' = o ∧ k' = k
  · obtain ⟨rfl, rfl⟩ := hk
    exact he e h
  · rw [hot o' k' hk] at h
    have h1 := hP o' k' e h
    refine va_at.kept h1 (oq _ (fun hq => hk ?_))
    have hpr' : (wx_sh σ.2.2.2.2 o' k').1 ≠ 0 := by
      intro z
      simp [wx_ek, z] at h
    exact hJ o' k' o k hpr' hpr hq
def wx_in (i : Int32) (n : Nat) : Bool := decide (0 ≤ i.toInt) && decide (i.toInt < (n : Int))
theorem wx_in_vp {i : Int32} {n : Nat} (h : wx_in i n = true) : vp_in i n := by
  simp only [wx_in, Bool.and_eq_true, decide_eq_true_eq] at h
  exact vp_in_iff.mpr h
theorem wx_in_nI {j n : Nat} (h : j < n) (hn : n < 2 ^ 31) : wx_in (nI j) n = true := by
  have e := nI_toInt (Nat.lt_trans h hn)
  simp only [wx_in, Bool.and_eq_true, decide_eq_true_eq, e]
  omega
def wx_nn (r : UInt32) : Bool := decide (r &&& 0x7fffffff ≤ 0x7f800000)
def wx_nd (r : UInt64) : Bool := decide (r &&& 0x7fffffffffffffff ≤ 0x7ff0000000000000)
theorem wx_nn_vf {r : UInt32} (h : wx_nn r = true) : vf_n32 r := by
  unfold wx_nn at h
  unfold vf_n32
  exact of_decide_eq_true h
theorem wx_nd_vf {r : UInt64} (h : wx_nd r = true) : vf_n64 r := by
  unfold wx_nd at h
  unfold vf_n64
  exact of_decide_eq_true h
/-! the functions that the methods are: each asks what its instruction needs, and goes on -/
def wx_rI {α : Type} (σ : wx_St) (o k n : Nat) (i : Int32) (f : Int32 → Option α) : Option α := if wx_in i n = true then f (σ.1 o k i.toNatClampNeg) else none
def wx_rT {α : Type} (t : List Int32) (n : Nat) (i : Int32) (f : Int32 → Option α) : Option α := if wx_in i n = true then f (t.getD i.toNatClampNeg 0) else none
def wx_rF {α : Type} (σ : wx_St) (o k n : Nat) (i : Int32) (f : UInt32 → Option α) : Option α := if wx_in i n = true then f (σ.2.1 o k i.toNatClampNeg) else none
def wx_rR {α : Type} (σ : wx_St) (o n : Nat) (i : Int32) (f : Nat → Option α) : Option α := if wx_in i n = true then (if wx_ro σ o i.toNatClampNeg < 11 then f (wx_ro σ o i.toNatClampNeg) else none) else none
def wx_w {α : Type} (τ : wx_St) (n : Nat) (i : Int32) (f : wx_St → Option α) : Option α := if wx_in i n = true then f τ else none
def wx_l {α β : Type} (a : β) (f : β → Option α) : Option α := f a
def wx_f {α : Type} (x : UInt32) (f : UInt32 → Option α) : Option α := if wx_nn x = true then f x else none
def wx_d {α : Type} (x : UInt64) (f : UInt64 → Option α) : Option α := if wx_nd x = true then f x else none
def wx_z {α : Type} (x : Int32) (f : Option α) : Option α := if x = 0 ∨ x = 1 then f else none
def wx_o {α β : Type} (m : Option α) (f : α → Option β) : Option β := match m with
  | none => none
  | some a => f a
def wx_b {α β : Type} (m : Option (α × wx_St)) (f : α → wx_St → Option β) : Option β := match m with
  | none => none
  | some r => f r.1 r.2
theorem wx_rI_ok {α : Type} {σ : wx_St} {o k n : Nat} {i : Int32} {f : Int32 → Option α} {r : α} (h : wx_rI σ o k n i f = some r) : ∃ v : Int32, v = σ.1 o k i.toNatClampNeg ∧ wx_in i n = true ∧ f v = some r := by
  unfold wx_rI at h; split at h
  · exact ⟨_, rfl, by assumption, h⟩
  · exact absurd h (by simp)
theorem wx_rT_ok {α : Type} {t : List Int32} {n : Nat} {i : Int32} {f : Int32 → Option α} {r : α} (h : wx_rT t n i f = some r) : ∃ v : Int32, v = t.getD i.toNatClampNeg 0 ∧ wx_in i n = true ∧ f v = some r := by
  unfold wx_rT at h; split at h
  · exact ⟨_, rfl, by assumption, h⟩
  · exact absurd h (by simp)
theorem wx_rF_ok {α : Type} {σ : wx_St} {o k n : Nat} {i : Int32} {f : UInt32 → Option α} {r : α} (h : wx_rF σ o k n i f = some r) : ∃ v : UInt32, v = σ.2.1 o k i.toNatClampNeg ∧ wx_in i n = true ∧ f v = some r := by
  unfold wx_rF at h; split at h
  · exact ⟨_, rfl, by assumption, h⟩
  · exact absurd h (by simp)
theorem wx_rR_ok {α : Type} {σ : wx_St} {o n : Nat} {i : Int32} {f : Nat → Option α} {r : α} (h : wx_rR σ o n i f = some r) : ∃ b : Nat, b = wx_ro σ o i.toNatClampNeg ∧ b < 11 ∧ wx_in i n = true ∧ f b = some r := by
  unfold wx_rR at h; split at h
  · split at h
    · exact ⟨_, rfl, by assumption, by assumption, h⟩
    · exact absurd h (by simp)
  · exact absurd h (by simp)
theorem wx_w_ok {α : Type} {τ : wx_St} {n : Nat} {i : Int32} {f : wx_St → Option α} {r : α} (h : wx_w τ n i f = some r) : ∃ z : wx_St, z = τ ∧ wx_in i n = true ∧ f z = some r := by
  unfold wx_w at h; split at h
  · exact ⟨_, rfl, by assumption, h⟩
  · exact absurd h (by simp)
theorem wx_l_ok {α β : Type} {a : β} {f : β → Option α} {r : α} (h : wx_l a f = some r) : ∃ z : β, z = a ∧ f z = some r := ⟨a, rfl, h⟩
theorem wx_f_ok {α : Type} {x : UInt32} {f : UInt32 → Option α} {r : α} (h : wx_f x f = some r) : ∃ z : UInt32, z = x ∧ vf_n32 x ∧ f z = some r := by
  unfold wx_f at h; split at h
  · exact ⟨_, rfl, wx_nn_vf (by assumption), h⟩
  · exact absurd h (by simp)
theorem wx_d_ok {α : Type} {x : UInt64} {f : UInt64 → Option α} {r : α} (h : wx_d x f = some r) : ∃ z : UInt64, z = x ∧ vf_n64 x ∧ f z = some r := by
  unfold wx_d at h; split at h
  · exact ⟨_, rfl, wx_nd_vf (by assumption), h⟩
  · exact absurd h (by simp)
theorem wx_z_ok {α : Type} {x : Int32} {f : Option α} {r : α} (h : wx_z x f = some r) : (x = 0 ∨ x = 1) ∧ f = some r := by
  unfold wx_z at h; split at h
  · exact ⟨by assumption, h⟩
  · exact absurd h (by simp)
def wx_zt {α : Type} (ty : FieldType) (x : Int32) (f : Option α) : Option α := if vp_nar ty x = x then f else none
theorem wx_zt_ok {α : Type} {ty : FieldType} {x : Int32} {f : Option α} {r : α} (h : wx_zt ty x f = some r) : vp_nar ty x = x ∧ f = some r := by
  unfold wx_zt at h; split at h
  · exact ⟨by assumption, h⟩
  · exact absurd h (by simp)
theorem wx_ntC {x : Int32} (h : vp_nar .char x = x) : narrow .char (.int x) = .int x := (show narrow .char (.int x) = .int (vp_nar .char x) from rfl).trans (by rw [h])
theorem wx_ntB {x : Int32} (h : vp_nar .byte x = x) : narrow .byte (.int x) = .int x := (show narrow .byte (.int x) = .int (vp_nar .byte x) from rfl).trans (by rw [h])
theorem wx_o_ok {α β : Type} {m : Option α} {f : α → Option β} {r : β} (h : wx_o m f = some r) : ∃ a : α, m = some a ∧ f a = some r := by
  cases m with
  | none => exact absurd h (by simp [wx_o])
  | some q => exact ⟨q, rfl, h⟩
theorem wx_b_ok {α β : Type} {m : Option (α × wx_St)} {f : α → wx_St → Option β} {r : β} (h : wx_b m f = some r) : ∃ (a : α) (σ : wx_St), m = some (a, σ) ∧ f a σ = some r := by
  cases m with
  | none => exact absurd h (by simp [wx_b])
  | some q => exact ⟨q.1, q.2, rfl, h⟩
theorem wx_ret_ok {α : Type} {a a' : α} {σ σ' : wx_St} (h : some (a, σ) = some (a', σ')) : a = a' ∧ σ = σ' := by
  cases h; exact ⟨rfl, rfl⟩
theorem wx_ift {α : Type} {q : Prop} {d : Decidable q} {a b r : Option α} (hq : q) (h : (@ite _ q d a b) = r) : a = r := by rwa [if_pos hq] at h
theorem wx_iff {α : Type} {q : Prop} {d : Decidable q} {a b r : Option α} (hq : ¬ q) (h : (@ite _ q d a b) = r) : b = r := by rwa [if_neg hq] at h
theorem wx_no {α : Type} {r : α} {P : Prop} (h : (none : Option α) = some r) : P := absurd h (by simp)
theorem wx_ni {x v : Int32} (h : ¬ x = v) : x.toInt ≠ v.toInt := fun e => h (Int32.toInt_inj.mp e)
theorem wx_hal {al al' : Nat → Bool} {o k : Nat} {t : Nat × Nat} (h : al' = al) (hs : wx_sh al o k = t) : wx_sh al' o k = t := by rw [h]; exact hs
theorem wx_sbo {al : Nat → Bool} {o : Nat} (ho : o < 11) (k : Nat) : wx_sh al o k = wx_sb k := if_pos ho
def wx_tys (ca : Nat → ClassId) : List (ClassId × FieldType) := [(ca 0, .int), (ca 1, .float), (ca 2, .boolean), (ca 3, .object RX0), (ca 4, .array .float)]
/-- whose links go to a nest mate -/
def wx_isN (w : Cond) : Bool := match w with
  | .fieldLinkNest _ _ _ _ _ _ => true
  | .methodLinkNest _ _ _ _ => true
  | _ => false
def wx_nest : List Cond := [
  Cond.methodLinkNest "WarmProbes" 9 ⟨"WarmProbes$Board", "<init>", "()V"⟩ "WarmProbes",
  Cond.fieldLinkNest "WarmProbes$Board" 53 "WarmProbes" "FIRST_VALUES" "[I" "WarmProbes",
  Cond.fieldLinkNest "WarmProbes$Suspicion" 53 "WarmProbes$Board" "settings" "[I" "WarmProbes",
  Cond.fieldLinkNest "WarmProbes" 187 "WarmProbes$Board" "settings" "[I" "WarmProbes",
  Cond.fieldLinkNest "WarmProbes" 89 "WarmProbes$Board" "nets" "[I" "WarmProbes",
  Cond.fieldLinkNest "WarmProbes" 163 "WarmProbes$Board" "fed" "[I" "WarmProbes",
  Cond.fieldLinkNest "WarmProbes" 133 "WarmProbes$Board" "touches" "I" "WarmProbes",
  Cond.fieldLinkNest "WarmProbes" 136 "WarmProbes$Board" "touchPlaces" "[I" "WarmProbes",
  Cond.fieldLinkNest "WarmProbes" 139 "WarmProbes$Board" "touchOthers" "[I" "WarmProbes",
  Cond.fieldLinkNest "WarmProbes" 73 "WarmProbes$Board" "steps" "I" "WarmProbes",
  Cond.fieldLinkNest "WarmProbes$Suspicion" 85 "WarmProbes$Board" "steps" "I" "WarmProbes",
  Cond.fieldLinkNest "WarmProbes" 93 "WarmProbes$Board" "warmth" "[F" "WarmProbes",
  Cond.fieldLinkNest "WarmProbes$Suspicion" 60 "WarmProbes$Board" "readings" "I" "WarmProbes",
  Cond.fieldLinkNest "WarmProbes" 145 "WarmProbes$Board" "readings" "I" "WarmProbes",
  Cond.fieldLinkNest "WarmProbes$Suspicion" 67 "WarmProbes$Board" "readingPlaces" "[I" "WarmProbes",
  Cond.fieldLinkNest "WarmProbes" 148 "WarmProbes$Board" "readingPlaces" "[I" "WarmProbes",
  Cond.fieldLinkNest "WarmProbes$Suspicion" 78 "WarmProbes$Board" "readingReads" "[I" "WarmProbes",
  Cond.fieldLinkNest "WarmProbes" 151 "WarmProbes$Board" "readingReads" "[I" "WarmProbes",
  Cond.fieldLinkNest "WarmProbes$Suspicion" 64 "WarmProbes$Board" "readingSteps" "[I" "WarmProbes",
  Cond.fieldLinkNest "WarmProbes" 154 "WarmProbes$Board" "readingSteps" "[I" "WarmProbes",
  Cond.methodLinkNest "WarmProbes" 21 ⟨"WarmProbes$Suspicion", "<init>", "()V"⟩ "WarmProbes",
  Cond.methodLinkNest "WarmProbes$Suspicion" 11 ⟨"WarmProbes$Lone", "<init>", "()V"⟩ "WarmProbes",
  Cond.methodLinkNest "WarmProbes" 28 ⟨"WarmProbes$Past", "<init>", "()V"⟩ "WarmProbes",
  Cond.methodLinkNest "WarmProbes$Past" 21 ⟨"WarmProbes$Board", "<init>", "()V"⟩ "WarmProbes",
  Cond.fieldLinkNest "WarmProbes" 193 "WarmProbes$Past" "size" "I" "WarmProbes",
  Cond.methodLinkNest "WarmProbes" 35 ⟨"WarmProbes$Pad", "<init>", "()V"⟩ "WarmProbes",
  Cond.fieldLinkNest "WarmProbes" 190 "WarmProbes$Pad" "length" "I" "WarmProbes",
  Cond.methodLinkNest "WarmProbes" 48 ⟨"WarmProbes$Past", "prepare", "(LWarmProbes$Board;)V"⟩ "WarmProbes",
  Cond.methodLinkNest "WarmProbes$Past" 22 ⟨"WarmProbes$Board", "takeOver", "(LWarmProbes$Board;)V"⟩ "WarmProbes",
  Cond.methodLinkNest "WarmProbes" 52 ⟨"WarmProbes$Board", "change", "(II)I"⟩ "WarmProbes",
  Cond.fieldLinkNest "WarmProbes$Board" 62 "WarmProbes" "LEAST_VALUES" "[I" "WarmProbes",
  Cond.fieldLinkNest "WarmProbes$Board" 65 "WarmProbes" "MOST_VALUES" "[I" "WarmProbes",
  Cond.methodLinkNest "WarmProbes" 56 ⟨"WarmProbes$Past", "kept", "(I)I"⟩ "WarmProbes",
  Cond.methodLinkNest "WarmProbes" 60 ⟨"WarmProbes$Board", "lay", "(III)I"⟩ "WarmProbes",
  Cond.methodLinkNest "WarmProbes$Board" 71 ⟨"WarmProbes", "placeOf", "(II)I"⟩ "WarmProbes",
  Cond.methodLinkNest "WarmProbes$Board" 75 ⟨"WarmProbes", "isNet", "(I)Z"⟩ "WarmProbes",
  Cond.methodLinkNest "WarmProbes$Board" 82 ⟨"WarmProbes", "areNeighbours", "(II)Z"⟩ "WarmProbes",
  Cond.methodLinkNest "WarmProbes" 64 ⟨"WarmProbes$Board", "join", "(III)I"⟩ "WarmProbes",
  Cond.methodLinkNest "WarmProbes$Board" 93 ⟨"WarmProbes", "neighbourOf", "(II)I"⟩ "WarmProbes",
  Cond.methodLinkNest "WarmProbes" 67 ⟨"WarmProbes$Board", "part", "(I)I"⟩ "WarmProbes",
  Cond.methodLinkNest "WarmProbes" 70 ⟨"WarmProbes$Board", "turnPair", "(II)I"⟩ "WarmProbes",
  Cond.methodLinkNest "WarmProbes" 77 ⟨"WarmProbes$Board", "beginRun", "()V"⟩ "WarmProbes",
  Cond.methodLinkNest "WarmProbes" 80 ⟨"WarmProbes$Board", "letPass", "(I)I"⟩ "WarmProbes",
  Cond.methodLinkNest "WarmProbes$Board" 107 ⟨"WarmProbes", "step", "([FI[FIJ[I)V"⟩ "WarmProbes",
  Cond.methodLinkNest "WarmProbes" 83 ⟨"WarmProbes$Board", "measure", "(II)I"⟩ "WarmProbes",
  Cond.methodLinkNest "WarmProbes$Board" 111 ⟨"WarmProbes", "readOf", "(F)I"⟩ "WarmProbes",
  Cond.methodLinkNest "WarmProbes" 104 ⟨"WarmProbes$Board", "isSuspect", "(I)Z"⟩ "WarmProbes",
  Cond.methodLinkNest "WarmProbes" 108 ⟨"WarmProbes$Suspicion", "couldBe", "(LWarmProbes$Board;I)Z"⟩ "WarmProbes",
  Cond.methodLinkNest "WarmProbes$Suspicion" 22 ⟨"WarmProbes$Board", "isSuspect", "(I)Z"⟩ "WarmProbes",
  Cond.methodLinkNest "WarmProbes$Suspicion" 56 ⟨"WarmProbes$Lone", "follow", "([I)V"⟩ "WarmProbes",
  Cond.methodLinkNest "WarmProbes$Suspicion" 70 ⟨"WarmProbes$Lone", "warmthBy", "(III)F"⟩ "WarmProbes",
  Cond.methodLinkNest "WarmProbes$Lone" 30 ⟨"WarmProbes", "step", "([FI[FIJ[I)V"⟩ "WarmProbes",
  Cond.methodLinkNest "WarmProbes$Suspicion" 74 ⟨"WarmProbes", "readOf", "(F)I"⟩ "WarmProbes",
  Cond.methodLinkNest "WarmProbes" 112 ⟨"WarmProbes$Suspicion", "couldBeOneOfTwo", "(LWarmProbes$Board;I)Z"⟩ "WarmProbes",
  Cond.methodLinkNest "WarmProbes" 115 ⟨"WarmProbes$Board", "touchAt", "(I)I"⟩ "WarmProbes",
  Cond.methodLinkNest "WarmProbes" 118 ⟨"WarmProbes$Board", "tracked", "()J"⟩ "WarmProbes",
  Cond.methodLinkNest "WarmProbes" 126 ⟨"WarmProbes$Board", "suspects", "()J"⟩ "WarmProbes",
  Cond.methodLinkNest "WarmProbes" 129 ⟨"WarmProbes$Suspicion", "fitting", "(LWarmProbes$Board;)J"⟩ "WarmProbes",
  Cond.methodLinkNest "WarmProbes" 142 ⟨"WarmProbes$Board", "isLive", "(I)Z"⟩ "WarmProbes",
  Cond.methodLinkNest "WarmProbes" 160 ⟨"WarmProbes$Board", "placesOf", "(I)I"⟩ "WarmProbes",
  Cond.methodLinkNest "WarmProbes" 166 ⟨"WarmProbes$Board", "warmthOf", "(I)F"⟩ "WarmProbes",
  Cond.methodLinkNest "WarmProbes" 170 ⟨"WarmProbes$Board", "heated", "()J"⟩ "WarmProbes",
  Cond.methodLinkNest "WarmProbes" 179 ⟨"WarmProbes$Suspicion", "pairs", "(LWarmProbes$Board;)I"⟩ "WarmProbes",
  Cond.methodLinkNest "WarmProbes$Suspicion" 36 ⟨"WarmProbes$Board", "suspects", "()J"⟩ "WarmProbes",
  Cond.methodLinkNest "WarmProbes$Suspicion" 40 ⟨"WarmProbes", "isIn", "(JI)Z"⟩ "WarmProbes",
  Cond.methodLinkNest "WarmProbes" 183 ⟨"WarmProbes$Board", "warmest", "()I"⟩ "WarmProbes",
  Cond.methodLinkNest "WarmProbes" 213 ⟨"WarmProbes$Suspicion", "readBy", "(LWarmProbes$Board;II)I"⟩ "WarmProbes"]
theorem wx_nest_ok : wx_nest.all wx_isN = true := by decide +kernel
def wx_K (D : va_G) (ca : Nat → ClassId) (U : State) : Prop := va_K D vwCl (wx_tys ca) U ∧ (∀ w ∈ wx_nest, va_Nw w U) ∧ ∃ kF : Class, U.vm.classes[ca 4]? = some kF ∧ kF.kind = .array (ca 1) (.array .float)
theorem wx_N_warm {w : Cond} {s U : State} (hw : wx_isN w = true) (hW : s.WarmedH U.vm) (h : va_Nw w s) : va_Nw w U := by
  cases w with
  | fieldLinkNest a i b n d x => exact va_Nw.warmF hW h
  | methodLinkNest a i x y => exact va_Nw.warmM hW h
  | _ => exact absurd hw (by simp [wx_isN])
theorem wx_N_same {w : Cond} {u U : State} (hw : wx_isN w = true) (hv : u.vm = U.vm) (h : va_Nw w u) : va_Nw w U := by
  cases w with
  | fieldLinkNest a i b n d x => exact va_Nw.same rfl hv h
  | methodLinkNest a i x y => exact va_Nw.same rfl hv h
  | _ => exact absurd hw (by simp [wx_isN])
theorem wx_K.warm {D : va_G} {ca : Nat → ClassId} {s U : State} (hW : s.WarmedH U.vm) (h : wx_K D ca s) : wx_K D ca U :=
  ⟨va_K.moved hW.alike h.1, fun w hw => wx_N_warm (List.all_eq_true.mp wx_nest_ok w hw) hW (h.2.1 w hw), by
    obtain ⟨kF, h1, h2⟩ := h.2.2
    obtain ⟨k', hk', he⟩ := hW.alike.2.2 _ _ h1
    exact ⟨k', hk', by rw [he]; exact h2⟩⟩
theorem wx_K.same {D : va_G} {ca : Nat → ClassId} {u U : State} (hv : u.vm = U.vm) (h : wx_K D ca u) : wx_K D ca U :=
  ⟨va_K.moved (hv ▸ Vm.Alike.refl u.vm) h.1, fun w hw => wx_N_same (List.all_eq_true.mp wx_nest_ok w hw) hv (h.2.1 w hw), by rw [← hv]; exact h.2.2⟩
def wx_v0 : List Int32 := [15, 5, 20, 3]
def wx_v1 : List Int32 := [0, 0, 1, 0]
def wx_v2 : List Int32 := [24, 50, 99, 99]
/-- what nobody writes: the tables of settings, the forms, the JDK's own -/
def wx_T (ad : Nat → Nat → Nat) (A : Nat → Prop) (U : State) (H : Heap) : Prop :=
  (va_Z "WarmProbes" "FIRST_VALUES" "[I" (.ref (ad 17 0)) A U H ∧ va_Z "WarmProbes" "LEAST_VALUES" "[I" (.ref (ad 17 1)) A U H ∧ va_Z "WarmProbes" "MOST_VALUES" "[I" (.ref (ad 17 2)) A U H) ∧
  (va_T .int (ad 17 0) 4 (fun j => .int (wx_v0.getD j 0)) A U H ∧ va_T .int (ad 17 1) 4 (fun j => .int (wx_v1.getD j 0)) A U H ∧ va_T .int (ad 17 2) 4 (fun j => .int (wx_v2.getD j 0)) A U H) ∧
  (va_X (ad 18 0) (ad 18 1) (fun j => nI (ad 19 j)) U H ∧ ad 18 0 < H.size ∧ ¬ A (ad 18 0))
theorem wx_T.moved {ad : Nat → Nat → Nat} {A : Nat → Prop} {u U : State} {H : Heap} (hvm : u.vm.Alike U.vm) (h : wx_T ad A u H) : wx_T ad A U H :=
  ⟨⟨h.1.1.moved hvm, h.1.2.1.moved hvm, h.1.2.2.moved hvm⟩, ⟨h.2.1.1.moved hvm, h.2.1.2.1.moved hvm, h.2.1.2.2.moved hvm⟩, ⟨h.2.2.1.moved hvm, h.2.2.2⟩⟩
theorem wx_T.kept {ad : Nat → Nat → Nat} {A : Nat → Prop} {U : State} {H H1 : Heap} (h : wx_T ad A U H) (hq : ∀ a : Nat, a < H.size → ¬ A a → H1[a]? = H[a]?) : wx_T ad A U H1 := by
  have e := hq _ h.2.2.2.1 h.2.2.2.2
  refine ⟨⟨h.1.1.kept hq, h.1.2.1.kept hq, h.1.2.2.kept hq⟩, ⟨h.2.1.1.kept hq, h.2.1.2.1.kept hq, h.2.1.2.2.kept hq⟩, ⟨h.2.2.1.kept e, ?_, h.2.2.2.2⟩⟩
  obtain ⟨scr, h1, -⟩ := h.2.2.1
  exact (Array.getElem?_eq_some_iff.mp (e.trans h1)).1
def wx_C (D : va_G) (ad : Nat → Nat → Nat) (ca : Nat → ClassId) (A : Nat → Prop) (U : State) (H : Heap) : Prop := wx_K D ca U ∧ wx_T ad A U H ∧ True
theorem wx_C.next {D : va_G} {ad : Nat → Nat → Nat} {ca : Nat → ClassId} {A : Nat → Prop} {s U : State} {H : Heap} {locs : List Loc} (h : wx_C D ad ca A s s.heap) (hS : va_S A s.heap H locs) (hU : U.heap = H) (hW : s.WarmedH U.vm) : wx_C D ad ca A U U.heap := by
  subst hU
  exact ⟨h.1.warm hW, (h.2.1.kept hS.2.1).moved hW.alike, trivial⟩
theorem wx_C.same {D : va_G} {ad : Nat → Nat → Nat} {ca : Nat → ClassId} {A : Nat → Prop} {u U : State} (hv : u.vm = U.vm) (hh : u.heap = U.heap) (h : wx_C D ad ca A u u.heap) : wx_C D ad ca A U U.heap := by
  rw [← hh]
  exact ⟨h.1.same hv, h.2.1.moved (hv ▸ Vm.Alike.refl u.vm), trivial⟩
def wx_U (D : va_G) (ad : Nat → Nat → Nat) (rd : Nat → Nat) (ca : Nat → ClassId) (A : Nat → Prop) (σ : wx_St) (U : State) : Prop :=
  wx_C D ad ca A U U.heap ∧ wx_Z D ad rd ca A σ U.heap ∧ ∀ q : Nat, U.heap.size ≤ q → A q
def wx_Q (D : va_G) (ad : Nat → Nat → Nat) (rd : Nat → Nat) (ca : Nat → ClassId) (A : Nat → Prop) (ov : Option Value) (σ' : wx_St) : Array Value → State → Outcome → State → Prop := fun _ st oc t =>
  oc = .returned ov ∧ wx_Z D ad rd ca A σ' t.heap ∧ va_F A st t
/-- a contract of a method that makes nothing: from σ it answers ov, with σ' behind it -/
abbrev wx_M (l : Launch) (y : MethodName) (ws : List Cond) (fr lo : Nat) (D : va_G) (ad : Nat → Nat → Nat) (rd : Nat → Nat) (ca : Nat → ClassId) (A : Nat → Prop) (vs : List Value) (σ : wx_St) (ov : Option Value) (σ' : wx_St) : Prop :=
  Met l y ws ({ frames := fr, cells := 0, slots := 0, locals := lo } : Room) (va_Pc vs (wx_U D ad rd ca A σ)) (wx_Q D ad rd ca A ov σ') 0 0 A
theorem wx_st {ad : Nat → Nat → Nat} {rd : Nat → Nat} {o k : Nat} (hk : k < 100) : wx_ad ad rd o k = ad o k := if_neg (fun h => by omega)
/-! the world as a list of the kit's -/
def wx_id (ad : Nat → Nat → Nat) (rd : Nat → Nat) (ca : Nat → ClassId) (σ : wx_St) (n : Nat) : Option (Nat × va_E) := (wx_ek ad rd ca σ (n / 164) (n % 164) (wx_sh σ.2.2.2.2 (n / 164) (n % 164))).map (fun e => (wx_ad ad rd (n / 164) (n % 164), e))
def wx_ls (ad : Nat → Nat → Nat) (rd : Nat → Nat) (ca : Nat → ClassId) (σ : wx_St) : va_W := (List.range 2788).filterMap (wx_id ad rd ca σ)
theorem wx_pr {ad : Nat → Nat → Nat} {rd : Nat → Nat} {ca : Nat → ClassId} {σ : wx_St} {o k : Nat} {s : Nat × Nat} {e : va_E} (h : wx_ek ad rd ca σ o k s = some e) : s.1 ≠ 0 := by
  intro z
  simp [wx_ek, z] at h
theorem wx_sh_lt {al : Nat → Bool} {o k : Nat} (h : (wx_sh al o k).1 ≠ 0) : o < 17 ∧ k < 164 := by
  unfold wx_sh at h
  split at h
  · refine ⟨by omega, ?_⟩
    by_cases hk : k < 164
    · exact hk
    · exfalso; apply h; unfold wx_sb; repeat rw [if_neg (by omega)]
  · split at h
    · split at h
      · exact ⟨by omega, by omega⟩
      · exact absurd rfl h
    · have h1 : o < 17 := by
        by_cases ho : o < 17
        · exact ho
        · exfalso; apply h; unfold wx_sx; repeat rw [if_neg (by omega)]
      refine ⟨h1, ?_⟩
      by_cases hk : k < 164
      · exact hk
      · exfalso; apply h; unfold wx_sx wx_sm
        have hn : ∀ n : Nat, n < 164 → ¬ k = n := fun n h => by omega
        simp [hn 0 (by decide), hn 1 (by decide), hn 2 (by decide), hn 3 (by decide), hn 4 (by decide), hn 5 (by decide), hn 6 (by decide), hn 7 (by decide), hn 8 (by decide), hn 10 (by decide), hn 11 (by decide), hn 12 (by decide), hn 13 (by decide), hn 14 (by decide), hn 15 (by decide), hn 17 (by decide), hn 99 (by decide)]
theorem wx_ls_at {ad : Nat → Nat → Nat} {rd : Nat → Nat} {ca : Nat → ClassId} {σ : wx_St} {o k : Nat} {e : va_E} (h : wx_ek ad rd ca σ o k (wx_sh σ.2.2.2.2 o k) = some e) : ∃ p : Nat, (wx_ls ad rd ca σ)[p]? = some (wx_ad ad rd o k, e) := by
  have hlt := wx_sh_lt (wx_pr h)
  refine List.getElem?_of_mem (List.mem_filterMap.mpr ⟨164 * o + k, List.mem_range.mpr (by omega), ?_⟩)
  unfold wx_id
  rw [show (164 * o + k) / 164 = o by omega, show (164 * o + k) % 164 = k by omega, h]
  rfl
theorem wx_ls_P {D : va_G} {ad : Nat → Nat → Nat} {rd : Nat → Nat} {ca : Nat → ClassId} {σ : wx_St} {H : Heap} (h : wx_P D ad rd ca σ H) : va_P D vwCl (wx_ls ad rd ca σ) H := by
  intro k q hq
  obtain ⟨n, -, hn⟩ := List.mem_filterMap.mp (List.mem_of_getElem? hq)
  unfold wx_id at hn
  cases he : wx_ek ad rd ca σ (n / 164) (n % 164) (wx_sh σ.2.2.2.2 (n / 164) (n % 164)) with
  | none => rw [he] at hn; exact absurd hn (by simp)
  | some e =>
    rw [he] at hn
    cases hn
    exact h _ _ e he
theorem wx_ls_D {A : Nat → Prop} {ad : Nat → Nat → Nat} {rd : Nat → Nat} {ca : Nat → ClassId} {σ : wx_St} (hJ : wx_J ad rd σ.2.2.2.2) (hO : wx_O A ad rd σ.2.2.2.2) : va_D A (wx_ls ad rd ca σ) := by
  have key : ∀ n q, wx_id ad rd ca σ n = some q → (wx_sh σ.2.2.2.2 (n / 164) (n % 164)).1 ≠ 0 ∧ q.1 = wx_ad ad rd (n / 164) (n % 164) := by
    intro n q hn
    unfold wx_id at hn
    cases he : wx_ek ad rd ca σ (n / 164) (n % 164) (wx_sh σ.2.2.2.2 (n / 164) (n % 164)) with
    | none => rw [he] at hn; exact absurd hn (by simp)
    | some e =>
      rw [he] at hn
      cases hn
      exact ⟨wx_pr he, rfl⟩
  have hpw : List.Pairwise (fun p q : Nat × va_E => p.1 ≠ q.1) (wx_ls ad rd ca σ) := by
    unfold wx_ls
    rw [List.pairwise_filterMap]
    refine List.Pairwise.imp ?_ (List.nodup_range (n := 2788))
    intro a b hab x hx y hy hxy
    obtain ⟨h1, h2⟩ := key a x hx
    obtain ⟨h3, h4⟩ := key b y hy
    have h5 := hJ _ _ _ _ h1 h3 (by rw [← h2, ← h4]; exact hxy)
    apply hab
    omega
  refine ⟨fun i j p q hi hj hpq => ?_, fun k q hq => ?_⟩
  · obtain ⟨hil, hie⟩ := List.getElem?_eq_some_iff.mp hi
    obtain ⟨hjl, hje⟩ := List.getElem?_eq_some_iff.mp hj
    rcases Nat.lt_trichotomy i j with h | h | h
    · exact absurd hpq (by rw [← hie, ← hje]; exact List.pairwise_iff_getElem.mp hpw i j hil hjl h)
    · exact h
    · exact absurd hpq.symm (by rw [← hie, ← hje]; exact List.pairwise_iff_getElem.mp hpw j i hjl hil h)
  · obtain ⟨n, -, hn⟩ := List.mem_filterMap.mp (List.mem_of_getElem? hq)
    obtain ⟨h1, h2⟩ := key n q hn
    rw [h2]
    exact hO _ _ h1
/-- back from the list to the world, behind a row that wrote one cell -/
theorem wx_back {D : va_G} {ad : Nat → Nat → Nat} {rd : Nat → Nat} {ca : Nat → ClassId} {A : Nat → Prop} {σ σ' : wx_St} {H H1 : Heap} {o k p : Nat} {e e' : va_E} (Z : wx_Z D ad rd ca A σ H) (he : wx_ek ad rd ca σ o k (wx_sh σ.2.2.2.2 o k) = some e) (hp : (wx_ls ad rd ca σ)[p]? = some (wx_ad ad rd o k, e))
    (hP1 : va_P D vwCl ((wx_ls ad rd ca σ).set p (wx_ad ad rd o k, e')) H1) (hal : σ'.2.2.2.2 = σ.2.2.2.2) (he' : wx_ek ad rd ca σ' o k (wx_sh σ.2.2.2.2 o k) = some e')
    (hot : ∀ o' k' : Nat, ¬ (o' = o ∧ k' = k) → wx_ek ad rd ca σ' o' k' (wx_sh σ.2.2.2.2 o' k') = wx_ek ad rd ca σ o' k' (wx_sh σ.2.2.2.2 o' k')) : wx_Z D ad rd ca A σ' H1 := by
  refine ⟨?_, by rw [hal]; exact Z.2.1, by rw [hal]; exact Z.2.2⟩
  intro o' k' x hx
  rw [hal] at hx
  have hpl : p < (wx_ls ad rd ca σ).length := (List.getElem?_eq_some_iff.mp hp).1
  by_cases hk : o' = o ∧ k' = k
  · obtain ⟨rfl, rfl⟩ := hk
    rw [he'] at hx
    cases hx
    exact hP1 p _ (by rw [List.getElem?_set_self hpl])
  · rw [hot o' k' hk] at hx
    obtain ⟨p', hp'⟩ := wx_ls_at hx
    have hne : p ≠ p' := by
      intro h
      subst h
      have h1 := Option.some.inj (hp.symm.trans hp')
      have h2 : wx_ad ad rd o k = wx_ad ad rd o' k' := congrArg Prod.fst h1
      have h3 := Z.2.1 _ _ _ _ (wx_pr he) (wx_pr hx) h2
      exact hk ⟨h3.1.symm, h3.2.symm⟩
    exact hP1 p' _ (by rw [List.getElem?_set_ne hne]; exact hp')
section wxrows
variable {p : Program} {l : Launch} {e : Env} {R : Room} {s : State} {m : MethodId} {args : Array Value} {below : List Frame} {meth : Method} {c : Code} {H : Heap} {locs : List Loc} {cells slots : Nat} {Q : State → Prop}
variable {cc : ByteArray} {pc : Nat} {ls : Array Slot} {rest : List Value} {D : va_G} {ad : Nat → Nat → Nat} {rd : Nat → Nat} {ca : Nat → ClassId} {A : Nat → Prop} {σ : wx_St} {H0 : Heap}
theorem wx_single {w : Nat × va_E} (h : va_at D vwCl w H) : va_P D vwCl [w] H := by
  intro k q hq
  cases k with
  | zero => cases hq; exact h
  | succ k => simp at hq
theorem wx_iald (hx : p.tables.exec = Jvm.exec) (hb : c.code = cc) (hK : wx_K D ca s) (Z : wx_Z D ad rd ca A σ H) {o k n a : Nat} (hsh : wx_sh σ.2.2.2.2 o k = (1, n)) (ha : wx_ad ad rd o k = a) {i : Int32} (hin : wx_in i n = true) (hdg : decode cc pc = .ok (.iaload, 1))
    {v : Int32} (hv : v = σ.1 o k i.toNatClampNeg) (kk : W p l e R s m args below meth c H locs cells slots Q (F0 m (pc + 1) ls (.int v :: rest))) : W p l e R s m args below meth c H locs cells slots Q (F0 m pc ls (.int i :: .ref a :: rest)) := by
  subst hv
  subst ha
  exact va_iald hx hb hK.1 (wx_single (Z.1 o k _ (by rw [hsh]; rfl))) 0 0 rfl rfl (wx_in_vp hin) hdg kk
theorem wx_zald (hx : p.tables.exec = Jvm.exec) (hb : c.code = cc) (hK : wx_K D ca s) (Z : wx_Z D ad rd ca A σ H) {o k n a : Nat} (hsh : wx_sh σ.2.2.2.2 o k = (3, n)) (ha : wx_ad ad rd o k = a) {i : Int32} (hin : wx_in i n = true) (hdg : decode cc pc = .ok (.baload, 1))
    {v : Int32} (hv : v = σ.1 o k i.toNatClampNeg) (kk : W p l e R s m args below meth c H locs cells slots Q (F0 m (pc + 1) ls (.int v :: rest))) : W p l e R s m args below meth c H locs cells slots Q (F0 m pc ls (.int i :: .ref a :: rest)) := by
  subst hv
  subst ha
  exact va_zald hx hb hK.1 (wx_single (Z.1 o k _ (by rw [hsh]; rfl))) 0 2 rfl rfl (wx_in_vp hin) hdg kk
theorem wx_fald (hx : p.tables.exec = Jvm.exec) (hb : c.code = cc) (hK : wx_K D ca s) (Z : wx_Z D ad rd ca A σ H) {o k n a : Nat} (hsh : wx_sh σ.2.2.2.2 o k = (2, n)) (ha : wx_ad ad rd o k = a) {i : Int32} (hin : wx_in i n = true) (hdg : decode cc pc = .ok (.faload, 1))
    {v : UInt32} (hv : v = σ.2.1 o k i.toNatClampNeg) (kk : W p l e R s m args below meth c H locs cells slots Q (F0 m (pc + 1) ls (.float v :: rest))) : W p l e R s m args below meth c H locs cells slots Q (F0 m pc ls (.int i :: .ref a :: rest)) := by
  subst hv
  subst ha
  exact va_fald hx hb hK.1 (wx_single (Z.1 o k _ (by rw [hsh]; rfl))) 0 1 rfl rfl (wx_in_vp hin) hdg kk
theorem wx_bald (hx : p.tables.exec = Jvm.exec) (hb : c.code = cc) (hK : wx_K D ca s) (Z : wx_Z D ad rd ca A σ H) {o k n a : Nat} (hsh : wx_sh σ.2.2.2.2 o k = (4, n)) (ha : wx_ad ad rd o k = a) {i : Int32} (hin : wx_in i n = true) (hdg : decode cc pc = .ok (.aaload, 1))
    {v : Nat} (hv : v = wx_ro σ o i.toNatClampNeg) (kk : W p l e R s m args below meth c H locs cells slots Q (F0 m (pc + 1) ls (.ref (ad v 99) :: rest))) : W p l e R s m args below meth c H locs cells slots Q (F0 m pc ls (.int i :: .ref a :: rest)) := by
  subst hv
  subst ha
  exact va_aldq (f := fun i => some (ad (wx_ro σ o i) 99)) hx hb hK.1 (wx_single (Z.1 o k _ (by rw [hsh]; rfl))) 0 3 rfl rfl (wx_in_vp hin) hdg kk
theorem wx_ek_I {o k i : Nat} {x : Int32} {o' k' : Nat} (hk : ¬ (o' = o ∧ k' = k)) (t : Nat × Nat) : wx_ek ad rd ca (wx_sI σ o k i x) o' k' t = wx_ek ad rd ca σ o' k' t := by
  have h1 : (wx_sI σ o k i x).1 o' k' = σ.1 o' k' := by
    funext j
    show (if o' = o ∧ k' = k ∧ j = i then x else σ.1 o' k' j) = _
    rw [if_neg (fun z => hk ⟨z.1, z.2.1⟩)]
  have h2 : ∀ (o : Nat) (j : Nat) (cs : List Nat), wx_fl ad (wx_sI σ o k i x) o' j cs = wx_fl ad σ o' j cs := by
    intro o j cs
    induction cs generalizing j with
    | nil => rfl
    | cons c cs ih => simp only [wx_fl, ih]; rfl
  unfold wx_ek
  rw [h1, h2]
  rfl
theorem wx_ek_F {o k i : Nat} {x : UInt32} {o' k' : Nat} (hk : ¬ (o' = o ∧ k' = k)) (t : Nat × Nat) : wx_ek ad rd ca (wx_sF σ o k i x) o' k' t = wx_ek ad rd ca σ o' k' t := by
  have h1 : (wx_sF σ o k i x).2.1 o' k' = σ.2.1 o' k' := by
    funext j
    show (if o' = o ∧ k' = k ∧ j = i then x else σ.2.1 o' k' j) = _
    rw [if_neg (fun z => hk ⟨z.1, z.2.1⟩)]
  have h2 : ∀ (o : Nat) (j : Nat) (cs : List Nat), wx_fl ad (wx_sF σ o k i x) o' j cs = wx_fl ad σ o' j cs := by
    intro o j cs
    induction cs generalizing j with
    | nil => rfl
    | cons c cs ih => simp only [wx_fl, ih]; rfl
  unfold wx_ek
  rw [h1, h2]
  rfl
theorem wx_fl_S {o j : Nat} {x : Int32} {o' : Nat} (h : o' ≠ o) (i : Nat) (cs : List Nat) : wx_fl ad (wx_sS σ o j x) o' i cs = wx_fl ad σ o' i cs := by
  induction cs generalizing i with
  | nil => rfl
  | cons c cs ih =>
    simp only [wx_fl, ih]
    congr 1
    unfold wx_fv
    split
    · rfl
    · split
      · show Value.int (if o' = o ∧ i = j then x else σ.2.2.1 o' i) = _
        rw [if_neg (fun z => h z.1)]
      · rfl
theorem wx_ek_S {o j : Nat} {x : Int32} {o' k' : Nat} (t : Nat × Nat) (h : t.1 = 5 → o' ≠ o) : wx_ek ad rd ca (wx_sS σ o j x) o' k' t = wx_ek ad rd ca σ o' k' t := by
  unfold wx_ek
  by_cases ht : t.1 = 5
  · rw [wx_fl_S (h ht)]; rfl
  · simp only [if_neg ht]; rfl
theorem wx_iast (hx : p.tables.exec = Jvm.exec) (hb : c.code = cc) (hK : wx_K D ca s) (Z : wx_Z D ad rd ca A σ H) (hS : va_S A H0 H locs) {o k n a : Nat} (hsh : wx_sh σ.2.2.2.2 o k = (1, n)) (ha : wx_ad ad rd o k = a) {i x : Int32} (hin : wx_in i n = true) (hdg : decode cc pc = .ok (.iastore, 1))
    {τ : wx_St} (hv : τ = wx_sI σ o k i.toNatClampNeg x) (kk : ∀ (H1 : Heap) (locs1 : List Loc), wx_Z D ad rd ca A τ H1 → va_S A H0 H1 locs1 → W p l e R s m args below meth c H1 locs1 cells slots Q (F0 m (pc + 1) ls rest)) : W p l e R s m args below meth c H locs cells slots Q (F0 m pc ls (.int x :: .int i :: .ref a :: rest)) := by
  subst hv
  subst ha
  have he : wx_ek ad rd ca σ o k (wx_sh σ.2.2.2.2 o k) = some (.inl (ca 0, n, .inl (σ.1 o k))) := by rw [hsh]; rfl
  obtain ⟨q, hq⟩ := wx_ls_at he
  refine va_iast hx hb hK.1 (wx_ls_P Z.1) (wx_ls_D Z.2.1 Z.2.2) hS q 0 hq rfl (wx_in_vp hin) hdg fun H1 locs1 hP hD hS => ?_
  refine kk H1 locs1 (wx_back Z he hq hP rfl ?_ (fun o' k' h => wx_ek_I h _)) hS
  rw [hsh]
  refine congrArg (fun f : Nat → Int32 => (some (Sum.inl (ca 0, n, Sum.inl f)) : Option va_E)) (funext fun j => ?_)
  show (if o = o ∧ k = k ∧ j = i.toNatClampNeg then x else σ.1 o k j) = upd (σ.1 o k) i.toNatClampNeg x j
  simp [upd]
theorem wx_zast (hx : p.tables.exec = Jvm.exec) (hb : c.code = cc) (hK : wx_K D ca s) (Z : wx_Z D ad rd ca A σ H) (hS : va_S A H0 H locs) {o k n a : Nat} (hsh : wx_sh σ.2.2.2.2 o k = (3, n)) (ha : wx_ad ad rd o k = a) {i x : Int32} (hin : wx_in i n = true) (hdg : decode cc pc = .ok (.bastore, 1))
    {τ : wx_St} (hv : τ = wx_sI σ o k i.toNatClampNeg (vp_nar .boolean x)) (kk : ∀ (H1 : Heap) (locs1 : List Loc), wx_Z D ad rd ca A τ H1 → va_S A H0 H1 locs1 → W p l e R s m args below meth c H1 locs1 cells slots Q (F0 m (pc + 1) ls rest)) : W p l e R s m args below meth c H locs cells slots Q (F0 m pc ls (.int x :: .int i :: .ref a :: rest)) := by
  subst hv
  subst ha
  have he : wx_ek ad rd ca σ o k (wx_sh σ.2.2.2.2 o k) = some (.inl (ca 2, n, .inl (σ.1 o k))) := by rw [hsh]; rfl
  obtain ⟨q, hq⟩ := wx_ls_at he
  refine va_zast hx hb hK.1 (wx_ls_P Z.1) (wx_ls_D Z.2.1 Z.2.2) hS q 2 hq rfl (wx_in_vp hin) hdg fun H1 locs1 hP hD hS => ?_
  refine kk H1 locs1 (wx_back Z he hq hP rfl ?_ (fun o' k' h => wx_ek_I h _)) hS
  rw [hsh]
  refine congrArg (fun f : Nat → Int32 => (some (Sum.inl (ca 2, n, Sum.inl f)) : Option va_E)) (funext fun j => ?_)
  show (if o = o ∧ k = k ∧ j = i.toNatClampNeg then vp_nar .boolean x else σ.1 o k j) = upd (σ.1 o k) i.toNatClampNeg (vp_nar .boolean x) j
  simp [upd]
theorem wx_fast (hx : p.tables.exec = Jvm.exec) (hb : c.code = cc) (hK : wx_K D ca s) (Z : wx_Z D ad rd ca A σ H) (hS : va_S A H0 H locs) {o k n a : Nat} (hsh : wx_sh σ.2.2.2.2 o k = (2, n)) (ha : wx_ad ad rd o k = a) {i : Int32} {x : UInt32} (hin : wx_in i n = true) (hdg : decode cc pc = .ok (.fastore, 1))
    {τ : wx_St} (hv : τ = wx_sF σ o k i.toNatClampNeg x) (kk : ∀ (H1 : Heap) (locs1 : List Loc), wx_Z D ad rd ca A τ H1 → va_S A H0 H1 locs1 → W p l e R s m args below meth c H1 locs1 cells slots Q (F0 m (pc + 1) ls rest)) : W p l e R s m args below meth c H locs cells slots Q (F0 m pc ls (.float x :: .int i :: .ref a :: rest)) := by
  subst hv
  subst ha
  have he : wx_ek ad rd ca σ o k (wx_sh σ.2.2.2.2 o k) = some (.inl (ca 1, n, .inr (.inr (.inl (σ.2.1 o k))))) := by rw [hsh]; rfl
  obtain ⟨q, hq⟩ := wx_ls_at he
  refine va_fast hx hb hK.1 (wx_ls_P Z.1) (wx_ls_D Z.2.1 Z.2.2) hS q 1 hq rfl (wx_in_vp hin) hdg fun H1 locs1 hP hD hS => ?_
  refine kk H1 locs1 (wx_back Z he hq hP rfl ?_ (fun o' k' h => wx_ek_F h _)) hS
  rw [hsh]
  refine congrArg (fun f : Nat → UInt32 => (some (Sum.inl (ca 1, n, Sum.inr (Sum.inr (Sum.inl f)))) : Option va_E)) (funext fun j => ?_)
  show (if o = o ∧ k = k ∧ j = i.toNatClampNeg then x else σ.2.1 o k j) = vf_upd (σ.2.1 o k) i.toNatClampNeg x j
  simp [vf_upd]
/-- a board is written into the past's row -/
theorem wx_bast (hx : p.tables.exec = Jvm.exec) (hb : c.code = cc) (hK : wx_K D ca s) (Z : wx_Z D ad rd ca A σ H) (hS : va_S A H0 H locs) {b : Nat} (hbd : b < 11) {i : Int32} (hin : wx_in i 7 = true) (hdg : decode cc pc = .ok (.aastore, 1))
    {τ : wx_St} (hv : τ = wx_sR σ i.toNatClampNeg b) (kk : ∀ (H1 : Heap) (locs1 : List Loc), wx_Z D ad rd ca A τ H1 → va_S A H0 H1 locs1 → W p l e R s m args below meth c H1 locs1 cells slots Q (F0 m (pc + 1) ls rest)) : W p l e R s m args below meth c H locs cells slots Q (F0 m pc ls (.ref (ad b 99) :: .int i :: .ref (ad 14 0) :: rest)) := by
  subst hv
  have hsh : wx_sh σ.2.2.2.2 14 0 = (4, 7) := rfl
  have he : wx_ek ad rd ca σ 14 0 (wx_sh σ.2.2.2.2 14 0) = some (.inl (ca 3, 7, .inr (.inr (.inr (.inr (fun i => some (ad (wx_ro σ 14 i) 99))))))) := by rw [hsh]; rfl
  have hsb : wx_sh σ.2.2.2.2 b 99 = (5, 0) := if_pos hbd
  have heb : wx_ek ad rd ca σ b 99 (wx_sh σ.2.2.2.2 b 99) = some (.inr (0, wx_fl ad σ b 0 (wx_fc 0))) := by rw [hsb]; rfl
  obtain ⟨q, hq⟩ := wx_ls_at he
  obtain ⟨q2, hq2⟩ := wx_ls_at heb
  rw [wx_st (by decide)] at hq hq2
  refine va_astq hx hb hK.1 (wx_ls_P Z.1) (wx_ls_D Z.2.1 Z.2.2) hS q 3 q2 0 (r := (RX0, TX0, 13)) hq rfl hq2 rfl (wx_in_vp hin) hdg fun H1 locs1 hP hD hS => ?_
  refine kk H1 locs1 (wx_back (o := 14) (k := 0) Z he (by rw [wx_st (by decide)]; exact hq) (by rw [wx_st (by decide)]; exact hP) rfl ?_ (fun o' k' h => ?_)) hS
  · rw [hsh]
    refine congrArg (fun f : Nat → Option Nat => (some (Sum.inl (ca 3, 7, Sum.inr (Sum.inr (Sum.inr (Sum.inr f))))) : Option va_E)) (funext fun j => ?_)
    show some (ad (if 14 = 14 then (if j = i.toNatClampNeg then b else σ.2.2.2.1 j) else 9 + j) 99) = va_up (fun j => some (ad (if 14 = 14 then σ.2.2.2.1 j else 9 + j) 99)) i.toNatClampNeg (some (ad b 99)) j
    unfold va_up
    by_cases hj : j = i.toNatClampNeg <;> simp [hj]
  · have hfl : ∀ (j : Nat) (cs : List Nat), wx_fl ad (wx_sR σ i.toNatClampNeg b) o' j cs = wx_fl ad σ o' j cs := by
      intro j cs
      induction cs generalizing j with
      | nil => rfl
      | cons c cs ih => simp only [wx_fl, ih]; rfl
    unfold wx_ek
    rw [hfl]
    by_cases h4 : (wx_sh σ.2.2.2.2 o' k').1 = 4
    · have ho : o' ≠ 14 := by
        intro z
        subst z
        apply h
        refine ⟨rfl, ?_⟩
        by_cases hk : k' = 0
        · exact hk
        · exfalso
          have e1 : wx_sh σ.2.2.2.2 14 k' = if k' = 99 then (5, 3) else (0, 0) := by
            unfold wx_sh wx_sx
            rw [if_neg (by decide), if_neg (fun z => absurd z.2 (by decide))]
            simp [hk]
          rw [e1] at h4
          split at h4 <;> simp at h4
      rw [h4]
      show some (Sum.inl (ca 3, _, Sum.inr (Sum.inr (Sum.inr (Sum.inr (fun j => some (ad (if o' = 14 then _ else 9 + j) 99))))))) = some (Sum.inl (ca 3, _, Sum.inr (Sum.inr (Sum.inr (Sum.inr (fun j => some (ad (if o' = 14 then _ else 9 + j) 99)))))))
      simp only [if_neg ho]
    · simp only [if_neg h4]
      rfl
/-- a copy of ints from one row into another -/
theorem wx_copyi (hx : p.tables.exec = Jvm.exec) (hb : c.code = cc) (hml : c.maxLocals = ls.size) {own : String} {index : Nat} (hown : s.vm.findClass own = some m.cls) (hlink : (Cond.methodLink own index arraycopyName).before args s = true) (hnat : (Cond.native arraycopyName).before args s = true) (hstat : (Cond.static arraycopyName).before args s = true) (hini : (Cond.initialized "java/lang/System").before args s = true)
    (hK : wx_K D ca s) (Z : wx_Z D ad rd ca A σ H) (hS : va_S A H0 H locs) {o k n o' k' n' a a' : Nat} (hsh : wx_sh σ.2.2.2.2 o k = (1, n)) (hsh' : wx_sh σ.2.2.2.2 o' k' = (1, n')) (ha : wx_ad ad rd o k = a) (ha' : wx_ad ad rd o' k' = a')
    {sp dp z : Int32} (h1 : ¬ sp < 0) (h2 : ¬ dp < 0) (h3 : ¬ z < 0) (h4 : sp.toNatClampNeg + z.toNatClampNeg ≤ n) (h5 : dp.toNatClampNeg + z.toNatClampNeg ≤ n')
    (hframes : 1 ≤ R.frames) (hlocals : (rest.map fun v => v.category).sum + (nativeFrameWords "java/lang/System" "arraycopy" 5 + 11) ≤ R.locals) (hdg : decode cc pc = .ok (.invokestatic index, 3))
    {τ : wx_St} (hv : τ = wx_cI σ o k sp.toNatClampNeg o' k' dp.toNatClampNeg z.toNatClampNeg) (kk : ∀ (H1 : Heap) (locs1 : List Loc), wx_Z D ad rd ca A τ H1 → va_S A H0 H1 locs1 → W p l e R s m args below meth c H1 locs1 cells slots Q (F0 m (pc + 3) ls rest)) : W p l e R s m args below meth c H locs cells slots Q (F0 m pc ls (.int z :: .int dp :: .ref a' :: .int sp :: .ref a :: rest)) := by
  subst hv
  subst ha; subst ha'
  have he : wx_ek ad rd ca σ o k (wx_sh σ.2.2.2.2 o k) = some (.inl (ca 0, n, .inl (σ.1 o k))) := by rw [hsh]; rfl
  have he' : wx_ek ad rd ca σ o' k' (wx_sh σ.2.2.2.2 o' k') = some (.inl (ca 0, n', .inl (σ.1 o' k'))) := by rw [hsh']; rfl
  obtain ⟨q, hq⟩ := wx_ls_at he
  obtain ⟨q', hq'⟩ := wx_ls_at he'
  refine va_copyi hx hb hml hown hlink hnat hstat hini hK.1 (wx_ls_P Z.1) (wx_ls_D Z.2.1 Z.2.2) hS q q' 0 0 (ty := .int) hq hq' rfl rfl rfl h1 h2 h3 h4 h5 (fun i hi => rfl) hframes hlocals hdg fun H1 locs1 hP hD hS => ?_
  refine kk H1 locs1 (wx_back Z he' hq' hP rfl ?_ (fun x y h => ?_)) hS
  · rw [hsh']
    refine congrArg (fun f : Nat → Int32 => (some (Sum.inl (ca 0, n', Sum.inl f)) : Option va_E)) (funext fun j => ?_)
    show (if o' = o' ∧ k' = k' then _ else _) = _
    simp
  · have g1 : (wx_cI σ o k sp.toNatClampNeg o' k' dp.toNatClampNeg z.toNatClampNeg).1 x y = σ.1 x y := by
      funext j
      show (if x = o' ∧ y = k' then _ else _) = _
      rw [if_neg h]
    have g2 : ∀ (j : Nat) (cs : List Nat), wx_fl ad (wx_cI σ o k sp.toNatClampNeg o' k' dp.toNatClampNeg z.toNatClampNeg) x j cs = wx_fl ad σ x j cs := by
      intro j cs
      induction cs generalizing j with
      | nil => rfl
      | cons c cs ih => simp only [wx_fl, ih]; rfl
    unfold wx_ek
    rw [g1, g2]
    rfl
theorem wx_copyf (hx : p.tables.exec = Jvm.exec) (hb : c.code = cc) (hml : c.maxLocals = ls.size) {own : String} {index : Nat} (hown : s.vm.findClass own = some m.cls) (hlink : (Cond.methodLink own index arraycopyName).before args s = true) (hnat : (Cond.native arraycopyName).before args s = true) (hstat : (Cond.static arraycopyName).before args s = true) (hini : (Cond.initialized "java/lang/System").before args s = true)
    (hK : wx_K D ca s) (Z : wx_Z D ad rd ca A σ H) (hS : va_S A H0 H locs) {o k n o' k' n' a a' : Nat} (hsh : wx_sh σ.2.2.2.2 o k = (2, n)) (hsh' : wx_sh σ.2.2.2.2 o' k' = (2, n')) (ha : wx_ad ad rd o k = a) (ha' : wx_ad ad rd o' k' = a')
    {sp dp z : Int32} (h1 : ¬ sp < 0) (h2 : ¬ dp < 0) (h3 : ¬ z < 0) (h4 : sp.toNatClampNeg + z.toNatClampNeg ≤ n) (h5 : dp.toNatClampNeg + z.toNatClampNeg ≤ n')
    (hframes : 1 ≤ R.frames) (hlocals : (rest.map fun v => v.category).sum + (nativeFrameWords "java/lang/System" "arraycopy" 5 + 11) ≤ R.locals) (hdg : decode cc pc = .ok (.invokestatic index, 3))
    {τ : wx_St} (hv : τ = wx_cF σ o k sp.toNatClampNeg o' k' dp.toNatClampNeg z.toNatClampNeg) (kk : ∀ (H1 : Heap) (locs1 : List Loc), wx_Z D ad rd ca A τ H1 → va_S A H0 H1 locs1 → W p l e R s m args below meth c H1 locs1 cells slots Q (F0 m (pc + 3) ls rest)) : W p l e R s m args below meth c H locs cells slots Q (F0 m pc ls (.int z :: .int dp :: .ref a' :: .int sp :: .ref a :: rest)) := by
  subst hv
  subst ha; subst ha'
  have he : wx_ek ad rd ca σ o k (wx_sh σ.2.2.2.2 o k) = some (.inl (ca 1, n, .inr (.inr (.inl (σ.2.1 o k))))) := by rw [hsh]; rfl
  have he' : wx_ek ad rd ca σ o' k' (wx_sh σ.2.2.2.2 o' k') = some (.inl (ca 1, n', .inr (.inr (.inl (σ.2.1 o' k'))))) := by rw [hsh']; rfl
  obtain ⟨q, hq⟩ := wx_ls_at he
  obtain ⟨q', hq'⟩ := wx_ls_at he'
  refine va_copyf hx hb hml hown hlink hnat hstat hini hK.1 (wx_ls_P Z.1) (wx_ls_D Z.2.1 Z.2.2) hS q q' 1 1 (ty := .float) hq hq' rfl rfl rfl h1 h2 h3 h4 h5 (fun i hi => rfl) hframes hlocals hdg fun H1 locs1 hP hD hS => ?_
  refine kk H1 locs1 (wx_back Z he' hq' hP rfl ?_ (fun x y h => ?_)) hS
  · rw [hsh']
    refine congrArg (fun f : Nat → UInt32 => (some (Sum.inl (ca 1, n', Sum.inr (Sum.inr (Sum.inl f)))) : Option va_E)) (funext fun j => ?_)
    show (if o' = o' ∧ k' = k' then _ else _) = _
    simp
  · have g1 : (wx_cF σ o k sp.toNatClampNeg o' k' dp.toNatClampNeg z.toNatClampNeg).2.1 x y = σ.2.1 x y := by
      funext j
      show (if x = o' ∧ y = k' then _ else _) = _
      rw [if_neg h]
    have g2 : ∀ (j : Nat) (cs : List Nat), wx_fl ad (wx_cF σ o k sp.toNatClampNeg o' k' dp.toNatClampNeg z.toNatClampNeg) x j cs = wx_fl ad σ x j cs := by
      intro j cs
      induction cs generalizing j with
      | nil => rfl
      | cons c cs ih => simp only [wx_fl, ih]; rfl
    unfold wx_ek
    rw [g1, g2]
    rfl
/-- a nest mate's link: the word's place in wx_nest -/
theorem wx_nst (hC : wx_C D ad ca A s s.heap) (i : Nat) {w : Cond} (h : wx_nest[i]? = some w) (ho : w.onTables = true) : w.before args s = true := va_Nw.use ho (hC.1.2.1 w (List.mem_of_getElem? h))
theorem wx_get (hx : p.tables.exec = Jvm.exec) (hb : c.code = cc) {own ref C : String} {T : u_T} {N ci index : Nat} {Ts : List Cond} (hts : ∀ w ∈ Ts, w.before args s = true) (hin : ∀ w ∈ u_ws C T N, w ∈ Ts) (hown : s.vm.findClass own = some m.cls) (hK : wx_K D ca s) (Z : wx_Z D ad rd ca A σ H) {o : Nat} (hsh : wx_sh σ.2.2.2.2 o 99 = (5, ci)) (hc : vwCl[ci]? = some (C, T, N)) (k : Nat) (hk : k < N) (hlink : (Cond.fieldLink own index ref (T k).2.1 (T k).2.2.1).before args s = true) (hsame : ∀ x, s.fieldFound? (T k).1 (T k).2.1 (T k).2.2.1 = some x → s.fieldFound? ref (T k).2.1 (T k).2.2.1 = some x) {f : Nat} (hf : (wx_fc ci)[k]? = some f) {v : Value} (hv : wx_fv ad σ o k f = v) (hdg : decode cc pc = .ok (.getfield index, 3))
    (kk : W p l e R s m args below meth c H locs cells slots Q (F0 m (pc + 3) ls (v :: rest))) : W p l e R s m args below meth c H locs cells slots Q (F0 m pc ls (.ref (ad o 99) :: rest)) := by
  have h1 := wx_single (Z.1 o 99 (.inr (ci, wx_fl ad σ o 0 (wx_fc ci))) (by rw [hsh]; rfl))
  rw [wx_st (by decide)] at h1
  refine va_get hx hb hts hin hown hK.1 h1 0 rfl hc k hk hlink hsame (v := v) ?_ hdg kk
  rw [wx_fl_get, hf, ← hv, Nat.zero_add]
  rfl
theorem wx_getN (hx : p.tables.exec = Jvm.exec) (hb : c.code = cc) {own ref C host : String} {T : u_T} {N ci index : Nat} {Ts : List Cond} (hts : ∀ w ∈ Ts, w.before args s = true) (hin : ∀ w ∈ u_ws C T N, w ∈ Ts) (hown : s.vm.findClass own = some m.cls) (hK : wx_K D ca s) (Z : wx_Z D ad rd ca A σ H) {o : Nat} (hsh : wx_sh σ.2.2.2.2 o 99 = (5, ci)) (hc : vwCl[ci]? = some (C, T, N)) (k : Nat) (hk : k < N) (hlink : (Cond.fieldLinkNest own index ref (T k).2.1 (T k).2.2.1 host).before args s = true) (hsame : ∀ x, s.fieldFound? (T k).1 (T k).2.1 (T k).2.2.1 = some x → s.fieldFound? ref (T k).2.1 (T k).2.2.1 = some x) {f : Nat} (hf : (wx_fc ci)[k]? = some f) {v : Value} (hv : wx_fv ad σ o k f = v) (hdg : decode cc pc = .ok (.getfield index, 3))
    (kk : W p l e R s m args below meth c H locs cells slots Q (F0 m (pc + 3) ls (v :: rest))) : W p l e R s m args below meth c H locs cells slots Q (F0 m pc ls (.ref (ad o 99) :: rest)) := by
  have h1 := wx_single (Z.1 o 99 (.inr (ci, wx_fl ad σ o 0 (wx_fc ci))) (by rw [hsh]; rfl))
  rw [wx_st (by decide)] at h1
  refine va_getN hx hb hts hin hown hK.1 h1 0 rfl hc k hk hlink hsame (v := v) ?_ hdg kk
  rw [wx_fl_get, hf, ← hv, Nat.zero_add]
  rfl
theorem wx_fl_set {o j : Nat} {x : Int32} : ∀ (cs : List Nat) (i : Nat), i ≤ j → cs[j - i]? = some 1 → wx_fl ad (wx_sS σ o j x) o i cs = (wx_fl ad σ o i cs).set (j - i) (.int x) := by
  have hi : ∀ (cs : List Nat) (i : Nat), j < i → wx_fl ad (wx_sS σ o j x) o i cs = wx_fl ad σ o i cs := by
    intro cs
    induction cs with
    | nil => intro i _; rfl
    | cons c cs ih =>
      intro i h
      simp only [wx_fl, ih (i + 1) (by omega)]
      congr 1
      unfold wx_fv
      split
      · rfl
      · split
        · show Value.int (if o = o ∧ i = j then x else σ.2.2.1 o i) = _
          rw [if_neg (fun z => by omega)]
        · rfl
  intro cs
  induction cs with
  | nil => intro i _ h; simp at h
  | cons c cs ih =>
    intro i hij h
    by_cases he : i = j
    · subst he
      rw [Nat.sub_self] at h ⊢
      cases h
      simp only [wx_fl, List.set_cons_zero, hi cs (i + 1) (by omega)]
      congr 1
      show (if 1 = 0 then _ else if 1 = 1 then Value.int (if o = o ∧ i = i then x else _) else _) = _
      simp
    · obtain ⟨d, hd⟩ : ∃ d, j - i = d + 1 := ⟨j - i - 1, by omega⟩
      rw [hd] at h ⊢
      rw [List.getElem?_cons_succ] at h
      simp only [wx_fl, List.set_cons_succ]
      rw [ih (i + 1) (by omega) (by rw [show j - (i + 1) = d by omega]; exact h), show j - (i + 1) = d by omega]
      congr 1
      unfold wx_fv
      split
      · rfl
      · split
        · show Value.int (if o = o ∧ i = j then x else σ.2.2.1 o i) = _
          rw [if_neg (fun z => he z.2)]
        · rfl
theorem wx_sb5 : ∀ k : Nat, k < 164 → (wx_sb k).1 = 5 → k = 99 := by decide +kernel
theorem wx_sx5 : ∀ o : Nat, o < 17 → ∀ k : Nat, k < 164 → (wx_sx o k).1 = 5 → k = 99 := by decide +kernel
theorem wx_sh5 {al : Nat → Bool} {o k : Nat} (h : (wx_sh al o k).1 = 5) : k = 99 := by
  have hl := wx_sh_lt (al := al) (o := o) (k := k) (by rw [h]; decide)
  unfold wx_sh at h
  split at h
  · exact wx_sb5 k hl.2 h
  · split at h
    · split at h <;> exact absurd h (by decide)
    · exact wx_sx5 o hl.1 k hl.2 h
theorem wx_sb6 : ∀ k : Nat, k < 164 → (wx_sb k).1 ≤ 6 ∧ (wx_sb k).1 ≠ 6 := by decide +kernel
theorem wx_sx6 : ∀ o : Nat, o < 17 → ∀ k : Nat, k < 164 → (wx_sx o k).1 ≤ 6 ∧ ((wx_sx o k).1 = 6 → o = 13 ∧ k = 1) := by decide +kernel
theorem wx_sh_le {al : Nat → Bool} {o k : Nat} : (wx_sh al o k).1 ≤ 6 := by
  by_cases h0 : (wx_sh al o k).1 ≠ 0
  · have hl := wx_sh_lt h0
    unfold wx_sh
    split
    · exact (wx_sb6 k hl.2).1
    · split
      · split <;> exact by decide
      · exact (wx_sx6 o hl.1 k hl.2).1
  · omega
theorem wx_sh6 {al : Nat → Bool} {o k : Nat} (h : (wx_sh al o k).1 = 6) : o = 13 ∧ k = 1 := by
  have hl := wx_sh_lt (al := al) (o := o) (k := k) (by rw [h]; decide)
  unfold wx_sh at h
  split at h
  · exact absurd h (wx_sb6 k hl.2).2
  · split at h
    · split at h <;> exact absurd h (by decide)
    · exact (wx_sx6 o hl.1 k hl.2).2 h
theorem wx_putS (Z : wx_Z D ad rd ca A σ H) {o ci j : Nat} {x : Int32} (hsh : wx_sh σ.2.2.2.2 o 99 = (5, ci)) (hf : (wx_fc ci)[j]? = some 1) {q : Nat} (hq : (wx_ls ad rd ca σ)[q]? = some (ad o 99, .inr (ci, wx_fl ad σ o 0 (wx_fc ci)))) {H1 : Heap}
    (hP : va_P D vwCl ((wx_ls ad rd ca σ).set q (ad o 99, .inr (ci, (wx_fl ad σ o 0 (wx_fc ci)).set j (.int x)))) H1) : wx_Z D ad rd ca A (wx_sS σ o j x) H1 := by
  have he : wx_ek ad rd ca σ o 99 (wx_sh σ.2.2.2.2 o 99) = some (.inr (ci, wx_fl ad σ o 0 (wx_fc ci))) := by rw [hsh]; rfl
  have hst : wx_ad ad rd o 99 = ad o 99 := wx_st (by decide)
  refine wx_back (o := o) (k := 99) (p := q) Z he (by rw [hst]; exact hq) (by rw [hst]; exact hP) rfl ?_ (fun o' k' h => wx_ek_S _ (fun h5 => ?_))
  · rw [hsh]
    show some (Sum.inr (ci, wx_fl ad (wx_sS σ o j x) o 0 (wx_fc ci))) = _
    rw [wx_fl_set (wx_fc ci) 0 (Nat.zero_le _) (by rw [Nat.sub_zero]; exact hf), Nat.sub_zero]
  · intro z
    subst z
    apply h
    refine ⟨rfl, ?_⟩
    exact wx_sh5 h5
theorem wx_put (hx : p.tables.exec = Jvm.exec) (hb : c.code = cc) {own ref C : String} {T : u_T} {N ci index : Nat} {Ts : List Cond} (hts : ∀ w ∈ Ts, w.before args s = true) (hin : ∀ w ∈ u_ws C T N, w ∈ Ts) (ty0 : Nat → FieldType) (hty : ∀ k, k < N → parseFieldDescriptor (T k).2.2.1 = some (ty0 k)) (hnm : ∀ a, a < N → ∀ b, b < N → a ≠ b → (T a).2.1 ≠ (T b).2.1) (hown : s.vm.findClass own = some m.cls) (hK : wx_K D ca s) (Z : wx_Z D ad rd ca A σ H) (hS : va_S A H0 H locs) {o : Nat} (hsh : wx_sh σ.2.2.2.2 o 99 = (5, ci)) (hc : vwCl[ci]? = some (C, T, N)) (k : Nat) (hk : k < N) (hlink : (Cond.fieldLink own index ref (T k).2.1 (T k).2.2.1).before args s = true) (hsame : ∀ x, s.fieldFound? (T k).1 (T k).2.1 (T k).2.2.1 = some x → s.fieldFound? ref (T k).2.1 (T k).2.2.1 = some x) (hfin : (T k).2.2.2 = false) {x : Int32} (hd : parseFieldDescriptor (T k).2.2.1 = some .int) (hf : (wx_fc ci)[k]? = some 1)
    (hdg : decode cc pc = .ok (.putfield index, 3)) {τ : wx_St} (hv : τ = wx_sS σ o k x) (kk : ∀ (H1 : Heap) (locs1 : List Loc), wx_Z D ad rd ca A τ H1 → va_S A H0 H1 locs1 → W p l e R s m args below meth c H1 locs1 cells slots Q (F0 m (pc + 3) ls rest)) : W p l e R s m args below meth c H locs cells slots Q (F0 m pc ls (.int x :: .ref (ad o 99) :: rest)) := by
  subst hv
  have he : wx_ek ad rd ca σ o 99 (wx_sh σ.2.2.2.2 o 99) = some (.inr (ci, wx_fl ad σ o 0 (wx_fc ci))) := by rw [hsh]; rfl
  obtain ⟨q, hq⟩ := wx_ls_at he
  rw [wx_st (by decide)] at hq
  refine va_put hx hb hts hin ty0 hty hnm hown hK.1 (wx_ls_P Z.1) (wx_ls_D Z.2.1 Z.2.2) hS q hq hc k hk hlink hsame hfin (v := .int x) hd rfl rfl (by rw [wx_fl_len]; exact (List.getElem?_eq_some_iff.mp hf).1) hdg fun H1 locs1 hP hD hS => ?_
  exact kk H1 locs1 (wx_putS Z hsh hf hq hP) hS
theorem wx_putN (hx : p.tables.exec = Jvm.exec) (hb : c.code = cc) {own ref C host : String} {T : u_T} {N ci index : Nat} {Ts : List Cond} (hts : ∀ w ∈ Ts, w.before args s = true) (hin : ∀ w ∈ u_ws C T N, w ∈ Ts) (ty0 : Nat → FieldType) (hty : ∀ k, k < N → parseFieldDescriptor (T k).2.2.1 = some (ty0 k)) (hnm : ∀ a, a < N → ∀ b, b < N → a ≠ b → (T a).2.1 ≠ (T b).2.1) (hown : s.vm.findClass own = some m.cls) (hK : wx_K D ca s) (Z : wx_Z D ad rd ca A σ H) (hS : va_S A H0 H locs) {o : Nat} (hsh : wx_sh σ.2.2.2.2 o 99 = (5, ci)) (hc : vwCl[ci]? = some (C, T, N)) (k : Nat) (hk : k < N) (hlink : (Cond.fieldLinkNest own index ref (T k).2.1 (T k).2.2.1 host).before args s = true) (hsame : ∀ x, s.fieldFound? (T k).1 (T k).2.1 (T k).2.2.1 = some x → s.fieldFound? ref (T k).2.1 (T k).2.2.1 = some x) (hfin : (T k).2.2.2 = false) {x : Int32} (hd : parseFieldDescriptor (T k).2.2.1 = some .int) (hf : (wx_fc ci)[k]? = some 1)
    (hdg : decode cc pc = .ok (.putfield index, 3)) {τ : wx_St} (hv : τ = wx_sS σ o k x) (kk : ∀ (H1 : Heap) (locs1 : List Loc), wx_Z D ad rd ca A τ H1 → va_S A H0 H1 locs1 → W p l e R s m args below meth c H1 locs1 cells slots Q (F0 m (pc + 3) ls rest)) : W p l e R s m args below meth c H locs cells slots Q (F0 m pc ls (.int x :: .ref (ad o 99) :: rest)) := by
  subst hv
  have he : wx_ek ad rd ca σ o 99 (wx_sh σ.2.2.2.2 o 99) = some (.inr (ci, wx_fl ad σ o 0 (wx_fc ci))) := by rw [hsh]; rfl
  obtain ⟨q, hq⟩ := wx_ls_at he
  rw [wx_st (by decide)] at hq
  refine va_putN hx hb hts hin ty0 hty hnm hown hK.1 (wx_ls_P Z.1) (wx_ls_D Z.2.1 Z.2.2) hS q hq hc k hk hlink hsame hfin (v := .int x) hd rfl rfl (by rw [wx_fl_len]; exact (List.getElem?_eq_some_iff.mp hf).1) hdg fun H1 locs1 hP hD hS => ?_
  exact kk H1 locs1 (wx_putS Z hsh hf hq hP) hS
theorem wx_fadd (hx : p.tables.exec = Jvm.exec) (hb : c.code = cc) {x y z : UInt32} (hdg : decode cc pc = .ok (.fadd, 1)) (hz : z = FP.fadd x y) (hne : vf_n32 (FP.fadd x y)) (kk : W p l e R s m args below meth c H locs cells slots Q (F0 m (pc + 1) ls (.float z :: rest))) : W p l e R s m args below meth c H locs cells slots Q (F0 m pc ls (.float y :: .float x :: rest)) := by
  subst hz; exact lv_fadd hx hb hdg hne kk
theorem wx_fsub (hx : p.tables.exec = Jvm.exec) (hb : c.code = cc) {x y z : UInt32} (hdg : decode cc pc = .ok (.fsub, 1)) (hz : z = FP.fsub x y) (hne : vf_n32 (FP.fsub x y)) (kk : W p l e R s m args below meth c H locs cells slots Q (F0 m (pc + 1) ls (.float z :: rest))) : W p l e R s m args below meth c H locs cells slots Q (F0 m pc ls (.float y :: .float x :: rest)) := by
  subst hz; exact lv_fsub hx hb hdg hne kk
theorem wx_fmul (hx : p.tables.exec = Jvm.exec) (hb : c.code = cc) {x y z : UInt32} (hdg : decode cc pc = .ok (.fmul, 1)) (hz : z = FP.fmul x y) (hne : vf_n32 (FP.fmul x y)) (kk : W p l e R s m args below meth c H locs cells slots Q (F0 m (pc + 1) ls (.float z :: rest))) : W p l e R s m args below meth c H locs cells slots Q (F0 m pc ls (.float y :: .float x :: rest)) := by
  subst hz; exact lv_fmul hx hb hdg hne kk
theorem wx_fdiv (hx : p.tables.exec = Jvm.exec) (hb : c.code = cc) {x y z : UInt32} (hdg : decode cc pc = .ok (.fdiv, 1)) (hz : z = FP.fdiv x y) (hne : vf_n32 (FP.fdiv x y)) (kk : W p l e R s m args below meth c H locs cells slots Q (F0 m (pc + 1) ls (.float z :: rest))) : W p l e R s m args below meth c H locs cells slots Q (F0 m pc ls (.float y :: .float x :: rest)) := by
  subst hz; exact lv_fdiv hx hb hdg hne kk
theorem wx_f2d (hx : p.tables.exec = Jvm.exec) (hb : c.code = cc) {x : UInt32} {z : UInt64} (hdg : decode cc pc = .ok (.f2d, 1)) (hz : z = FP.f2d x) (hne : vf_n64 (FP.f2d x)) (kk : W p l e R s m args below meth c H locs cells slots Q (F0 m (pc + 1) ls (.double z :: rest))) : W p l e R s m args below meth c H locs cells slots Q (F0 m pc ls (.float x :: rest)) := by
  subst hz; exact lv_f2d hx hb hdg hne kk
theorem wx_dadd (hx : p.tables.exec = Jvm.exec) (hb : c.code = cc) {x y z : UInt64} (hdg : decode cc pc = .ok (.dadd, 1)) (hz : z = FP.dadd x y) (hne : vf_n64 (FP.dadd x y)) (kk : W p l e R s m args below meth c H locs cells slots Q (F0 m (pc + 1) ls (.double z :: rest))) : W p l e R s m args below meth c H locs cells slots Q (F0 m pc ls (.double y :: .double x :: rest)) := by
  subst hz; exact lv_dadd hx hb hdg hne kk
theorem wx_dmul (hx : p.tables.exec = Jvm.exec) (hb : c.code = cc) {x y z : UInt64} (hdg : decode cc pc = .ok (.dmul, 1)) (hz : z = FP.dmul x y) (hne : vf_n64 (FP.dmul x y)) (kk : W p l e R s m args below meth c H locs cells slots Q (F0 m (pc + 1) ls (.double z :: rest))) : W p l e R s m args below meth c H locs cells slots Q (F0 m pc ls (.double y :: .double x :: rest)) := by
  subst hz; exact lv_dmul hx hb hdg hne kk
theorem wx_ddiv (hx : p.tables.exec = Jvm.exec) (hb : c.code = cc) {x y z : UInt64} (hdg : decode cc pc = .ok (.ddiv, 1)) (hz : z = FP.ddiv x y) (hne : vf_n64 (FP.ddiv x y)) (kk : W p l e R s m args below meth c H locs cells slots Q (F0 m (pc + 1) ls (.double z :: rest))) : W p l e R s m args below meth c H locs cells slots Q (F0 m pc ls (.double y :: .double x :: rest)) := by
  subst hz; exact lv_ddiv hx hb hdg hne kk
theorem wx_ldcwF (hx : p.tables.exec = Jvm.exec) (hb : c.code = cc) {own : String} {index : Nat} {v : UInt32} (hown : s.vm.findClass own = some m.cls) (hconst : (Cond.constantFloat own index v).before args s = true) (hdg : decode cc pc = .ok (.ldc_w index, 3)) (kk : W p l e R s m args below meth c H locs cells slots Q (F0 m (pc + 3) ls (.float v :: rest))) : W p l e R s m args below meth c H locs cells slots Q (F0 m pc ls rest) := by
  obtain ⟨kc, cf, hk, hcf, hcp⟩ := Cond.constantFloat_spec hown hconst
  have hdg2 : decode c.code pc = .ok (.ldc_w index, 3) := by rw [hb]; exact hdg
  intro T hT X
  obtain ⟨t, a, b⟩ := kk T hT X
  obtain ⟨k', hk', he⟩ := X.warmed.alike.2.2 _ _ hk
  refine ⟨t, ?_, b⟩
  jvm_step X.here [hx, hdg2, ldc_w.wp_float (s := T) (f := F0 m pc ls rest) X.here.top hk' (by rw [he]; exact hcf) hcp]
  exact a
theorem wx_nb {x : Int32} (h : x = 0 ∨ x = 1) : narrow .boolean (.int x) = .int x := by rcases h with rfl | rfl <;> rfl
/-! calls -/
theorem wx_blind {vs : List Value} : FrameBlind (va_Pc vs (wx_U D ad rd ca A σ)) := by
  intro a U g mk h
  obtain ⟨h1, h2, h3, h4⟩ := h
  exact ⟨h1, wx_C.same (u := U) (U := U.calling g mk a) rfl rfl h2, h3, h4⟩
theorem wx_preS {As : List Value} (hC : wx_C D ad ca A s s.heap) (Z : wx_Z D ad rd ca A σ H) (hS : va_S A s.heap H locs) (hA : ∀ q : Nat, s.heap.size ≤ q → A q) : PreS s H (va_Pc As (wx_U D ad rd ca A σ)) As :=
  ⟨wx_blind, fun U hU hW => ⟨rfl, wx_C.next hC hS hU hW, by rw [hU]; exact Z, fun q hq => hA q (Nat.le_trans hS.1 (by rw [← hU]; exact hq))⟩⟩
theorem wx_preV {As : List Value} (hC : wx_C D ad ca A s s.heap) (Z : wx_Z D ad rd ca A σ H) (hS : va_S A s.heap H locs) (hA : ∀ q : Nat, s.heap.size ≤ q → A q) {o ci N : Nat} {C : String} {T : u_T} (hsh : wx_sh σ.2.2.2.2 o 99 = (5, ci)) (hc : vwCl[ci]? = some (C, T, N)) : PreV s H C (ad o 99) (va_Pc (.ref (ad o 99) :: As) (wx_U D ad rd ca A σ)) As := by
  have h1 := wx_single (Z.1 o 99 (.inr (ci, wx_fl ad σ o 0 (wx_fc ci))) (by rw [hsh]; rfl))
  rw [wx_st (by decide)] at h1
  exact ⟨wx_blind, va_recv hC.1.1 h1 hc (q0 := 0) rfl, (wx_preS hC Z hS hA).2⟩
variable {mc ms : Nat} {st0 : List Value} {a : Array Value} {ov : Option Value} {σ' : wx_St}
theorem wx_call (hr : va_Run p l e R s m args below meth c H locs cells slots 0 0 (F0 m pc ls st0) rest (wx_Q D ad rd ca A ov σ' a) A) (hS : va_S A H0 H locs)
    (kk : ∀ (H1 : Heap) (locs1 : List Loc), wx_Z D ad rd ca A σ' H1 → va_S A H0 H1 locs1 → W p l e R s m args below meth c H1 locs1 cells slots Q (F0 m (pc + 3) ls (ov.toList ++ rest))) : W p l e R s m args below meth c H locs cells slots Q (F0 m pc ls st0) := by
  intro T hT X
  obtain ⟨v, st₀, t, T', L, h0, X', hL, e1, e2, ⟨hv, hZ, hz, hk⟩, st⟩ := hr T hT X
  cases hv
  rw [h0] at hz hk
  obtain ⟨t2, a1, b1⟩ := kk T'.heap (locs ++ L) (by rw [e1]; exact hZ)
    ⟨Nat.le_trans hS.1 (by rw [e1]; exact hz), fun q h1 h2 => by rw [e1, hk q (Nat.lt_of_lt_of_le h1 hS.1) h2]; exact hS.2.1 q h1 h2, fun q hq => by
      rcases List.mem_append.mp hq with h | h
      · exact hS.2.2 q h
      · exact hL q h⟩ T' rfl X'
  exact ⟨t2, st t2 a1, b1⟩
end wxrows
/-- what holds in a method's body -/
def wx_B (p : Program) (s : State) (m : MethodId) (args : Array Value) (meth : Method) (c : Code) (cc : ByteArray) (nL : Nat) (rt : Option FieldType) (Ts : List Cond) (own : String) (D : va_G) (ad : Nat → Nat → Nat) (ca : Nat → ClassId) (A : Nat → Prop) : Prop :=
  p.tables.exec = Jvm.exec ∧ c.code = cc ∧ c.maxLocals = nL ∧ meth.sig.returnType = rt ∧ (∀ w ∈ Ts, w.before args s = true) ∧ s.vm.findClass own = some m.cls ∧ meth.locks = false ∧ wx_C D ad ca A s s.heap ∧ (∀ q : Nat, s.heap.size ≤ q → A q)
/-! rows that lone makes: how many there are, and what making one does -/
/-- the last forty count the rows that a comparison made -/
def wx_n (al : Nat → Bool) : Nat := (List.range 104).countP al
def wx_rA {α : Type} (σ : wx_St) (i : Int32) (f : Bool → Option α) : Option α := if wx_in i 64 = true then f (σ.2.2.2.2 i.toNatClampNeg) else none
theorem wx_rA_ok {α : Type} {σ : wx_St} {i : Int32} {f : Bool → Option α} {r : α} (h : wx_rA σ i f = some r) : ∃ v : Bool, v = σ.2.2.2.2 i.toNatClampNeg ∧ wx_in i 64 = true ∧ f v = some r := by
  unfold wx_rA at h; split at h
  · exact ⟨_, rfl, by assumption, h⟩
  · exact absurd h (by simp)
theorem wx_in_lt {i : Int32} {n : Nat} (h : wx_in i n = true) : i.toNatClampNeg < n := by
  have h1 := wx_in_vp h
  exact Nat.not_le.mp (fun q => h1 (Or.inr q))
theorem wx_countP_add {al al' : Nat → Bool} {j : Nat} (h0 : ¬ al j = true) (h1 : al' j = true) (ho : ∀ i, i ≠ j → al' i = al i) : ∀ n : Nat, (List.range n).countP al' = (List.range n).countP al + (if j < n then 1 else 0) := by
  intro n
  induction n with
  | zero => rfl
  | succ n ih =>
    rw [List.range_succ, List.countP_append, List.countP_append, ih, List.countP_singleton, List.countP_singleton]
    by_cases hj : j = n
    · subst hj
      simp [h0, h1]
    · rw [ho n (fun z => hj z.symm)]
      by_cases hl : j < n
      · rw [if_pos hl, if_pos (show j < n + 1 by omega)]; omega
      · rw [if_neg hl, if_neg (show ¬ j < n + 1 by omega)]; omega
theorem wx_nA {σ σ' : wx_St} {i : Int32} (hin : wx_in i 64 = true) (h : ¬ σ.2.2.2.2 i.toNatClampNeg = true) (e : σ' = wx_sA σ i.toNatClampNeg) : wx_n σ'.2.2.2.2 = wx_n σ.2.2.2.2 + 1 := by
  subst e
  unfold wx_n
  rw [wx_countP_add (al := σ.2.2.2.2) h (by show (if i.toNatClampNeg = i.toNatClampNeg then true else _) = true; rw [if_pos rfl]) (fun k hk => by show (if k = i.toNatClampNeg then true else _) = _; rw [if_neg hk]) 104, if_pos (Nat.lt_trans (wx_in_lt hin) (by decide))]
theorem wx_shr {al : Nat → Bool} {j : Nat} (h : al j = true) (hj : j < 64) : wx_sh al 13 (100 + j) = (2, 6464) := by
  unfold wx_sh
  rw [if_neg (by decide), if_pos ⟨by omega, rfl⟩, if_pos ⟨by omega, by rw [show 100 + j - 100 = j by omega]; exact h⟩]
theorem wx_adr {ad : Nat → Nat → Nat} {rd : Nat → Nat} {j : Nat} : wx_ad ad rd 13 (100 + j) = rd j := by
  unfold wx_ad
  rw [if_pos ⟨by omega, rfl⟩, show 100 + j - 100 = j by omega]
section wxalloc
variable {p : Program} {l : Launch} {e : Env} {R : Room} {s : State} {m : MethodId} {args : Array Value} {below : List Frame} {meth : Method} {c : Code} {H : Heap} {locs : List Loc} {cells slots : Nat} {Q : State → Prop}
variable {cc : ByteArray} {pc : Nat} {ls : Array Slot} {rest : List Value} {D : va_G} {ad : Nat → Nat → Nat} {rd : Nat → Nat} {ca : Nat → ClassId} {A : Nat → Prop} {σ : wx_St} {H0 : Heap}
theorem wx_rald (hx : p.tables.exec = Jvm.exec) (hb : c.code = cc) (hK : wx_K D ca s) (Z : wx_Z D ad rd ca A σ H) {i : Int32} (hin : wx_in i 64 = true) (hdg : decode cc pc = .ok (.aaload, 1))
    (kk : W p l e R s m args below meth c H locs cells slots Q (F0 m (pc + 1) ls (va_rf (if σ.2.2.2.2 i.toNatClampNeg = true then some (rd i.toNatClampNeg) else none) :: rest))) : W p l e R s m args below meth c H locs cells slots Q (F0 m pc ls (.int i :: .ref (ad 13 1) :: rest)) := by
  have hv := wx_in_vp hin
  have hlt := wx_in_lt hin
  have hc : H[ad 13 1]? = some (arrV (ca 4) 64 (fun j => va_rf (if σ.2.2.2.2 j = true then some (rd j) else none))) := Z.1 13 1 (.inl (ca 4, 64, .inr (.inr (.inr (.inr (fun i => if σ.2.2.2.2 i = true then some (rd i) else none)))))) rfl
  exact W.aald (v := va_rf (if σ.2.2.2.2 i.toNatClampNeg = true then some (rd i.toNatClampNeg) else none)) (ty := .array .float) hx hb hc ((hK.1.2 4 _ rfl).1 64 (fun j => va_rf (if σ.2.2.2.2 j = true then some (rd j) else none))) rfl (fun q => by cases q) (by show ¬ (i < 0 ∨ (arrV _ _ _).slots.size ≤ _); rw [arrV_size]; exact hv) (by show (arrV _ _ _).slots[_]? = _; rw [arrV_read _ _ hlt]) rfl rfl hdg kk
theorem wx_rald1 (hx : p.tables.exec = Jvm.exec) (hb : c.code = cc) (hK : wx_K D ca s) (Z : wx_Z D ad rd ca A σ H) {i : Int32} (hin : wx_in i 64 = true) (hal : σ.2.2.2.2 i.toNatClampNeg = true) (hdg : decode cc pc = .ok (.aaload, 1))
    (kk : W p l e R s m args below meth c H locs cells slots Q (F0 m (pc + 1) ls (.ref (wx_ad ad rd 13 (100 + i.toNatClampNeg)) :: rest))) : W p l e R s m args below meth c H locs cells slots Q (F0 m pc ls (.int i :: .ref (ad 13 1) :: rest)) := by
  refine wx_rald hx hb hK Z hin hdg ?_
  rw [if_pos hal]
  rw [wx_adr] at kk
  exact kk
theorem wx_rald0 (hx : p.tables.exec = Jvm.exec) (hb : c.code = cc) (hK : wx_K D ca s) (Z : wx_Z D ad rd ca A σ H) {i : Int32} (hin : wx_in i 64 = true) (hal : ¬ σ.2.2.2.2 i.toNatClampNeg = true) (hdg : decode cc pc = .ok (.aaload, 1))
    (kk : W p l e R s m args below meth c H locs cells slots Q (F0 m (pc + 1) ls (.null :: rest))) : W p l e R s m args below meth c H locs cells slots Q (F0 m pc ls (.int i :: .ref (ad 13 1) :: rest)) := by
  refine wx_rald hx hb hK Z hin hdg ?_
  rw [if_neg hal]
  exact kk
/-- new float[6464], stored in lone's row of rows -/
theorem wx_newrow (hx : p.tables.exec = Jvm.exec) (hb : c.code = cc) (hK : wx_K D ca s) (Z : wx_Z D ad rd ca A σ H) (hS : va_S A H0 H locs) (hA : ∀ q : Nat, H0.size ≤ q → A q) (hw : (Cond.arrayClass .float).before args s = true) {i : Int32} (hin : wx_in i 64 = true) (hal : ¬ σ.2.2.2.2 i.toNatClampNeg = true) (hcells : cells + 1 ≤ R.cells) (hslots : slots + 6464 ≤ R.slots)
    (hdg : decode cc pc = .ok (.newarray .float, 2)) (hdg2 : decode cc (pc + 2) = .ok (.aastore, 1)) {τ : wx_St} (hv : τ = wx_sA σ i.toNatClampNeg)
    (kk : ∀ (rd' : Nat → Nat) (H1 : Heap) (locs1 : List Loc), wx_Z D ad rd' ca A τ H1 → va_S A H0 H1 locs1 → W p l e R s m args below meth c H1 locs1 (cells + 1) (slots + 6464) Q (F0 m (pc + 3) ls rest)) : W p l e R s m args below meth c H locs cells slots Q (F0 m pc ls (.int 6464 :: .int i :: .ref (ad 13 1) :: rest)) := by
  subst hv
  have hv := wx_in_vp hin
  have hlt := wx_in_lt hin
  generalize hj : i.toNatClampNeg = j at *
  have hc : H[ad 13 1]? = some (arrV (ca 4) 64 (fun j => va_rf (if σ.2.2.2.2 j = true then some (rd j) else none))) := Z.1 13 1 (.inl (ca 4, 64, .inr (.inr (.inr (.inr (fun i => if σ.2.2.2.2 i = true then some (rd i) else none)))))) rfl
  have hcl : ad 13 1 < H.size := (Array.getElem?_eq_some_iff.mp hc).1
  refine va_newaK (atype := .float) hx hb hw rfl hdg (n := 6464) (N := 6464) rfl (by decide) (by decide) (by decide) hcells hslots rfl fun H1 cA e1 z1 o1 hAr hNm => ?_
  have hcA : cA = ca 1 := Option.some.inj (hNm.symm.trans ((hK.1.2 1 _ rfl).2))
  subst hcA
  obtain ⟨kF, hkF, hkind⟩ := hK.2.2
  obtain ⟨-, kA, hkA, -⟩ := (hK.1.2 1 _ rfl).1 6464 (fun _ => .float 0)
  refine W.aast hx hb (a := ad 13 1) (v := H.size) (by rw [o1 _ hcl]; exact hc) (fun q h => by cases h) (fun h => by cases h) hkF hkind rfl hkA ⟨fun q => hv (Or.inl q), by show _ < (arrV _ _ _).slots.size; rw [arrV_size, hj]; exact hlt⟩ e1 (fun q h => by cases h) hkA (by show s.vm.assignableAux (255 + 1) (ca 1) (ca 1) = true; rw [Vm.assignableAux]; simp) rfl rfl hdg2 fun H2 e2 z2 oq => ?_
  have hne : ∀ o k : Nat, (wx_sh σ.2.2.2.2 o k).1 ≠ 0 → wx_ad ad rd o k < H.size := by
    intro o k h
    have hex : ∃ e', wx_ek ad rd ca σ o k (wx_sh σ.2.2.2.2 o k) = some e' := by
      have hkd : (wx_sh σ.2.2.2.2 o k).1 ≤ 6 := wx_sh_le
      unfold wx_ek
      split
      · exact ⟨_, rfl⟩
      · split
        · exact ⟨_, rfl⟩
        · split
          · exact ⟨_, rfl⟩
          · split
            · exact ⟨_, rfl⟩
            · split
              · exact ⟨_, rfl⟩
              · split
                · exact ⟨_, rfl⟩
                · omega
    obtain ⟨e', he'⟩ := hex
    exact (Z.1 o k e' he').lt
  have hsh' : ∀ o k : Nat, ¬ (o = 13 ∧ k = 100 + j) → wx_sh (wx_sA σ j).2.2.2.2 o k = wx_sh σ.2.2.2.2 o k := by
    intro o k h
    unfold wx_sh
    by_cases h1 : o < 11
    · rw [if_pos h1, if_pos h1]
    · rw [if_neg h1, if_neg h1]
      by_cases h2 : 100 ≤ k ∧ o = 13
      · rw [if_pos h2, if_pos h2]
        have h3 : (wx_sA σ j).2.2.2.2 (k - 100) = σ.2.2.2.2 (k - 100) := by
          show (if k - 100 = j then true else _) = _
          rw [if_neg (fun z => h ⟨h2.2, by omega⟩)]
        rw [h3]
      · rw [if_neg h2, if_neg h2]
  have had' : ∀ o k : Nat, ¬ (o = 13 ∧ k = 100 + j) → wx_ad ad (fun i => if i = j then H.size else rd i) o k = wx_ad ad rd o k := by
    intro o k h
    unfold wx_ad
    by_cases h2 : 100 ≤ k ∧ o = 13
    · rw [if_pos h2, if_pos h2]
      show (if k - 100 = j then H.size else rd (k - 100)) = _
      rw [if_neg (fun z => h ⟨h2.2, by omega⟩)]
    · rw [if_neg h2, if_neg h2]
  have hadj : wx_ad ad (fun i => if i = j then H.size else rd i) 13 (100 + j) = H.size := by
    rw [wx_adr]; exact if_pos rfl
  have halj : (wx_sA σ j).2.2.2.2 j = true := by
    show (if j = j then true else _) = true
    rw [if_pos rfl]
  have hshj : wx_sh (wx_sA σ j).2.2.2.2 13 (100 + j) = (2, 6464) := wx_shr halj hlt
  refine kk (fun i => if i = j then H.size else rd i) H2 _ ⟨?_, ?_, ?_⟩ ⟨Nat.le_trans hS.1 (by omega), fun q h1 h2 => ?_, fun q hq => ?_⟩
  · intro o k x hx9
    by_cases hk : o = 13 ∧ k = 100 + j
    · obtain ⟨rfl, rfl⟩ := hk
      rw [hshj] at hx9
      rw [hadj]
      have hx8 : x = Sum.inl (ca 1, 6464, Sum.inr (Sum.inr (Sum.inl ((wx_sA σ j).2.1 13 (100 + j))))) := (Option.some.inj hx9).symm
      subst hx8
      show H2[H.size]? = some (vp_cell _ _)
      rw [oq H.size (show H.size ≠ ad 13 1 by omega), e1]
      show some (arrV (ca 1) 6464 (fun _ => Value.float 0)) = some (arrV (ca 1) 6464 (fun q => Value.float ((wx_sA σ j).2.1 13 (100 + j) q)))
      have : (wx_sA σ j).2.1 13 (100 + j) = fun _ => 0 := by
        funext q
        show (if 13 = 13 ∧ 100 + j = 100 + j then (0 : UInt32) else _) = 0
        rw [if_pos ⟨rfl, rfl⟩]
      rw [this]
    · rw [hsh' o k hk] at hx9
      rw [had' o k hk]
      by_cases hf : o = 13 ∧ k = 1
      · obtain ⟨rfl, rfl⟩ := hf
        have hx8 : x = Sum.inl (ca 4, 64, Sum.inr (Sum.inr (Sum.inr (Sum.inr (fun i => if (wx_sA σ j).2.2.2.2 i = true then some (if i = j then H.size else rd i) else none))))) := (Option.some.inj hx9).symm
        subst hx8
        show H2[ad 13 1]? = some (arrV (ca 4) 64 (fun q => va_rf (if (wx_sA σ j).2.2.2.2 q = true then some (if q = j then H.size else rd q) else none)))
        rw [e2, hj, arrV_store]
        congr 2
        funext q
        show updV (fun q => va_rf (if σ.2.2.2.2 q = true then some (rd q) else none)) j (.ref H.size) q = va_rf (if (if q = j then true else σ.2.2.2.2 q) = true then some (if q = j then H.size else rd q) else none)
        by_cases hq : q = j
        · subst hq
          simp [updV, va_rf]
        · simp [updV, hq]
      · have hold : wx_ek ad rd ca σ o k (wx_sh σ.2.2.2.2 o k) = some x := by
          have h6 : (wx_sh σ.2.2.2.2 o k).1 ≠ 6 := fun z => hf (wx_sh6 z)
          have hfl : ∀ (n : Nat) (cs : List Nat), wx_fl ad (wx_sA σ j) o n cs = wx_fl ad σ o n cs := by
            intro n cs
            induction cs generalizing n with
            | nil => rfl
            | cons c cs ih => simp only [wx_fl, ih]; rfl
          have hF : (wx_sA σ j).2.1 o k = σ.2.1 o k := by
            funext q
            show (if o = 13 ∧ k = 100 + j then (0 : UInt32) else σ.2.1 o k q) = _
            rw [if_neg hk]
          rw [← hx9]
          unfold wx_ek
          rw [hfl, hF]
          simp only [if_neg h6]
          rfl
        have h9 := Z.1 o k x hold
        have hl9 := h9.lt
        refine va_at.kept h9 ?_
        rw [oq _ ?_, o1 _ hl9]
        intro z
        have hpr : (wx_sh σ.2.2.2.2 o k).1 ≠ 0 := wx_pr hold
        have := Z.2.1 o k 13 1 hpr (show (wx_sh σ.2.2.2.2 13 1).1 ≠ 0 from (by decide : (6 : Nat) ≠ 0)) (z.trans (wx_st (by decide)).symm)
        exact hf this
  · intro o k o' k' h1 h2 h3
    by_cases hk : o = 13 ∧ k = 100 + j
    · obtain ⟨rfl, rfl⟩ := hk
      by_cases hk' : o' = 13 ∧ k' = 100 + j
      · exact ⟨hk'.1.symm, hk'.2.symm⟩
      · rw [hadj, had' o' k' hk'] at h3
        rw [hsh' o' k' hk'] at h2
        have := hne o' k' h2
        omega
    · rw [hsh' o k hk] at h1
      rw [had' o k hk] at h3
      by_cases hk' : o' = 13 ∧ k' = 100 + j
      · obtain ⟨rfl, rfl⟩ := hk'
        rw [hadj] at h3
        have := hne o k h1
        omega
      · rw [had' o' k' hk'] at h3
        rw [hsh' o' k' hk'] at h2
        exact Z.2.1 o k o' k' h1 h2 h3
  · intro o k h
    by_cases hk : o = 13 ∧ k = 100 + j
    · obtain ⟨rfl, rfl⟩ := hk
      rw [hadj]
      exact hA _ hS.1
    · rw [hsh' o k hk] at h
      rw [had' o k hk]
      exact Z.2.2 o k h
  · rw [oq q (fun z => h2 (by rw [z]; have := Z.2.2 13 1 (by decide : (6 : Nat) ≠ 0); rw [wx_st (by decide)] at this; exact this)), o1 q (Nat.lt_of_lt_of_le h1 hS.1)]
    exact hS.2.1 q h1 h2
  · rcases List.mem_append.mp hq with h | h
    · exact hS.2.2 q h
    · have hq' : q = ⟨ad 13 1, i.toNatClampNeg⟩ := by simpa using h
      rw [hq']
      have := Z.2.2 13 1 (by decide : (6 : Nat) ≠ 0)
      rw [wx_st (by decide)] at this
      exact this
def wx_QA (D : va_G) (ad : Nat → Nat → Nat) (ca : Nat → ClassId) (A : Nat → Prop) (ov : Option Value) (σ' : wx_St) : Array Value → State → Outcome → State → Prop := fun _ st oc t =>
  oc = .returned ov ∧ (∃ rd', wx_Z D ad rd' ca A σ' t.heap) ∧ va_F A st t
/-- a contract of a method that may make rows -/
abbrev wx_MA (l : Launch) (y : MethodName) (ws : List Cond) (fr lo : Nat) (D : va_G) (ad : Nat → Nat → Nat) (rd : Nat → Nat) (ca : Nat → ClassId) (A : Nat → Prop) (vs : List Value) (σ : wx_St) (ov : Option Value) (σ' : wx_St) : Prop :=
  Met l y ws ({ frames := fr, cells := wx_n σ'.2.2.2.2 - wx_n σ.2.2.2.2, slots := 6464 * (wx_n σ'.2.2.2.2 - wx_n σ.2.2.2.2), locals := lo } : Room) (va_Pc vs (wx_U D ad rd ca A σ)) (wx_QA D ad ca A ov σ') (wx_n σ'.2.2.2.2 - wx_n σ.2.2.2.2) (6464 * (wx_n σ'.2.2.2.2 - wx_n σ.2.2.2.2)) A
variable {mc ms : Nat} {st0 : List Value} {a : Array Value} {ov : Option Value} {σ' : wx_St}
theorem wx_callA (hr : va_Run p l e R s m args below meth c H locs cells slots mc ms (F0 m pc ls st0) rest (wx_QA D ad ca A ov σ' a) A) (hS : va_S A H0 H locs)
    (kk : ∀ (rd' : Nat → Nat) (H1 : Heap) (locs1 : List Loc), wx_Z D ad rd' ca A σ' H1 → va_S A H0 H1 locs1 → W p l e R s m args below meth c H1 locs1 (cells + mc) (slots + ms) Q (F0 m (pc + 3) ls (ov.toList ++ rest))) : W p l e R s m args below meth c H locs cells slots Q (F0 m pc ls st0) := by
  intro T hT X
  obtain ⟨v, st₀, t, T', L, h0, X', hL, e1, e2, ⟨hv, ⟨rd', hZ⟩, hz, hk⟩, st⟩ := hr T hT X
  cases hv
  rw [h0] at hz hk
  obtain ⟨t2, a1, b1⟩ := kk rd' T'.heap (locs ++ L) (by rw [e1]; exact hZ)
    ⟨Nat.le_trans hS.1 (by rw [e1]; exact hz), fun q h1 h2 => by rw [e1, hk q (Nat.lt_of_lt_of_le h1 hS.1) h2]; exact hS.2.1 q h1 h2, fun q hq => by
      rcases List.mem_append.mp hq with h | h
      · exact hS.2.2 q h
      · exact hL q h⟩ T' rfl X'
  exact ⟨t2, st t2 a1, b1⟩
end wxalloc
end
section
/-! THE LAW'S OWN METHODS: the script, the row of a comparison (made anew each time, kept beside the world) -/
def wx_nz {α : Type} (x : Int32) (f : Option α) : Option α := if x = 0 then none else f
theorem wx_nz_ok {α : Type} {x : Int32} {f : Option α} {r : α} (h : wx_nz x f = some r) : ¬ x = 0 ∧ f = some r := by
  unfold wx_nz at h; split at h
  · exact absurd h (by simp)
  · exact ⟨by assumption, h⟩
def wx_rX {α : Type} (ad : Nat → Nat → Nat) (i : Int32) (f : Int32 → Option α) : Option α := if wx_in i (ad 18 1) = true then f (nI (ad 19 i.toNatClampNeg)) else none
theorem wx_rX_ok {α : Type} {ad : Nat → Nat → Nat} {i : Int32} {f : Int32 → Option α} {r : α} (h : wx_rX ad i f = some r) : ∃ v : Int32, v = nI (ad 19 i.toNatClampNeg) ∧ wx_in i (ad 18 1) = true ∧ f v = some r := by
  unfold wx_rX at h; split at h
  · exact ⟨_, rfl, by assumption, h⟩
  · exact absurd h (by simp)
def wx_Am (A : Nat → Prop) (m : Nat) : Nat → Prop := fun q => A q ∧ q ≠ m
def wx_mt (al : Nat → Bool) : Nat := (List.range 40).countP (fun i => al (64 + i))
def wx_sM (σ : wx_St) : wx_St := (fun a b c => if a = 16 ∧ b = 5 then 0 else σ.1 a b c, σ.2.1, σ.2.2.1, σ.2.2.2.1, fun j => if j = 64 + wx_mt σ.2.2.2.2 then true else σ.2.2.2.2 j)
def wx_mk {α : Type} (σ : wx_St) (f : wx_St → Option α) : Option α := if wx_mt σ.2.2.2.2 < 40 ∧ σ.2.2.2.2 (64 + wx_mt σ.2.2.2.2) = false then f (wx_sM σ) else none
theorem wx_mk_ok {α : Type} {σ : wx_St} {f : wx_St → Option α} {r : α} (h : wx_mk σ f = some r) : ∃ z : wx_St, z = wx_sM σ ∧ (wx_mt σ.2.2.2.2 < 40 ∧ σ.2.2.2.2 (64 + wx_mt σ.2.2.2.2) = false) ∧ f z = some r := by
  unfold wx_mk at h; split at h
  · exact ⟨_, rfl, by assumption, h⟩
  · exact absurd h (by simp)
theorem wx_nM {σ z : wx_St} (q : wx_mt σ.2.2.2.2 < 40 ∧ σ.2.2.2.2 (64 + wx_mt σ.2.2.2.2) = false) (e : z = wx_sM σ) : wx_n z.2.2.2.2 = wx_n σ.2.2.2.2 + 1 := by
  subst e
  unfold wx_n
  rw [wx_countP_add (al := σ.2.2.2.2) (j := 64 + wx_mt σ.2.2.2.2) (by rw [q.2]; decide) (by show (if 64 + wx_mt σ.2.2.2.2 = 64 + wx_mt σ.2.2.2.2 then true else _) = true; rw [if_pos rfl]) (fun k hk => by show (if k = 64 + wx_mt σ.2.2.2.2 then true else _) = _; rw [if_neg hk]) 104, if_pos (by omega)]
def wx_kM (ρ τ : wx_St) : wx_St := (fun a b c => if a = 16 ∧ b = 5 then ρ.1 a b c else τ.1 a b c, τ.2.1, τ.2.2.1, τ.2.2.2.1, τ.2.2.2.2)
theorem wx_kMal {σ τ z : wx_St} (h : z = wx_kM σ τ) : z.2.2.2.2 = τ.2.2.2.2 := by rw [h]; rfl
def wx_bM {α β : Type} (σ : wx_St) (m : Option (α × wx_St)) (f : α → wx_St → Option β) : Option β := match m with
  | none => none
  | some r => f r.1 (wx_kM σ r.2)
theorem wx_bM_ok {α β : Type} {σ : wx_St} {m : Option (α × wx_St)} {f : α → wx_St → Option β} {r : β} (h : wx_bM σ m f = some r) : ∃ (a : α) (τ z : wx_St), m = some (a, τ) ∧ z = wx_kM σ τ ∧ f a z = some r := by
  cases m with
  | none => exact absurd h (by simp [wx_bM])
  | some q => exact ⟨q.1, q.2, _, rfl, rfl, h⟩
theorem wx_refs {D : va_G} {cl : List vw_C} {q n : Nat} {c : ClassId} {f g : Nat → Option Nat} {H : Heap} (h : ∀ j, j < n → f j = g j) (hq : va_at D cl (q, .inl (c, n, .inr (.inr (.inr (.inr f))))) H) : va_at D cl (q, .inl (c, n, .inr (.inr (.inr (.inr g))))) H := by
  have h1 : H[q]? = some (arrV c n (fun j => va_rf (f j))) := hq
  show H[q]? = some (arrV c n (fun j => va_rf (g j)))
  have e : (Array.ofFn (n := n) fun j => va_rf (f j.val)) = Array.ofFn (n := n) fun j => va_rf (g j.val) := by
    congr 1
    funext j
    rw [h j.val j.isLt]
  have e2 : arrV c n (fun j => va_rf (f j)) = arrV c n (fun j => va_rf (g j)) := by
    unfold arrV
    rw [e]
  rw [h1, e2]
theorem wx_fl_like {ad : Nat → Nat → Nat} {σ τ : wx_St} (h : τ.2.2.1 = σ.2.2.1) (o : Nat) : ∀ (cs : List Nat) (j : Nat), wx_fl ad τ o j cs = wx_fl ad σ o j cs
  | [], _ => rfl
  | c :: cs, j => by
    simp only [wx_fl]
    rw [wx_fl_like h o cs (j + 1)]
    unfold wx_fv
    rw [h]
theorem wx_sh_like {al al' : Nat → Bool} (h : ∀ j, j < 64 → al' j = al j) : wx_sh al' = wx_sh al := by
  funext o k
  unfold wx_sh
  by_cases h1 : o < 11
  · rw [if_pos h1, if_pos h1]
  · rw [if_neg h1, if_neg h1]
    by_cases h2 : 100 ≤ k ∧ o = 13
    · rw [if_pos h2, if_pos h2]
      by_cases h3 : k < 164
      · rw [h (k - 100) (by omega)]
      · rw [if_neg (fun hh => h3 hh.1), if_neg (fun hh => h3 hh.1)]
    · rw [if_neg h2, if_neg h2]
theorem wx_Z.like {D : va_G} {ad : Nat → Nat → Nat} {rd : Nat → Nat} {ca : Nat → ClassId} {A : Nat → Prop} {σ τ : wx_St} {H : Heap} (Z : wx_Z D ad rd ca A σ H) (h1 : ∀ o k, ¬ (o = 16 ∧ k = 5) → τ.1 o k = σ.1 o k) (h2 : τ.2.1 = σ.2.1) (h3 : τ.2.2.1 = σ.2.2.1) (h4 : τ.2.2.2.1 = σ.2.2.2.1) (h5 : ∀ j, j < 64 → τ.2.2.2.2 j = σ.2.2.2.2 j) : wx_Z D ad rd ca A τ H := by
  have hsh := wx_sh_like h5
  obtain ⟨ZP, ZJ, ZO⟩ := Z
  refine ⟨fun o k e he => ?_, fun o k o' k' a b c => ?_, fun o k a => ?_⟩
  · rw [hsh] at he
    by_cases hk : o = 16 ∧ k = 5
    · obtain ⟨rfl, rfl⟩ := hk
      exact absurd he (by
        show ¬ (none : Option va_E) = some e
        simp)
    · by_cases h6 : (wx_sh σ.2.2.2.2 o k).1 = 6
      · obtain ⟨rfl, rfl⟩ := wx_sh6 h6
        have hx8 : e = Sum.inl (ca 4, 64, Sum.inr (Sum.inr (Sum.inr (Sum.inr (fun i => if τ.2.2.2.2 i = true then some (rd i) else none))))) := (Option.some.inj he).symm
        subst hx8
        have h9 := ZP 13 1 (Sum.inl (ca 4, 64, Sum.inr (Sum.inr (Sum.inr (Sum.inr (fun i => if σ.2.2.2.2 i = true then some (rd i) else none)))))) rfl
        exact wx_refs (fun j hj => by rw [h5 j hj]) h9
      · refine ZP o k e ?_
        rw [← he]
        unfold wx_ek
        rw [wx_fl_like h3, h1 o k hk, h2]
        simp only [if_neg h6]
        unfold wx_ro
        rw [h4]
  · rw [hsh] at a b
    exact ZJ o k o' k' a b c
  · rw [hsh] at a
    exact ZO o k a
theorem wx_Z.mono {D : va_G} {ad : Nat → Nat → Nat} {rd : Nat → Nat} {ca : Nat → ClassId} {A A' : Nat → Prop} {σ : wx_St} {H : Heap} (Z : wx_Z D ad rd ca A σ H) (h : ∀ q, A q → A' q) : wx_Z D ad rd ca A' σ H := ⟨Z.1, Z.2.1, fun o k a => h _ (Z.2.2 o k a)⟩
theorem wx_T.mono {ad : Nat → Nat → Nat} {A A' : Nat → Prop} {U : State} {H : Heap} (h : wx_T ad A U H) (hq : ∀ q, A' q → A q) : wx_T ad A' U H := by
  have z : ∀ {C n d : String} {v : Value}, va_Z C n d v A U H → va_Z C n d v A' U H := by
    rintro C n d v ⟨cf, kf, fi, f, a, cell, h1, h2, h3, h4, h5, h6, h7, h8⟩
    exact ⟨cf, kf, fi, f, a, cell, h1, h2, h3, h4, h5, h6, h7, fun hh => h8 (hq _ hh)⟩
  have t : ∀ {ty : FieldType} {t N : Nat} {f : Nat → Value}, va_T ty t N f A U H → va_T ty t N f A' U H := by
    rintro ty t N f ⟨cell, h1, h2, h3, h4, h5, h6, h7⟩
    exact ⟨cell, h1, h2, h3, h4, h5, h6, fun hh => h7 (hq _ hh)⟩
  exact ⟨⟨z h.1.1, z h.1.2.1, z h.1.2.2⟩, ⟨t h.2.1.1, t h.2.1.2.1, t h.2.1.2.2⟩, ⟨h.2.2.1, h.2.2.2.1, fun hh => h.2.2.2.2 (hq _ hh)⟩⟩
theorem wx_C.mono {D : va_G} {ad : Nat → Nat → Nat} {ca : Nat → ClassId} {A A' : Nat → Prop} {U : State} {H : Heap} (h : wx_C D ad ca A U H) (hq : ∀ q, A' q → A q) : wx_C D ad ca A' U H := ⟨h.1, h.2.1.mono hq, trivial⟩
/-- the world beside the row of a comparison -/
def wx_ZM (D : va_G) (ad : Nat → Nat → Nat) (rd : Nat → Nat) (ca : Nat → ClassId) (A : Nat → Prop) (h0 mm : Nat) (σ : wx_St) (H : Heap) : Prop := wx_Z D ad rd ca (wx_Am A mm) σ H ∧ va_at D vwCl (mm, .inl (ca 0, 8, .inl (σ.1 16 5))) H ∧ h0 ≤ mm
theorem wx_ZM.out {D : va_G} {ad : Nat → Nat → Nat} {rd : Nat → Nat} {ca : Nat → ClassId} {A : Nat → Prop} {h0 mm : Nat} {σ : wx_St} {H : Heap} (Z : wx_ZM D ad rd ca A h0 mm σ H) : wx_Z D ad rd ca A σ H := Z.1.mono (fun _ h => h.1)
section wxmrows
variable {p : Program} {l : Launch} {e : Env} {R : Room} {s : State} {m : MethodId} {args : Array Value} {below : List Frame} {meth : Method} {c : Code} {H : Heap} {locs : List Loc} {cells slots : Nat} {Q : State → Prop}
variable {cc : ByteArray} {pc : Nat} {ls : Array Slot} {rest : List Value} {D : va_G} {ad : Nat → Nat → Nat} {rd : Nat → Nat} {ca : Nat → ClassId} {A : Nat → Prop} {σ : wx_St} {H0 : Heap}
theorem wx_newM (hx : p.tables.exec = Jvm.exec) (hb : c.code = cc) (hK : wx_K D ca s) (Z : wx_Z D ad rd ca A σ H) (hS : va_S A s.heap H locs) (hA : ∀ q : Nat, s.heap.size ≤ q → A q) (hw : (Cond.arrayClass .int).before args s = true) (hcells : cells + 1 ≤ R.cells) (hslots : slots + 8 ≤ R.slots)
    (hdg : decode cc pc = .ok (.newarray .int, 2)) {τ : wx_St} (hv : τ = wx_sM σ)
    (kk : ∀ (mm : Nat) (H1 : Heap), wx_ZM D ad rd ca A s.heap.size mm τ H1 → va_S A s.heap H1 locs → W p l e R s m args below meth c H1 locs (cells + 1) (slots + 8) Q (F0 m (pc + 2) ls (.ref mm :: rest))) : W p l e R s m args below meth c H locs cells slots Q (F0 m pc ls (.int 8 :: rest)) := by
  subst hv
  refine va_newaK (atype := .int) hx hb hw rfl hdg (n := 8) (N := 8) rfl (by decide) (by decide) (by decide) hcells hslots rfl fun H1 cA e1 z1 o1 hAr hNm => ?_
  have hcA : cA = ca 0 := Option.some.inj (hNm.symm.trans ((hK.1.2 0 _ rfl).2))
  subst hcA
  have Z1 : wx_Z D ad rd ca (wx_Am A H.size) σ H1 := by
    refine ⟨fun o k x hx => va_at.kept (Z.1 o k x hx) (o1 _ (Z.1 o k x hx).lt), Z.2.1, fun o k h0 => ⟨Z.2.2 o k h0, ?_⟩⟩
    have hex : ∃ e', wx_ek ad rd ca σ o k (wx_sh σ.2.2.2.2 o k) = some e' := by
      have hkd : (wx_sh σ.2.2.2.2 o k).1 ≤ 6 := wx_sh_le
      unfold wx_ek
      split
      · exact ⟨_, rfl⟩
      · split
        · exact ⟨_, rfl⟩
        · split
          · exact ⟨_, rfl⟩
          · split
            · exact ⟨_, rfl⟩
            · split
              · exact ⟨_, rfl⟩
              · split
                · exact ⟨_, rfl⟩
                · omega
    obtain ⟨e', he'⟩ := hex
    have := (Z.1 o k e' he').lt
    exact Nat.ne_of_lt this
  refine kk H.size H1 ⟨Z1.like (fun o k h => ?_) rfl rfl rfl (fun j hj => ?_), ?_, hS.1⟩ ⟨Nat.le_trans hS.1 (by omega), fun q h1 h2 => ?_, hS.2.2⟩
  · funext j
    show (if o = 16 ∧ k = 5 then (0 : Int32) else σ.1 o k j) = _
    rw [if_neg h]
  · show (if j = 64 + wx_mt σ.2.2.2.2 then true else σ.2.2.2.2 j) = _
    rw [if_neg (by omega)]
  · show H1[H.size]? = some (arrV (ca 0) 8 (fun j => Value.int ((wx_sM σ).1 16 5 j)))
    have : (wx_sM σ).1 16 5 = fun _ => 0 := by
      funext q
      show (if (16 : Nat) = 16 ∧ (5 : Nat) = 5 then (0 : Int32) else σ.1 16 5 q) = 0
      exact if_pos ⟨rfl, rfl⟩
    rw [this, e1]
    rfl
  · rw [o1 q (Nat.lt_of_lt_of_le h1 hS.1)]
    exact hS.2.1 q h1 h2
variable {mm h0 : Nat}
theorem wx_ialdM (hx : p.tables.exec = Jvm.exec) (hb : c.code = cc) (hK : wx_K D ca s) (Z : wx_ZM D ad rd ca A h0 mm σ H) {i : Int32} (hin : wx_in i 8 = true) (hdg : decode cc pc = .ok (.iaload, 1))
    {v : Int32} (hv : v = σ.1 16 5 i.toNatClampNeg) (kk : W p l e R s m args below meth c H locs cells slots Q (F0 m (pc + 1) ls (.int v :: rest))) : W p l e R s m args below meth c H locs cells slots Q (F0 m pc ls (.int i :: .ref mm :: rest)) := by
  subst hv
  exact va_iald hx hb hK.1 (wx_single Z.2.1) 0 0 rfl rfl (wx_in_vp hin) hdg kk
theorem wx_iastM (hx : p.tables.exec = Jvm.exec) (hb : c.code = cc) (hK : wx_K D ca s) (Z : wx_ZM D ad rd ca A s.heap.size mm σ H) (hS : va_S A s.heap H locs) (hA : ∀ q : Nat, s.heap.size ≤ q → A q) {i x : Int32} (hin : wx_in i 8 = true) (hdg : decode cc pc = .ok (.iastore, 1))
    {τ : wx_St} (hv : τ = wx_sI σ 16 5 i.toNatClampNeg x) (kk : ∀ (H1 : Heap) (locs1 : List Loc), wx_ZM D ad rd ca A s.heap.size mm τ H1 → va_S A s.heap H1 locs1 → W p l e R s m args below meth c H1 locs1 cells slots Q (F0 m (pc + 1) ls rest)) : W p l e R s m args below meth c H locs cells slots Q (F0 m pc ls (.int x :: .int i :: .ref mm :: rest)) := by
  subst hv
  obtain ⟨Z1, Z2, Z3⟩ := Z
  obtain ⟨L, hLP, hD0, hLat⟩ : ∃ L : va_W, va_P D vwCl L H ∧ va_D (wx_Am A mm) L ∧ ∀ (o k : Nat) (x : va_E), wx_ek ad rd ca σ o k (wx_sh σ.2.2.2.2 o k) = some x → ∃ q : Nat, L[q]? = some (wx_ad ad rd o k, x) := ⟨wx_ls ad rd ca σ, wx_ls_P Z1.1, wx_ls_D Z1.2.1 Z1.2.2, fun o k x hx => wx_ls_at hx⟩
  have hP : va_P D vwCl ((mm, .inl (ca 0, 8, .inl (σ.1 16 5))) :: L) H := by
    intro k q hq
    cases k with
    | zero => cases hq; exact Z2
    | succ k => rw [List.getElem?_cons_succ] at hq; exact hLP k q hq
  have hD : va_D A ((mm, .inl (ca 0, 8, .inl (σ.1 16 5))) :: L) := by
    refine ⟨fun i j p q hi hj hpq => ?_, fun k q hq => ?_⟩
    · cases i with
      | zero =>
        cases j with
        | zero => rfl
        | succ j =>
          cases hi
          rw [List.getElem?_cons_succ] at hj
          exact absurd hpq.symm (hD0.2 j q hj).2
      | succ i =>
        rw [List.getElem?_cons_succ] at hi
        cases j with
        | zero =>
          cases hj
          exact absurd hpq (hD0.2 i p hi).2
        | succ j =>
          rw [List.getElem?_cons_succ] at hj
          exact congrArg (· + 1) (hD0.1 i j p q hi hj hpq)
    · cases k with
      | zero => cases hq; exact hA mm Z3
      | succ k => rw [List.getElem?_cons_succ] at hq; exact (hD0.2 k q hq).1
  refine va_iast hx hb hK.1 hP hD hS 0 0 rfl rfl (wx_in_vp hin) hdg fun H1 locs1 hP hD hS => ?_
  rw [List.set_cons_zero] at hP
  have Z1' : wx_Z D ad rd ca (wx_Am A mm) σ H1 := by
    refine ⟨fun o k x hx => ?_, Z1.2⟩
    obtain ⟨q, hq⟩ := hLat o k x hx
    exact hP (q + 1) _ (by rw [List.getElem?_cons_succ]; exact hq)
  refine kk H1 locs1 ⟨Z1'.like (fun o k h => ?_) rfl rfl rfl (fun _ _ => rfl), ?_, Z3⟩ hS
  · funext j
    show (if o = 16 ∧ k = 5 ∧ j = i.toNatClampNeg then x else σ.1 o k j) = _
    rw [if_neg (fun hh => h ⟨hh.1, hh.2.1⟩)]
  · have h8 := hP 0 _ rfl
    have e : (wx_sI σ 16 5 i.toNatClampNeg x).1 16 5 = upd (σ.1 16 5) i.toNatClampNeg x := by
      funext j
      show (if 16 = 16 ∧ 5 = 5 ∧ j = i.toNatClampNeg then x else σ.1 16 5 j) = upd (σ.1 16 5) i.toNatClampNeg x j
      simp [upd]
    rw [e]
    exact h8
variable {mc ms : Nat} {st0 : List Value} {a : Array Value} {ov : Option Value} {σ' : wx_St}
theorem wx_callM (hr : va_Run p l e R s m args below meth c H locs cells slots 0 0 (F0 m pc ls st0) rest (wx_Q D ad rd ca (wx_Am A mm) ov σ a) (wx_Am A mm)) (Z : wx_ZM D ad rd ca A h0 mm σ H) (hS : va_S A H0 H locs)
    (kk : ∀ (H1 : Heap) (locs1 : List Loc), wx_ZM D ad rd ca A h0 mm σ H1 → va_S A H0 H1 locs1 → W p l e R s m args below meth c H1 locs1 cells slots Q (F0 m (pc + 3) ls (ov.toList ++ rest))) : W p l e R s m args below meth c H locs cells slots Q (F0 m pc ls st0) := by
  intro T hT X
  obtain ⟨v, st₀, t, T', L, h0', X', hL, e1, e2, ⟨hv, hZ, hz, hk⟩, st⟩ := hr T hT X
  cases hv
  rw [h0'] at hz hk
  obtain ⟨t2, a1, b1⟩ := kk T'.heap (locs ++ L) (by rw [e1]; exact ⟨hZ, va_at.kept Z.2.1 (hk mm Z.2.1.lt (fun hh => hh.2 rfl)), Z.2.2⟩)
    ⟨Nat.le_trans hS.1 (by rw [e1]; exact hz), fun q h1 h2 => by rw [e1, hk q (Nat.lt_of_lt_of_le h1 hS.1) (fun hh => h2 hh.1)]; exact hS.2.1 q h1 h2, fun q hq => by
      rcases List.mem_append.mp hq with h | h
      · exact hS.2.2 q h
      · exact (hL q h).1⟩ T' rfl X'
  exact ⟨t2, st t2 a1, b1⟩
theorem wx_callAM (hr : va_Run p l e R s m args below meth c H locs cells slots mc ms (F0 m pc ls st0) rest (wx_QA D ad ca (wx_Am A mm) ov σ' a) (wx_Am A mm)) (Z : wx_ZM D ad rd ca A h0 mm σ H) (hS : va_S A H0 H locs) {z : wx_St} (ez : z = wx_kM σ σ')
    (kk : ∀ (rd' : Nat → Nat) (H1 : Heap) (locs1 : List Loc), wx_ZM D ad rd' ca A h0 mm z H1 → va_S A H0 H1 locs1 → W p l e R s m args below meth c H1 locs1 (cells + mc) (slots + ms) Q (F0 m (pc + 3) ls (ov.toList ++ rest))) : W p l e R s m args below meth c H locs cells slots Q (F0 m pc ls st0) := by
  subst ez
  intro T hT X
  obtain ⟨v, st₀, t, T', L, h0', X', hL, e1, e2, ⟨hv, ⟨rd', hZ⟩, hz, hk⟩, st⟩ := hr T hT X
  cases hv
  rw [h0'] at hz hk
  have hZ' : wx_ZM D ad rd' ca A h0 mm (wx_kM σ σ') T'.heap := by
    rw [e1]
    refine ⟨hZ.like (fun o k h => ?_) rfl rfl rfl (fun _ _ => rfl), ?_, Z.2.2⟩
    · funext j
      show (if o = 16 ∧ k = 5 then σ.1 o k j else σ'.1 o k j) = _
      rw [if_neg h]
    · have e : (wx_kM σ σ').1 16 5 = σ.1 16 5 := by
        funext j
        show (if 16 = 16 ∧ 5 = 5 then σ.1 16 5 j else σ'.1 16 5 j) = _
        rw [if_pos ⟨rfl, rfl⟩]
      rw [e]
      exact va_at.kept Z.2.1 (hk mm Z.2.1.lt (fun hh => hh.2 rfl))
  obtain ⟨t2, a1, b1⟩ := kk rd' T'.heap (locs ++ L) hZ'
    ⟨Nat.le_trans hS.1 (by rw [e1]; exact hz), fun q h1 h2 => by rw [e1, hk q (Nat.lt_of_lt_of_le h1 hS.1) (fun hh => h2 hh.1)]; exact hS.2.1 q h1 h2, fun q hq => by
      rcases List.mem_append.mp hq with h | h
      · exact hS.2.2 q h
      · exact (hL q h).1⟩ T' rfl X'
  exact ⟨t2, st t2 a1, b1⟩
theorem wx_preSM {As : List Value} (hC : wx_C D ad ca A s s.heap) (hA : ∀ q : Nat, s.heap.size ≤ q → A q) (Z : wx_ZM D ad rd ca A s.heap.size mm σ H) (hS : va_S A s.heap H locs) : PreS s H (va_Pc As (wx_U D ad rd ca (wx_Am A mm) σ)) As :=
  ⟨wx_blind, fun U hU hW => ⟨rfl, (wx_C.next hC hS hU hW).mono (fun _ h => h.1), by rw [hU]; exact Z.1, fun q hq => by
    rw [hU] at hq
    exact ⟨hA q (Nat.le_trans hS.1 hq), fun e => by have := Z.2.1.lt; have h2 : mm < H.size := this; omega⟩⟩⟩
theorem wx_preVM {As : List Value} (hC : wx_C D ad ca A s s.heap) (hA : ∀ q : Nat, s.heap.size ≤ q → A q) (Z : wx_ZM D ad rd ca A s.heap.size mm σ H) (hS : va_S A s.heap H locs) {o ci N : Nat} {C : String} {T : u_T} (hsh : wx_sh σ.2.2.2.2 o 99 = (5, ci)) (hc : vwCl[ci]? = some (C, T, N)) : PreV s H C (ad o 99) (va_Pc (.ref (ad o 99) :: As) (wx_U D ad rd ca (wx_Am A mm) σ)) As := by
  have h1 := wx_single (Z.1.1 o 99 (.inr (ci, wx_fl ad σ o 0 (wx_fc ci))) (by rw [hsh]; rfl))
  rw [wx_st (by decide)] at h1
  exact ⟨wx_blind, va_recv hC.1.1 h1 hc (q0 := 0) rfl, (wx_preSM hC hA Z hS).2⟩
end wxmrows
end
section
def f_L_cell_21 (ad : Nat → Nat → Nat)  (x1 : Int32) (y0 : Int32) : Option Int32 :=
  some y0
def f_L_cell (ad : Nat → Nat → Nat)  (x1 : Int32) : Option Int32 :=
  if (nI (ad 18 1)) ≤ x1 then
    f_L_cell_21 ad x1 (((1033861975 : Int32) * (x1 + 1)) + (684254885 : Int32))
   else
    wx_rX ad x1 (fun v8 => f_L_cell_21 ad x1 v8)
def f_L_low   (x0 : Int32) (x1 : Int32) : Option Int32 :=
  wx_nz x1 (some ((x0 &&& (2147483647 : Int32)) - (x0 &&& (2147483647 : Int32)) / x1 * x1))
def f_L_net_32   (x0 : Int32) (x1 : Int32) (y0 : Int32) (σ : wx_St) : Option Int32 :=
  some y0
def f_L_net_20   (x0 : Int32) (x1 : Int32) (σ : wx_St) : Option Int32 :=
  f_L_net_32 x0 x1 0 σ
def f_L_net   (x0 : Int32) (x1 : Int32) (σ : wx_St) : Option Int32 :=
  if x0 < 0 then
    f_L_net_20 x0 x1 σ
   else
    if x1 < 0 then
      f_L_net_20 x0 x1 σ
     else
      if 7 < x0 then
        f_L_net_20 x0 x1 σ
       else
        if x1 ≤ 7 then
          wx_rI σ 16 3 64 ((8 * x0) + x1) (fun v31 => f_L_net_32 x0 x1 v31 σ)
         else
          f_L_net_20 x0 x1 σ
def f_L_beside_79   (x0 : Int32) (x1 : Int32) (y0 : Int32) (σ : wx_St) : Option Int32 :=
  some y0
def f_L_beside   (x0 : Int32) (x1 : Int32) (σ : wx_St) : Option Int32 :=
  if x1 = 0 then
    wx_o (f_L_net ((x0 / 8) - 1) (x0 - x0 / 8 * 8) σ) (fun v15 => f_L_beside_79 x0 x1 v15 σ)
   else
    if x1 = 1 then
      wx_o (f_L_net ((x0 / 8) + 1) (x0 - x0 / 8 * 8) σ) (fun v37 => f_L_beside_79 x0 x1 v37 σ)
     else
      if x1 = 2 then
        wx_o (f_L_net (x0 / 8) ((x0 - x0 / 8 * 8) - 1) σ) (fun v59 => f_L_beside_79 x0 x1 v59 σ)
       else
        wx_o (f_L_net (x0 / 8) ((x0 - x0 / 8 * 8) + 1) σ) (fun v76 => f_L_beside_79 x0 x1 v76 σ)
def f_L_near_36   (x0 : Int32) (x1 : Int32) (x2 : Int32) (x3 : Int32) (y0 : Int32) : Option Int32 :=
  wx_z y0 (some y0)
def f_L_near   (x0 : Int32) (x1 : Int32) : Option Int32 :=
  if ((((x0 / 8) - (x1 / 8)) * ((x0 / 8) - (x1 / 8))) + (((x0 - x0 / 8 * 8) - (x1 - x1 / 8 * 8)) * ((x0 - x0 / 8 * 8) - (x1 - x1 / 8 * 8)))) = 1 then
    f_L_near_36 x0 x1 ((x0 / 8) - (x1 / 8)) ((x0 - x0 / 8 * 8) - (x1 - x1 / 8 * 8)) 1
   else
    f_L_near_36 x0 x1 ((x0 / 8) - (x1 / 8)) ((x0 - x0 / 8 * 8) - (x1 - x1 / 8 * 8)) 0
def f_L_fed_16   (x0 : Int32) (x1 : Int32) (y0 : Int32) (σ : wx_St) : Option Int32 :=
  wx_z y0 (some y0)
def f_L_fed   (x0 : Int32) (x1 : Int32) (σ : wx_St) : Option Int32 :=
  wx_rI σ 16 4 8 x0 (fun v2 => if ((v2 >>> (x1 &&& 31)) &&& 1) = 1 then
    f_L_fed_16 x0 x1 1 σ
   else
    f_L_fed_16 x0 x1 0 σ)
def f_L_suspect_48  (K2 : Int32 → Int32 → wx_St → Option Int32) (x0 : Int32) (x3 : Int32) (x4 : Int32) (σ : wx_St) : Option Int32 :=
  K2 x0 (x3 + 1) σ
def f_L_suspect_2   : Nat → Int32 → Int32 → wx_St → Option Int32
  | 0, _, _, _ => none
  | n + 1, x0, x3, σ =>
  if 4 ≤ x3 then
    some 0
   else
    wx_o (f_L_beside x0 x3 σ) (fun v10 => wx_rI σ 16 3 64 x0 (fun v17 => if v17 ≤ 0 then
      f_L_suspect_48 (f_L_suspect_2 n) x0 x3 v10 σ
     else
      if v10 ≤ 0 then
        f_L_suspect_48 (f_L_suspect_2 n) x0 x3 v10 σ
       else
        wx_rI σ 16 3 64 x0 (fun v30 => if v10 = v30 then
          f_L_suspect_48 (f_L_suspect_2 n) x0 x3 v10 σ
         else
          wx_rI σ 16 3 64 x0 (fun v36 => wx_o (f_L_fed v36 v10 σ) (fun v40 => if v40 = 0 then
            f_L_suspect_48 (f_L_suspect_2 n) x0 x3 v10 σ
           else
            some 1)))))
def f_L_suspect   (x0 : Int32) (σ : wx_St) : Option Int32 :=
  f_L_suspect_2 2000 x0 0 σ
def f_L_touch_2   : Nat → Int32 → Int32 → wx_St → Option Int32
  | 0, _, _, _ => none
  | n + 1, x0, x3, σ =>
  wx_rI σ 16 0 7 5 (fun v5 => if v5 ≤ x3 then
    some (-6)
   else
    wx_rI σ 16 1 6 (2 * x3) (fun v13 => if v13 = x0 then
      some x3
     else
      (f_L_touch_2 n) x0 (x3 + 1) σ))
def f_L_touch   (x0 : Int32) (σ : wx_St) : Option Int32 :=
  f_L_touch_2 2000 x0 0 σ
def f_L_live_44  (K6 : Int32 → Int32 → wx_St → Option Int32) (x4 : Int32) (x5 : Int32) (y0 : Int32) (y1 : Int32) (σ : wx_St) : Option Int32 :=
  K6 (y0 + y1) (x5 + 1) σ
def f_L_live_6   : Nat → Int32 → Int32 → wx_St → Option Int32
  | 0, _, _, _ => none
  | n + 1, x4, x5, σ =>
  wx_rI σ 16 0 7 5 (fun v10 => if v10 ≤ x5 then
    some x4
   else
    wx_rI σ 16 1 6 (2 * x5) (fun v22 => wx_rI σ 16 3 64 v22 (fun v23 => wx_rI σ 16 1 6 ((2 * x5) + 1) (fun v31 => wx_o (f_L_fed v23 v31 σ) (fun v33 => if v33 = 0 then
      f_L_live_44 (f_L_live_6 n) x4 x5 x4 0 σ
     else
      f_L_live_44 (f_L_live_6 n) x4 x5 x4 1 σ)))))
def f_L_live    (σ : wx_St) : Option Int32 :=
  f_L_live_6 2000 0 0 σ
variable {p : Program} {l : Launch} {e : Env} {s : State} {m : MethodId} {args : Array Value} {below : List Frame} {meth : Method} {c : Code} {D : va_G} {ad : Nat → Nat → Nat} {rd : Nat → Nat} {ca : Nat → ClassId} {A : Nat → Prop}
theorem k_L_cell_w0 : Cond.constant RL 7 (1033861975) ∈ wsL_cell := by decide +kernel
theorem k_L_cell_w1 : Cond.constant RL 8 (684254885) ∈ wsL_cell := by decide +kernel
set_option maxRecDepth 20000 in
set_option maxHeartbeats 4000000 in
theorem b_L_cell_21 (B : wx_B p s m args meth c cL_cell 2 (some .int) wsL_cell RL D ad ca A)    {r : Int32} {σ : wx_St}  {x1 : Int32} {y0 : Int32}   (h : f_L_cell_21 ad x1 y0 = some r) {H : Heap} {locs : List Loc} (Z : wx_Z D ad rd ca A σ H) (hS : va_S A s.heap H locs) {ls : Array Slot} (hl : lv_has ls 2 [(0, .ref (ad 18 0)), (1, .int x1)]) : W p l e ({ frames := 0, cells := 0, slots := 0, locals := 0 } : Room) s m args below meth c H locs 0 0 (MQ below (wx_Q D ad rd ca A (some (.int r)) σ) args s 0 0 A) (F0 m 21 ls [.int y0]) := by
  obtain ⟨hx, hb, hml, hr, hts, hown, hlk, hC, hA⟩ := id B
  unfold f_L_cell_21 at h
  obtain rfl := Option.some.inj h
  exact W.iret hx hb hr (fun t ht hW => ⟨rfl, by rw [ht]; exact Z, hS.F ht⟩) hS.2.2 dL_cell_21
set_option maxRecDepth 20000 in
set_option maxHeartbeats 4000000 in
theorem b_L_cell_0 (B : wx_B p s m args meth c cL_cell 2 (some .int) wsL_cell RL D ad ca A)    {r : Int32} {σ : wx_St}  {x1 : Int32}   (h : f_L_cell ad x1 = some r) {H : Heap} {locs : List Loc} (Z : wx_Z D ad rd ca A σ H) (hS : va_S A s.heap H locs) {ls : Array Slot} (hl : lv_has ls 2 [(0, .ref (ad 18 0)), (1, .int x1)]) : W p l e ({ frames := 0, cells := 0, slots := 0, locals := 0 } : Room) s m args below meth c H locs 0 0 (MQ below (wx_Q D ad rd ca A (some (.int r)) σ) args s 0 0 A) (F0 m 0 ls []) := by
  obtain ⟨hx, hb, hml, hr, hts, hown, hlk, hC, hA⟩ := id B
  unfold f_L_cell at h
  refine lv_iload_n hx hb dL_cell_0 rfl (lv_at hl 1 rfl) ?_
  refine lv_aload_n hx hb dL_cell_1 rfl (lv_at hl 0 rfl) ?_
  refine va_slen hx hb hC.2.1.2.2.1 hC.2.1.2.2.2.1 hC.2.1.2.2.2.2 hS dL_cell_2 ?_
  refine lv_icmp_ge (tgt := 12) hx hb dL_cell_3 (by decide) (fun c3 => ?_) (fun c3 => ?_)
  · replace h := wx_ift c3 h
    refine lv_ldc hx hb hown (hts _ k_L_cell_w0) dL_cell_12 ?_
    refine lv_iload_n hx hb dL_cell_14 rfl (lv_at hl 1 rfl) ?_
    refine lv_iconst (v := 1) hx hb dL_cell_15 (by decide) ?_
    refine lv_iadd hx hb dL_cell_16 ?_
    refine lv_imul hx hb dL_cell_17 ?_
    refine lv_ldc hx hb hown (hts _ k_L_cell_w1) dL_cell_18 ?_
    refine lv_iadd hx hb dL_cell_20 ?_
    exact b_L_cell_21 B h Z hS (lv_sub hl [0, 1] rfl)
  · replace h := wx_iff c3 h
    refine lv_aload_n hx hb dL_cell_6 rfl (lv_at hl 0 rfl) ?_
    refine lv_iload_n hx hb dL_cell_7 rfl (lv_at hl 1 rfl) ?_
    obtain ⟨v8, ev8, iv8, h⟩ := wx_rX_ok h
    subst ev8
    refine va_sld hx hb hC.2.1.2.2.1 hC.2.1.2.2.2.1 hC.2.1.2.2.2.2 hS (wx_in_vp iv8) dL_cell_8 ?_
    refine lv_goto (tgt := 21) hx hb dL_cell_9 (by decide) ?_
    exact b_L_cell_21 B h Z hS (lv_sub hl [0, 1] rfl)
set_option maxRecDepth 20000 in
theorem c_L_cell (l : Launch) {D : va_G} {ad : Nat → Nat → Nat} {rd : Nat → Nat} {ca : Nat → ClassId} {A : Nat → Prop} {σ : wx_St}    {x1 : Int32} {r : Int32} (h : f_L_cell ad x1 = some r) : wx_M l yL_cell wsL_cell 0 0 D ad rd ca A [.ref (ad 18 0), .int x1] σ (some (.int r)) σ := by
  refine Met.ofW (cc := cL_cell) (maxL := 2) (ret := (some .int)) (by decide +kernel) rfl ?_
  intro p e s m args below meth c s₁ B0 hml hv
  obtain ⟨rfl, hC, Z, hA⟩ := hv
  have hl := lv_entry ([.ref (ad 18 0), .int x1]) (n := 2) (Nat.le_of_ble_eq_true rfl)
  rw [lg_entry_eq]
  generalize (lg_sl ([.ref (ad 18 0), .int x1]) ++ List.replicate (2 - (lg_sl ([.ref (ad 18 0), .int x1])).length) Slot.unset).toArray = ls at hl ⊢
  exact b_L_cell_0 ⟨B0.exec, B0.bytes, hml, B0.returns, atoms_spec (ws := wsL_cell) B0.pre, findClass_of_methodNamed B0.named, B0.notSynchronized, hC, hA⟩   h Z va_S.rf hl
theorem k_L_low_w0 : Cond.constant RL 9 (2147483647) ∈ wsL_low := by decide +kernel
set_option maxRecDepth 20000 in
set_option maxHeartbeats 4000000 in
theorem b_L_low_0 (B : wx_B p s m args meth c cL_low 2 (some .int) wsL_low RL D ad ca A)    {r : Int32} {σ : wx_St}  {x0 : Int32} {x1 : Int32}   (h : f_L_low x0 x1 = some r) {H : Heap} {locs : List Loc} (Z : wx_Z D ad rd ca A σ H) (hS : va_S A s.heap H locs) {ls : Array Slot} (hl : lv_has ls 2 [(0, .int x0), (1, .int x1)]) : W p l e ({ frames := 0, cells := 0, slots := 0, locals := 0 } : Room) s m args below meth c H locs 0 0 (MQ below (wx_Q D ad rd ca A (some (.int r)) σ) args s 0 0 A) (F0 m 0 ls []) := by
  obtain ⟨hx, hb, hml, hr, hts, hown, hlk, hC, hA⟩ := id B
  unfold f_L_low at h
  refine lv_iload_n hx hb dL_low_0 rfl (lv_at hl 0 rfl) ?_
  refine lv_ldc hx hb hown (hts _ k_L_low_w0) dL_low_1 ?_
  refine lv_iand hx hb dL_low_3 ?_
  refine lv_iload_n hx hb dL_low_4 rfl (lv_at hl 1 rfl) ?_
  obtain ⟨hz5, h⟩ := wx_nz_ok h
  refine lv_irem hx hb dL_low_5 hz5 ?_
  obtain rfl := Option.some.inj h
  exact W.iret hx hb hr (fun t ht hW => ⟨rfl, by rw [ht]; exact Z, hS.F ht⟩) hS.2.2 dL_low_6
set_option maxRecDepth 20000 in
theorem c_L_low (l : Launch) {D : va_G} {ad : Nat → Nat → Nat} {rd : Nat → Nat} {ca : Nat → ClassId} {A : Nat → Prop} {σ : wx_St}    {x0 : Int32} {x1 : Int32} {r : Int32} (h : f_L_low x0 x1 = some r) : wx_M l yL_low wsL_low 0 0 D ad rd ca A [.int x0, .int x1] σ (some (.int r)) σ := by
  refine Met.ofW (cc := cL_low) (maxL := 2) (ret := (some .int)) (by decide +kernel) rfl ?_
  intro p e s m args below meth c s₁ B0 hml hv
  obtain ⟨rfl, hC, Z, hA⟩ := hv
  have hl := lv_entry ([.int x0, .int x1]) (n := 2) (Nat.le_of_ble_eq_true rfl)
  rw [lg_entry_eq]
  generalize (lg_sl ([.int x0, .int x1]) ++ List.replicate (2 - (lg_sl ([.int x0, .int x1])).length) Slot.unset).toArray = ls at hl ⊢
  exact b_L_low_0 ⟨B0.exec, B0.bytes, hml, B0.returns, atoms_spec (ws := wsL_low) B0.pre, findClass_of_methodNamed B0.named, B0.notSynchronized, hC, hA⟩   h Z va_S.rf hl
set_option maxRecDepth 20000 in
set_option maxHeartbeats 4000000 in
theorem b_L_net_32 (B : wx_B p s m args meth c cL_net 3 (some .int) wsL_net RL D ad ca A)    {r : Int32} {σ : wx_St}  {x0 : Int32} {x1 : Int32} {y0 : Int32}   (h : f_L_net_32 x0 x1 y0 σ = some r) {H : Heap} {locs : List Loc} (Z : wx_Z D ad rd ca A σ H) (hS : va_S A s.heap H locs) {ls : Array Slot} (hl : lv_has ls 3 [(0, .int x0), (1, .int x1), (2, .ref (ad 16 3))]) : W p l e ({ frames := 0, cells := 0, slots := 0, locals := 0 } : Room) s m args below meth c H locs 0 0 (MQ below (wx_Q D ad rd ca A (some (.int r)) σ) args s 0 0 A) (F0 m 32 ls [.int y0]) := by
  obtain ⟨hx, hb, hml, hr, hts, hown, hlk, hC, hA⟩ := id B
  unfold f_L_net_32 at h
  obtain rfl := Option.some.inj h
  exact W.iret hx hb hr (fun t ht hW => ⟨rfl, by rw [ht]; exact Z, hS.F ht⟩) hS.2.2 dL_net_32
set_option maxRecDepth 20000 in
set_option maxHeartbeats 4000000 in
theorem b_L_net_20 (B : wx_B p s m args meth c cL_net 3 (some .int) wsL_net RL D ad ca A)    {r : Int32} {σ : wx_St}  {x0 : Int32} {x1 : Int32}   (h : f_L_net_20 x0 x1 σ = some r) {H : Heap} {locs : List Loc} (Z : wx_Z D ad rd ca A σ H) (hS : va_S A s.heap H locs) {ls : Array Slot} (hl : lv_has ls 3 [(0, .int x0), (1, .int x1), (2, .ref (ad 16 3))]) : W p l e ({ frames := 0, cells := 0, slots := 0, locals := 0 } : Room) s m args below meth c H locs 0 0 (MQ below (wx_Q D ad rd ca A (some (.int r)) σ) args s 0 0 A) (F0 m 20 ls []) := by
  obtain ⟨hx, hb, hml, hr, hts, hown, hlk, hC, hA⟩ := id B
  unfold f_L_net_20 at h
  refine lv_iconst (v := 0) hx hb dL_net_20 (by decide) ?_
  refine lv_goto (tgt := 32) hx hb dL_net_21 (by decide) ?_
  exact b_L_net_32 B h Z hS (lv_sub hl [0, 1, 2] rfl)
set_option maxRecDepth 20000 in
set_option maxHeartbeats 4000000 in
theorem b_L_net_0 (B : wx_B p s m args meth c cL_net 3 (some .int) wsL_net RL D ad ca A)    {r : Int32} {σ : wx_St}  {x0 : Int32} {x1 : Int32}   (h : f_L_net x0 x1 σ = some r) {H : Heap} {locs : List Loc} (Z : wx_Z D ad rd ca A σ H) (hS : va_S A s.heap H locs) {ls : Array Slot} (hl : lv_has ls 3 [(0, .int x0), (1, .int x1), (2, .ref (ad 16 3))]) : W p l e ({ frames := 0, cells := 0, slots := 0, locals := 0 } : Room) s m args below meth c H locs 0 0 (MQ below (wx_Q D ad rd ca A (some (.int r)) σ) args s 0 0 A) (F0 m 0 ls []) := by
  obtain ⟨hx, hb, hml, hr, hts, hown, hlk, hC, hA⟩ := id B
  unfold f_L_net at h
  refine lv_iload_n hx hb dL_net_0 rfl (lv_at hl 0 rfl) ?_
  refine lv_if_lt (tgt := 20) hx hb dL_net_1 (by decide) (fun c1 => ?_) (fun c1 => ?_)
  · replace h := wx_ift c1 h
    exact b_L_net_20 B h Z hS (lv_sub hl [0, 1, 2] rfl)
  · replace h := wx_iff c1 h
    refine lv_iload_n hx hb dL_net_4 rfl (lv_at hl 1 rfl) ?_
    refine lv_if_lt (tgt := 20) hx hb dL_net_5 (by decide) (fun c5 => ?_) (fun c5 => ?_)
    · replace h := wx_ift c5 h
      exact b_L_net_20 B h Z hS (lv_sub hl [0, 1, 2] rfl)
    · replace h := wx_iff c5 h
      refine lv_iload_n hx hb dL_net_8 rfl (lv_at hl 0 rfl) ?_
      refine lv_bipush (v := 7) hx hb dL_net_9 (by decide) ?_
      refine lv_icmp_gt (tgt := 20) hx hb dL_net_11 (by decide) (fun c11 => ?_) (fun c11 => ?_)
      · replace h := wx_ift c11 h
        exact b_L_net_20 B h Z hS (lv_sub hl [0, 1, 2] rfl)
      · replace h := wx_iff c11 h
        refine lv_iload_n hx hb dL_net_14 rfl (lv_at hl 1 rfl) ?_
        refine lv_bipush (v := 7) hx hb dL_net_15 (by decide) ?_
        refine lv_icmp_le (tgt := 24) hx hb dL_net_17 (by decide) (fun c17 => ?_) (fun c17 => ?_)
        · replace h := wx_ift c17 h
          refine lv_aload_n hx hb dL_net_24 rfl (lv_at hl 2 rfl) ?_
          refine lv_bipush (v := 8) hx hb dL_net_25 (by decide) ?_
          refine lv_iload_n hx hb dL_net_27 rfl (lv_at hl 0 rfl) ?_
          refine lv_imul hx hb dL_net_28 ?_
          refine lv_iload_n hx hb dL_net_29 rfl (lv_at hl 1 rfl) ?_
          refine lv_iadd hx hb dL_net_30 ?_
          obtain ⟨v31, ev31, iv31, h⟩ := wx_rI_ok h
          refine wx_iald hx hb hC.1 Z (o := 16) (k := 3) (n := 64) rfl rfl iv31 dL_net_31 ev31 ?_
          exact b_L_net_32 B h Z hS (lv_sub hl [0, 1, 2] rfl)
        · replace h := wx_iff c17 h
          exact b_L_net_20 B h Z hS (lv_sub hl [0, 1, 2] rfl)
set_option maxRecDepth 20000 in
theorem c_L_net (l : Launch) {D : va_G} {ad : Nat → Nat → Nat} {rd : Nat → Nat} {ca : Nat → ClassId} {A : Nat → Prop} {σ : wx_St}    {x0 : Int32} {x1 : Int32} {r : Int32} (h : f_L_net x0 x1 σ = some r) : wx_M l yL_net wsL_net 0 0 D ad rd ca A [.int x0, .int x1, .ref (ad 16 3)] σ (some (.int r)) σ := by
  refine Met.ofW (cc := cL_net) (maxL := 3) (ret := (some .int)) (by decide +kernel) rfl ?_
  intro p e s m args below meth c s₁ B0 hml hv
  obtain ⟨rfl, hC, Z, hA⟩ := hv
  have hl := lv_entry ([.int x0, .int x1, .ref (ad 16 3)]) (n := 3) (Nat.le_of_ble_eq_true rfl)
  rw [lg_entry_eq]
  generalize (lg_sl ([.int x0, .int x1, .ref (ad 16 3)]) ++ List.replicate (3 - (lg_sl ([.int x0, .int x1, .ref (ad 16 3)])).length) Slot.unset).toArray = ls at hl ⊢
  exact b_L_net_0 ⟨B0.exec, B0.bytes, hml, B0.returns, atoms_spec (ws := wsL_net) B0.pre, findClass_of_methodNamed B0.named, B0.notSynchronized, hC, hA⟩   h Z va_S.rf hl
set_option maxRecDepth 20000 in
set_option maxHeartbeats 4000000 in
theorem b_L_beside_79 (B : wx_B p s m args meth c cL_beside 3 (some .int) wsL_beside RL D ad ca A)    {r : Int32} {σ : wx_St}  {x0 : Int32} {x1 : Int32} {y0 : Int32}   (h : f_L_beside_79 x0 x1 y0 σ = some r) {H : Heap} {locs : List Loc} (Z : wx_Z D ad rd ca A σ H) (hS : va_S A s.heap H locs) {ls : Array Slot} (hl : lv_has ls 3 [(0, .int x0), (1, .int x1), (2, .ref (ad 16 3))]) : W p l e ({ frames := 1, cells := 0, slots := 0, locals := 22 } : Room) s m args below meth c H locs 0 0 (MQ below (wx_Q D ad rd ca A (some (.int r)) σ) args s 0 0 A) (F0 m 79 ls [.int y0]) := by
  obtain ⟨hx, hb, hml, hr, hts, hown, hlk, hC, hA⟩ := id B
  unfold f_L_beside_79 at h
  obtain rfl := Option.some.inj h
  exact W.iret hx hb hr (fun t ht hW => ⟨rfl, by rw [ht]; exact Z, hS.F ht⟩) hS.2.2 dL_beside_79
set_option maxRecDepth 20000 in
set_option maxHeartbeats 4000000 in
theorem b_L_beside_0 (B : wx_B p s m args meth c cL_beside 3 (some .int) wsL_beside RL D ad ca A)    {r : Int32} {σ : wx_St}  {x0 : Int32} {x1 : Int32}   (h : f_L_beside x0 x1 σ = some r) {H : Heap} {locs : List Loc} (Z : wx_Z D ad rd ca A σ H) (hS : va_S A s.heap H locs) {ls : Array Slot} (hl : lv_has ls 3 [(0, .int x0), (1, .int x1), (2, .ref (ad 16 3))]) : W p l e ({ frames := 1, cells := 0, slots := 0, locals := 22 } : Room) s m args below meth c H locs 0 0 (MQ below (wx_Q D ad rd ca A (some (.int r)) σ) args s 0 0 A) (F0 m 0 ls []) := by
  obtain ⟨hx, hb, hml, hr, hts, hown, hlk, hC, hA⟩ := id B
  unfold f_L_beside at h
  refine lv_iload_n hx hb dL_beside_0 rfl (lv_at hl 1 rfl) ?_
  refine lv_if_ne (tgt := 21) hx hb dL_beside_1 (by decide) (fun c1 => ?_) (fun c1 => ?_)
  · replace h := wx_iff c1 h
    refine lv_iload_n hx hb dL_beside_21 rfl (lv_at hl 1 rfl) ?_
    refine lv_iconst (v := 1) hx hb dL_beside_22 (by decide) ?_
    refine lv_icmp_ne (tgt := 43) hx hb dL_beside_23 (by decide) (fun c23 => ?_) (fun c23 => ?_)
    · replace h := wx_iff c23 h
      refine lv_iload_n hx hb dL_beside_43 rfl (lv_at hl 1 rfl) ?_
      refine lv_iconst (v := 2) hx hb dL_beside_44 (by decide) ?_
      refine lv_icmp_ne (tgt := 65) hx hb dL_beside_45 (by decide) (fun c45 => ?_) (fun c45 => ?_)
      · replace h := wx_iff c45 h
        refine lv_iload_n hx hb dL_beside_65 rfl (lv_at hl 0 rfl) ?_
        refine lv_bipush (v := 8) hx hb dL_beside_66 (by decide) ?_
        refine lv_idiv hx hb dL_beside_68 (by decide) ?_
        refine lv_iload_n hx hb dL_beside_69 rfl (lv_at hl 0 rfl) ?_
        refine lv_bipush (v := 8) hx hb dL_beside_70 (by decide) ?_
        refine lv_irem hx hb dL_beside_72 (by decide) ?_
        refine lv_iconst (v := 1) hx hb dL_beside_73 (by decide) ?_
        refine lv_iadd hx hb dL_beside_74 ?_
        refine lv_aload_n hx hb dL_beside_75 rfl (lv_at hl 2 rfl) ?_
        obtain ⟨v76, hc76, h⟩ := wx_o_ok h
        refine wx_call (va_runS (As := [.int (x0 / 8), .int ((x0 - x0 / 8 * 8) + 1), .ref (ad 16 3)]) (rest := []) ⟨hx, hb, hml, hown, hts⟩ (c_L_net l (D := D) (ad := ad) (rd := rd) (ca := ca) (A := A) (σ := σ) hc76) (va_cwS 3 hts gL_beside_L_net rfl rfl rfl (by decide +kernel) ⟨Nat.le_of_ble_eq_true rfl, Nat.le_of_ble_eq_true rfl⟩) (wx_preS hC Z hS hA) rfl rfl hl.1 rfl (lv_room (Nat.le_of_ble_eq_true rfl)) dL_beside_76 ⟨Nat.zero_le _, Nat.zero_le _⟩) hS (fun H locs Z hS => ?_)
        exact b_L_beside_79 B h Z hS (lv_sub hl [0, 1, 2] rfl)
      · replace h := wx_ift c45 h
        refine lv_iload_n hx hb dL_beside_48 rfl (lv_at hl 0 rfl) ?_
        refine lv_bipush (v := 8) hx hb dL_beside_49 (by decide) ?_
        refine lv_idiv hx hb dL_beside_51 (by decide) ?_
        refine lv_iload_n hx hb dL_beside_52 rfl (lv_at hl 0 rfl) ?_
        refine lv_bipush (v := 8) hx hb dL_beside_53 (by decide) ?_
        refine lv_irem hx hb dL_beside_55 (by decide) ?_
        refine lv_iconst (v := 1) hx hb dL_beside_56 (by decide) ?_
        refine lv_isub hx hb dL_beside_57 ?_
        refine lv_aload_n hx hb dL_beside_58 rfl (lv_at hl 2 rfl) ?_
        obtain ⟨v59, hc59, h⟩ := wx_o_ok h
        refine wx_call (va_runS (As := [.int (x0 / 8), .int ((x0 - x0 / 8 * 8) - 1), .ref (ad 16 3)]) (rest := []) ⟨hx, hb, hml, hown, hts⟩ (c_L_net l (D := D) (ad := ad) (rd := rd) (ca := ca) (A := A) (σ := σ) hc59) (va_cwS 3 hts gL_beside_L_net rfl rfl rfl (by decide +kernel) ⟨Nat.le_of_ble_eq_true rfl, Nat.le_of_ble_eq_true rfl⟩) (wx_preS hC Z hS hA) rfl rfl hl.1 rfl (lv_room (Nat.le_of_ble_eq_true rfl)) dL_beside_59 ⟨Nat.zero_le _, Nat.zero_le _⟩) hS (fun H locs Z hS => ?_)
        refine lv_goto (tgt := 79) hx hb dL_beside_62 (by decide) ?_
        exact b_L_beside_79 B h Z hS (lv_sub hl [0, 1, 2] rfl)
    · replace h := wx_ift c23 h
      refine lv_iload_n hx hb dL_beside_26 rfl (lv_at hl 0 rfl) ?_
      refine lv_bipush (v := 8) hx hb dL_beside_27 (by decide) ?_
      refine lv_idiv hx hb dL_beside_29 (by decide) ?_
      refine lv_iconst (v := 1) hx hb dL_beside_30 (by decide) ?_
      refine lv_iadd hx hb dL_beside_31 ?_
      refine lv_iload_n hx hb dL_beside_32 rfl (lv_at hl 0 rfl) ?_
      refine lv_bipush (v := 8) hx hb dL_beside_33 (by decide) ?_
      refine lv_irem hx hb dL_beside_35 (by decide) ?_
      refine lv_aload_n hx hb dL_beside_36 rfl (lv_at hl 2 rfl) ?_
      obtain ⟨v37, hc37, h⟩ := wx_o_ok h
      refine wx_call (va_runS (As := [.int ((x0 / 8) + 1), .int (x0 - x0 / 8 * 8), .ref (ad 16 3)]) (rest := []) ⟨hx, hb, hml, hown, hts⟩ (c_L_net l (D := D) (ad := ad) (rd := rd) (ca := ca) (A := A) (σ := σ) hc37) (va_cwS 3 hts gL_beside_L_net rfl rfl rfl (by decide +kernel) ⟨Nat.le_of_ble_eq_true rfl, Nat.le_of_ble_eq_true rfl⟩) (wx_preS hC Z hS hA) rfl rfl hl.1 rfl (lv_room (Nat.le_of_ble_eq_true rfl)) dL_beside_37 ⟨Nat.zero_le _, Nat.zero_le _⟩) hS (fun H locs Z hS => ?_)
      refine lv_goto (tgt := 79) hx hb dL_beside_40 (by decide) ?_
      exact b_L_beside_79 B h Z hS (lv_sub hl [0, 1, 2] rfl)
  · replace h := wx_ift c1 h
    refine lv_iload_n hx hb dL_beside_4 rfl (lv_at hl 0 rfl) ?_
    refine lv_bipush (v := 8) hx hb dL_beside_5 (by decide) ?_
    refine lv_idiv hx hb dL_beside_7 (by decide) ?_
    refine lv_iconst (v := 1) hx hb dL_beside_8 (by decide) ?_
    refine lv_isub hx hb dL_beside_9 ?_
    refine lv_iload_n hx hb dL_beside_10 rfl (lv_at hl 0 rfl) ?_
    refine lv_bipush (v := 8) hx hb dL_beside_11 (by decide) ?_
    refine lv_irem hx hb dL_beside_13 (by decide) ?_
    refine lv_aload_n hx hb dL_beside_14 rfl (lv_at hl 2 rfl) ?_
    obtain ⟨v15, hc15, h⟩ := wx_o_ok h
    refine wx_call (va_runS (As := [.int ((x0 / 8) - 1), .int (x0 - x0 / 8 * 8), .ref (ad 16 3)]) (rest := []) ⟨hx, hb, hml, hown, hts⟩ (c_L_net l (D := D) (ad := ad) (rd := rd) (ca := ca) (A := A) (σ := σ) hc15) (va_cwS 3 hts gL_beside_L_net rfl rfl rfl (by decide +kernel) ⟨Nat.le_of_ble_eq_true rfl, Nat.le_of_ble_eq_true rfl⟩) (wx_preS hC Z hS hA) rfl rfl hl.1 rfl (lv_room (Nat.le_of_ble_eq_true rfl)) dL_beside_15 ⟨Nat.zero_le _, Nat.zero_le _⟩) hS (fun H locs Z hS => ?_)
    refine lv_goto (tgt := 79) hx hb dL_beside_18 (by decide) ?_
    exact b_L_beside_79 B h Z hS (lv_sub hl [0, 1, 2] rfl)
set_option maxRecDepth 20000 in
theorem c_L_beside (l : Launch) {D : va_G} {ad : Nat → Nat → Nat} {rd : Nat → Nat} {ca : Nat → ClassId} {A : Nat → Prop} {σ : wx_St}    {x0 : Int32} {x1 : Int32} {r : Int32} (h : f_L_beside x0 x1 σ = some r) : wx_M l yL_beside wsL_beside 1 22 D ad rd ca A [.int x0, .int x1, .ref (ad 16 3)] σ (some (.int r)) σ := by
  refine Met.ofW (cc := cL_beside) (maxL := 3) (ret := (some .int)) (by decide +kernel) rfl ?_
  intro p e s m args below meth c s₁ B0 hml hv
  obtain ⟨rfl, hC, Z, hA⟩ := hv
  have hl := lv_entry ([.int x0, .int x1, .ref (ad 16 3)]) (n := 3) (Nat.le_of_ble_eq_true rfl)
  rw [lg_entry_eq]
  generalize (lg_sl ([.int x0, .int x1, .ref (ad 16 3)]) ++ List.replicate (3 - (lg_sl ([.int x0, .int x1, .ref (ad 16 3)])).length) Slot.unset).toArray = ls at hl ⊢
  exact b_L_beside_0 ⟨B0.exec, B0.bytes, hml, B0.returns, atoms_spec (ws := wsL_beside) B0.pre, findClass_of_methodNamed B0.named, B0.notSynchronized, hC, hA⟩   h Z va_S.rf hl
set_option maxRecDepth 20000 in
set_option maxHeartbeats 4000000 in
theorem b_L_near_36 (B : wx_B p s m args meth c cL_near 4 (some .boolean) wsL_near RL D ad ca A)    {r : Int32} {σ : wx_St}  {x0 : Int32} {x1 : Int32} {x2 : Int32} {x3 : Int32} {y0 : Int32}   (h : f_L_near_36 x0 x1 x2 x3 y0 = some r) {H : Heap} {locs : List Loc} (Z : wx_Z D ad rd ca A σ H) (hS : va_S A s.heap H locs) {ls : Array Slot} (hl : lv_has ls 4 [(0, .int x0), (1, .int x1), (2, .int x2), (3, .int x3)]) : W p l e ({ frames := 0, cells := 0, slots := 0, locals := 0 } : Room) s m args below meth c H locs 0 0 (MQ below (wx_Q D ad rd ca A (some (.int r)) σ) args s 0 0 A) (F0 m 36 ls [.int y0]) := by
  obtain ⟨hx, hb, hml, hr, hts, hown, hlk, hC, hA⟩ := id B
  unfold f_L_near_36 at h
  obtain ⟨hz, h⟩ := wx_z_ok h
  obtain rfl := Option.some.inj h
  exact W.zret hx hb hr (wx_nb hz) (fun t ht hW => ⟨rfl, by rw [ht]; exact Z, hS.F ht⟩) hS.2.2 dL_near_36
set_option maxRecDepth 20000 in
set_option maxHeartbeats 4000000 in
theorem b_L_near_0 (B : wx_B p s m args meth c cL_near 4 (some .boolean) wsL_near RL D ad ca A)    {r : Int32} {σ : wx_St}  {x0 : Int32} {x1 : Int32}   (h : f_L_near x0 x1 = some r) {H : Heap} {locs : List Loc} (Z : wx_Z D ad rd ca A σ H) (hS : va_S A s.heap H locs) {ls : Array Slot} (hl : lv_has ls 4 [(0, .int x0), (1, .int x1)]) : W p l e ({ frames := 0, cells := 0, slots := 0, locals := 0 } : Room) s m args below meth c H locs 0 0 (MQ below (wx_Q D ad rd ca A (some (.int r)) σ) args s 0 0 A) (F0 m 0 ls []) := by
  obtain ⟨hx, hb, hml, hr, hts, hown, hlk, hC, hA⟩ := id B
  unfold f_L_near at h
  refine lv_iload_n hx hb dL_near_0 rfl (lv_at hl 0 rfl) ?_
  refine lv_bipush (v := 8) hx hb dL_near_1 (by decide) ?_
  refine lv_idiv hx hb dL_near_3 (by decide) ?_
  refine lv_iload_n hx hb dL_near_4 rfl (lv_at hl 1 rfl) ?_
  refine lv_bipush (v := 8) hx hb dL_near_5 (by decide) ?_
  refine lv_idiv hx hb dL_near_7 (by decide) ?_
  refine lv_isub hx hb dL_near_8 ?_
  refine lv_istore_n (lv' := [(2, .int ((x0 / 8) - (x1 / 8))), (0, .int x0), (1, .int x1)]) hx hb dL_near_9 rfl hl (by decide) rfl (fun ls hl => ?_)
  refine lv_iload_n hx hb dL_near_10 rfl (lv_at hl 1 rfl) ?_
  refine lv_bipush (v := 8) hx hb dL_near_11 (by decide) ?_
  refine lv_irem hx hb dL_near_13 (by decide) ?_
  refine lv_iload_n hx hb dL_near_14 rfl (lv_at hl 2 rfl) ?_
  refine lv_bipush (v := 8) hx hb dL_near_15 (by decide) ?_
  refine lv_irem hx hb dL_near_17 (by decide) ?_
  refine lv_isub hx hb dL_near_18 ?_
  refine lv_istore_n (lv' := [(3, .int ((x0 - x0 / 8 * 8) - (x1 - x1 / 8 * 8))), (2, .int ((x0 / 8) - (x1 / 8))), (0, .int x0), (1, .int x1)]) hx hb dL_near_19 rfl hl (by decide) rfl (fun ls hl => ?_)
  refine lv_iload_n hx hb dL_near_20 rfl (lv_at hl 1 rfl) ?_
  refine lv_iload_n hx hb dL_near_21 rfl (lv_at hl 1 rfl) ?_
  refine lv_imul hx hb dL_near_22 ?_
  refine lv_iload_n hx hb dL_near_23 rfl (lv_at hl 0 rfl) ?_
  refine lv_iload_n hx hb dL_near_24 rfl (lv_at hl 0 rfl) ?_
  refine lv_imul hx hb dL_near_25 ?_
  refine lv_iadd hx hb dL_near_26 ?_
  refine lv_iconst (v := 1) hx hb dL_near_27 (by decide) ?_
  refine lv_icmp_ne (tgt := 35) hx hb dL_near_28 (by decide) (fun c28 => ?_) (fun c28 => ?_)
  · replace h := wx_iff c28 h
    refine lv_iconst (v := 0) hx hb dL_near_35 (by decide) ?_
    exact b_L_near_36 B h Z hS (lv_sub hl [2, 3, 1, 0] rfl)
  · replace h := wx_ift c28 h
    refine lv_iconst (v := 1) hx hb dL_near_31 (by decide) ?_
    refine lv_goto (tgt := 36) hx hb dL_near_32 (by decide) ?_
    exact b_L_near_36 B h Z hS (lv_sub hl [2, 3, 1, 0] rfl)
set_option maxRecDepth 20000 in
theorem c_L_near (l : Launch) {D : va_G} {ad : Nat → Nat → Nat} {rd : Nat → Nat} {ca : Nat → ClassId} {A : Nat → Prop} {σ : wx_St}    {x0 : Int32} {x1 : Int32} {r : Int32} (h : f_L_near x0 x1 = some r) : wx_M l yL_near wsL_near 0 0 D ad rd ca A [.int x0, .int x1] σ (some (.int r)) σ := by
  refine Met.ofW (cc := cL_near) (maxL := 4) (ret := (some .boolean)) (by decide +kernel) rfl ?_
  intro p e s m args below meth c s₁ B0 hml hv
  obtain ⟨rfl, hC, Z, hA⟩ := hv
  have hl := lv_entry ([.int x0, .int x1]) (n := 4) (Nat.le_of_ble_eq_true rfl)
  rw [lg_entry_eq]
  generalize (lg_sl ([.int x0, .int x1]) ++ List.replicate (4 - (lg_sl ([.int x0, .int x1])).length) Slot.unset).toArray = ls at hl ⊢
  exact b_L_near_0 ⟨B0.exec, B0.bytes, hml, B0.returns, atoms_spec (ws := wsL_near) B0.pre, findClass_of_methodNamed B0.named, B0.notSynchronized, hC, hA⟩   h Z va_S.rf hl
set_option maxRecDepth 20000 in
set_option maxHeartbeats 4000000 in
theorem b_L_fed_16 (B : wx_B p s m args meth c cL_fed 3 (some .boolean) wsL_fed RL D ad ca A)    {r : Int32} {σ : wx_St}  {x0 : Int32} {x1 : Int32} {y0 : Int32}   (h : f_L_fed_16 x0 x1 y0 σ = some r) {H : Heap} {locs : List Loc} (Z : wx_Z D ad rd ca A σ H) (hS : va_S A s.heap H locs) {ls : Array Slot} (hl : lv_has ls 3 [(0, .int x0), (1, .int x1), (2, .ref (ad 16 4))]) : W p l e ({ frames := 0, cells := 0, slots := 0, locals := 0 } : Room) s m args below meth c H locs 0 0 (MQ below (wx_Q D ad rd ca A (some (.int r)) σ) args s 0 0 A) (F0 m 16 ls [.int y0]) := by
  obtain ⟨hx, hb, hml, hr, hts, hown, hlk, hC, hA⟩ := id B
  unfold f_L_fed_16 at h
  obtain ⟨hz, h⟩ := wx_z_ok h
  obtain rfl := Option.some.inj h
  exact W.zret hx hb hr (wx_nb hz) (fun t ht hW => ⟨rfl, by rw [ht]; exact Z, hS.F ht⟩) hS.2.2 dL_fed_16
set_option maxRecDepth 20000 in
set_option maxHeartbeats 4000000 in
theorem b_L_fed_0 (B : wx_B p s m args meth c cL_fed 3 (some .boolean) wsL_fed RL D ad ca A)    {r : Int32} {σ : wx_St}  {x0 : Int32} {x1 : Int32}   (h : f_L_fed x0 x1 σ = some r) {H : Heap} {locs : List Loc} (Z : wx_Z D ad rd ca A σ H) (hS : va_S A s.heap H locs) {ls : Array Slot} (hl : lv_has ls 3 [(0, .int x0), (1, .int x1), (2, .ref (ad 16 4))]) : W p l e ({ frames := 0, cells := 0, slots := 0, locals := 0 } : Room) s m args below meth c H locs 0 0 (MQ below (wx_Q D ad rd ca A (some (.int r)) σ) args s 0 0 A) (F0 m 0 ls []) := by
  obtain ⟨hx, hb, hml, hr, hts, hown, hlk, hC, hA⟩ := id B
  unfold f_L_fed at h
  refine lv_aload_n hx hb dL_fed_0 rfl (lv_at hl 2 rfl) ?_
  refine lv_iload_n hx hb dL_fed_1 rfl (lv_at hl 0 rfl) ?_
  obtain ⟨v2, ev2, iv2, h⟩ := wx_rI_ok h
  refine wx_iald hx hb hC.1 Z (o := 16) (k := 4) (n := 8) rfl rfl iv2 dL_fed_2 ev2 ?_
  refine lv_iload_n hx hb dL_fed_3 rfl (lv_at hl 1 rfl) ?_
  refine lv_ishr hx hb dL_fed_4 ?_
  refine lv_iconst (v := 1) hx hb dL_fed_5 (by decide) ?_
  refine lv_iand hx hb dL_fed_6 ?_
  refine lv_iconst (v := 1) hx hb dL_fed_7 (by decide) ?_
  refine lv_icmp_ne (tgt := 15) hx hb dL_fed_8 (by decide) (fun c8 => ?_) (fun c8 => ?_)
  · replace h := wx_iff c8 h
    refine lv_iconst (v := 0) hx hb dL_fed_15 (by decide) ?_
    exact b_L_fed_16 B h Z hS (lv_sub hl [0, 1, 2] rfl)
  · replace h := wx_ift c8 h
    refine lv_iconst (v := 1) hx hb dL_fed_11 (by decide) ?_
    refine lv_goto (tgt := 16) hx hb dL_fed_12 (by decide) ?_
    exact b_L_fed_16 B h Z hS (lv_sub hl [0, 1, 2] rfl)
set_option maxRecDepth 20000 in
theorem c_L_fed (l : Launch) {D : va_G} {ad : Nat → Nat → Nat} {rd : Nat → Nat} {ca : Nat → ClassId} {A : Nat → Prop} {σ : wx_St}    {x0 : Int32} {x1 : Int32} {r : Int32} (h : f_L_fed x0 x1 σ = some r) : wx_M l yL_fed wsL_fed 0 0 D ad rd ca A [.int x0, .int x1, .ref (ad 16 4)] σ (some (.int r)) σ := by
  refine Met.ofW (cc := cL_fed) (maxL := 3) (ret := (some .boolean)) (by decide +kernel) rfl ?_
  intro p e s m args below meth c s₁ B0 hml hv
  obtain ⟨rfl, hC, Z, hA⟩ := hv
  have hl := lv_entry ([.int x0, .int x1, .ref (ad 16 4)]) (n := 3) (Nat.le_of_ble_eq_true rfl)
  rw [lg_entry_eq]
  generalize (lg_sl ([.int x0, .int x1, .ref (ad 16 4)]) ++ List.replicate (3 - (lg_sl ([.int x0, .int x1, .ref (ad 16 4)])).length) Slot.unset).toArray = ls at hl ⊢
  exact b_L_fed_0 ⟨B0.exec, B0.bytes, hml, B0.returns, atoms_spec (ws := wsL_fed) B0.pre, findClass_of_methodNamed B0.named, B0.notSynchronized, hC, hA⟩   h Z va_S.rf hl
set_option maxRecDepth 20000 in
set_option maxHeartbeats 4000000 in
theorem b_L_suspect_48 (B : wx_B p s m args meth c cL_suspect 5 (some .boolean) wsL_suspect RL D ad ca A)    {r : Int32} {σ : wx_St} {K2 : Int32 → Int32 → wx_St → Option Int32} (hK2 : ∀ {x0 : Int32} {x3 : Int32}   (h : K2 x0 x3 σ = some r) {H : Heap} {locs : List Loc} (Z : wx_Z D ad rd ca A σ H) (hS : va_S A s.heap H locs) {ls : Array Slot} (hl : lv_has ls 5 [(0, .int x0), (1, .ref (ad 16 3)), (2, .ref (ad 16 4)), (3, .int x3)]), W p l e ({ frames := 2, cells := 0, slots := 0, locals := 44 } : Room) s m args below meth c H locs 0 0 (MQ below (wx_Q D ad rd ca A (some (.int r)) σ) args s 0 0 A) (F0 m 2 ls [])) {x0 : Int32} {x3 : Int32} {x4 : Int32}   (h : f_L_suspect_48 K2 x0 x3 x4 σ = some r) {H : Heap} {locs : List Loc} (Z : wx_Z D ad rd ca A σ H) (hS : va_S A s.heap H locs) {ls : Array Slot} (hl : lv_has ls 5 [(0, .int x0), (1, .ref (ad 16 3)), (2, .ref (ad 16 4)), (3, .int x3), (4, .int x4)]) : W p l e ({ frames := 2, cells := 0, slots := 0, locals := 44 } : Room) s m args below meth c H locs 0 0 (MQ below (wx_Q D ad rd ca A (some (.int r)) σ) args s 0 0 A) (F0 m 48 ls []) := by
  obtain ⟨hx, hb, hml, hr, hts, hown, hlk, hC, hA⟩ := id B
  unfold f_L_suspect_48 at h
  refine lv_iinc (v := x3 + 1) (lv' := [(3, .int (x3 + 1)), (0, .int x0), (1, .ref (ad 16 3)), (2, .ref (ad 16 4)), (4, .int x4)]) hx hb dL_suspect_48 hl (k := 3) rfl rfl (by decide) rfl (fun ls hl => ?_)
  refine lv_goto (tgt := 2) hx hb dL_suspect_51 (by decide) ?_
  exact hK2 h Z hS (lv_sub hl [1, 2, 3, 0] rfl)
set_option maxRecDepth 20000 in
set_option maxHeartbeats 4000000 in
theorem b_L_suspect_2 (B : wx_B p s m args meth c cL_suspect 5 (some .boolean) wsL_suspect RL D ad ca A)    {r : Int32} {σ : wx_St}   :
    ∀ {n : Nat} {x0 : Int32} {x3 : Int32}   (h : f_L_suspect_2 n x0 x3 σ = some r) {H : Heap} {locs : List Loc} (Z : wx_Z D ad rd ca A σ H) (hS : va_S A s.heap H locs) {ls : Array Slot} (hl : lv_has ls 5 [(0, .int x0), (1, .ref (ad 16 3)), (2, .ref (ad 16 4)), (3, .int x3)]), W p l e ({ frames := 2, cells := 0, slots := 0, locals := 44 } : Room) s m args below meth c H locs 0 0 (MQ below (wx_Q D ad rd ca A (some (.int r)) σ) args s 0 0 A) (F0 m 2 ls []) := by
  obtain ⟨hx, hb, hml, hr, hts, hown, hlk, hC, hA⟩ := id B
  intro n
  induction n with
  | zero => intro x0 x3   h H locs Z hS ls hl; exact wx_no h
  | succ n ih =>
    intro x0 x3   h H locs Z hS ls hl
    rw [f_L_suspect_2] at h
    refine lv_iload_n hx hb dL_suspect_2 rfl (lv_at hl 3 rfl) ?_
    refine lv_iconst (v := 4) hx hb dL_suspect_3 (by decide) ?_
    refine lv_icmp_ge (tgt := 54) hx hb dL_suspect_4 (by decide) (fun c4 => ?_) (fun c4 => ?_)
    · replace h := wx_ift c4 h
      refine lv_iconst (v := 0) hx hb dL_suspect_54 (by decide) ?_
      obtain rfl := Option.some.inj h
      exact W.zret hx hb hr rfl (fun t ht hW => ⟨rfl, by rw [ht]; exact Z, hS.F ht⟩) hS.2.2 dL_suspect_55
    · replace h := wx_iff c4 h
      refine lv_iload_n hx hb dL_suspect_7 rfl (lv_at hl 0 rfl) ?_
      refine lv_iload_n hx hb dL_suspect_8 rfl (lv_at hl 3 rfl) ?_
      refine lv_aload_n hx hb dL_suspect_9 rfl (lv_at hl 1 rfl) ?_
      obtain ⟨v10, hc10, h⟩ := wx_o_ok h
      refine wx_call (va_runS (As := [.int x0, .int x3, .ref (ad 16 3)]) (rest := []) ⟨hx, hb, hml, hown, hts⟩ (c_L_beside l (D := D) (ad := ad) (rd := rd) (ca := ca) (A := A) (σ := σ) hc10) (va_cwS 3 hts gL_suspect_L_beside rfl rfl rfl (by decide +kernel) ⟨Nat.le_of_ble_eq_true rfl, Nat.le_of_ble_eq_true rfl⟩) (wx_preS hC Z hS hA) rfl rfl hl.1 rfl (lv_room (Nat.le_of_ble_eq_true rfl)) dL_suspect_10 ⟨Nat.zero_le _, Nat.zero_le _⟩) hS (fun H locs Z hS => ?_)
      refine lv_istore (lv' := [(4, .int v10), (0, .int x0), (1, .ref (ad 16 3)), (2, .ref (ad 16 4)), (3, .int x3)]) hx hb dL_suspect_13 hl (by decide) rfl (fun ls hl => ?_)
      refine lv_aload_n hx hb dL_suspect_15 rfl (lv_at hl 2 rfl) ?_
      refine lv_iload_n hx hb dL_suspect_16 rfl (lv_at hl 1 rfl) ?_
      obtain ⟨v17, ev17, iv17, h⟩ := wx_rI_ok h
      refine wx_iald hx hb hC.1 Z (o := 16) (k := 3) (n := 64) rfl rfl iv17 dL_suspect_17 ev17 ?_
      refine lv_if_le (tgt := 48) hx hb dL_suspect_18 (by decide) (fun c18 => ?_) (fun c18 => ?_)
      · replace h := wx_ift c18 h
        exact b_L_suspect_48 B (K2 := (f_L_suspect_2 n)) @ih h Z hS (lv_sub hl [1, 2, 3, 4, 0] rfl)
      · replace h := wx_iff c18 h
        refine lv_iload hx hb dL_suspect_21 (lv_at hl 0 rfl) ?_
        refine lv_if_le (tgt := 48) hx hb dL_suspect_23 (by decide) (fun c23 => ?_) (fun c23 => ?_)
        · replace h := wx_ift c23 h
          exact b_L_suspect_48 B (K2 := (f_L_suspect_2 n)) @ih h Z hS (lv_sub hl [1, 2, 3, 4, 0] rfl)
        · replace h := wx_iff c23 h
          refine lv_iload hx hb dL_suspect_26 (lv_at hl 0 rfl) ?_
          refine lv_aload_n hx hb dL_suspect_28 rfl (lv_at hl 2 rfl) ?_
          refine lv_iload_n hx hb dL_suspect_29 rfl (lv_at hl 1 rfl) ?_
          obtain ⟨v30, ev30, iv30, h⟩ := wx_rI_ok h
          refine wx_iald hx hb hC.1 Z (o := 16) (k := 3) (n := 64) rfl rfl iv30 dL_suspect_30 ev30 ?_
          refine lv_icmp_eq (tgt := 48) hx hb dL_suspect_31 (by decide) (fun c31 => ?_) (fun c31 => ?_)
          · replace h := wx_ift c31 h
            exact b_L_suspect_48 B (K2 := (f_L_suspect_2 n)) @ih h Z hS (lv_sub hl [1, 2, 3, 4, 0] rfl)
          · replace h := wx_iff c31 h
            refine lv_aload_n hx hb dL_suspect_34 rfl (lv_at hl 2 rfl) ?_
            refine lv_iload_n hx hb dL_suspect_35 rfl (lv_at hl 1 rfl) ?_
            obtain ⟨v36, ev36, iv36, h⟩ := wx_rI_ok h
            refine wx_iald hx hb hC.1 Z (o := 16) (k := 3) (n := 64) rfl rfl iv36 dL_suspect_36 ev36 ?_
            refine lv_iload hx hb dL_suspect_37 (lv_at hl 0 rfl) ?_
            refine lv_aload_n hx hb dL_suspect_39 rfl (lv_at hl 3 rfl) ?_
            obtain ⟨v40, hc40, h⟩ := wx_o_ok h
            refine wx_call (va_runS (As := [.int v36, .int v10, .ref (ad 16 4)]) (rest := []) ⟨hx, hb, hml, hown, hts⟩ (c_L_fed l (D := D) (ad := ad) (rd := rd) (ca := ca) (A := A) (σ := σ) hc40) (va_cwS 3 hts gL_suspect_L_fed rfl rfl rfl (by decide +kernel) ⟨Nat.le_of_ble_eq_true rfl, Nat.le_of_ble_eq_true rfl⟩) (wx_preS hC Z hS hA) rfl rfl hl.1 rfl (lv_room (Nat.le_of_ble_eq_true rfl)) dL_suspect_40 ⟨Nat.zero_le _, Nat.zero_le _⟩) hS (fun H locs Z hS => ?_)
            refine lv_if_eq (tgt := 48) hx hb dL_suspect_43 (by decide) (fun c43 => ?_) (fun c43 => ?_)
            · replace h := wx_ift c43 h
              exact b_L_suspect_48 B (K2 := (f_L_suspect_2 n)) @ih h Z hS (lv_sub hl [1, 2, 3, 4, 0] rfl)
            · replace h := wx_iff c43 h
              refine lv_iconst (v := 1) hx hb dL_suspect_46 (by decide) ?_
              obtain rfl := Option.some.inj h
              exact W.zret hx hb hr rfl (fun t ht hW => ⟨rfl, by rw [ht]; exact Z, hS.F ht⟩) hS.2.2 dL_suspect_47
set_option maxRecDepth 20000 in
set_option maxHeartbeats 4000000 in
theorem b_L_suspect_0 (B : wx_B p s m args meth c cL_suspect 5 (some .boolean) wsL_suspect RL D ad ca A)    {r : Int32} {σ : wx_St}  {x0 : Int32}   (h : f_L_suspect x0 σ = some r) {H : Heap} {locs : List Loc} (Z : wx_Z D ad rd ca A σ H) (hS : va_S A s.heap H locs) {ls : Array Slot} (hl : lv_has ls 5 [(0, .int x0), (1, .ref (ad 16 3)), (2, .ref (ad 16 4))]) : W p l e ({ frames := 2, cells := 0, slots := 0, locals := 44 } : Room) s m args below meth c H locs 0 0 (MQ below (wx_Q D ad rd ca A (some (.int r)) σ) args s 0 0 A) (F0 m 0 ls []) := by
  obtain ⟨hx, hb, hml, hr, hts, hown, hlk, hC, hA⟩ := id B
  unfold f_L_suspect at h
  refine lv_iconst (v := 0) hx hb dL_suspect_0 (by decide) ?_
  refine lv_istore_n (lv' := [(3, .int 0), (0, .int x0), (1, .ref (ad 16 3)), (2, .ref (ad 16 4))]) hx hb dL_suspect_1 rfl hl (by decide) rfl (fun ls hl => ?_)
  exact b_L_suspect_2 B h Z hS (lv_sub hl [1, 2, 3, 0] rfl)
set_option maxRecDepth 20000 in
theorem c_L_suspect (l : Launch) {D : va_G} {ad : Nat → Nat → Nat} {rd : Nat → Nat} {ca : Nat → ClassId} {A : Nat → Prop} {σ : wx_St}    {x0 : Int32} {r : Int32} (h : f_L_suspect x0 σ = some r) : wx_M l yL_suspect wsL_suspect 2 44 D ad rd ca A [.int x0, .ref (ad 16 3), .ref (ad 16 4)] σ (some (.int r)) σ := by
  refine Met.ofW (cc := cL_suspect) (maxL := 5) (ret := (some .boolean)) (by decide +kernel) rfl ?_
  intro p e s m args below meth c s₁ B0 hml hv
  obtain ⟨rfl, hC, Z, hA⟩ := hv
  have hl := lv_entry ([.int x0, .ref (ad 16 3), .ref (ad 16 4)]) (n := 5) (Nat.le_of_ble_eq_true rfl)
  rw [lg_entry_eq]
  generalize (lg_sl ([.int x0, .ref (ad 16 3), .ref (ad 16 4)]) ++ List.replicate (5 - (lg_sl ([.int x0, .ref (ad 16 3), .ref (ad 16 4)])).length) Slot.unset).toArray = ls at hl ⊢
  exact b_L_suspect_0 ⟨B0.exec, B0.bytes, hml, B0.returns, atoms_spec (ws := wsL_suspect) B0.pre, findClass_of_methodNamed B0.named, B0.notSynchronized, hC, hA⟩   h Z va_S.rf hl
set_option maxRecDepth 20000 in
set_option maxHeartbeats 4000000 in
theorem b_L_touch_2 (B : wx_B p s m args meth c cL_touch 4 (some .int) wsL_touch RL D ad ca A)    {r : Int32} {σ : wx_St}   :
    ∀ {n : Nat} {x0 : Int32} {x3 : Int32}   (h : f_L_touch_2 n x0 x3 σ = some r) {H : Heap} {locs : List Loc} (Z : wx_Z D ad rd ca A σ H) (hS : va_S A s.heap H locs) {ls : Array Slot} (hl : lv_has ls 4 [(0, .int x0), (1, .ref (ad 16 0)), (2, .ref (ad 16 1)), (3, .int x3)]), W p l e ({ frames := 0, cells := 0, slots := 0, locals := 0 } : Room) s m args below meth c H locs 0 0 (MQ below (wx_Q D ad rd ca A (some (.int r)) σ) args s 0 0 A) (F0 m 2 ls []) := by
  obtain ⟨hx, hb, hml, hr, hts, hown, hlk, hC, hA⟩ := id B
  intro n
  induction n with
  | zero => intro x0 x3   h H locs Z hS ls hl; exact wx_no h
  | succ n ih =>
    intro x0 x3   h H locs Z hS ls hl
    rw [f_L_touch_2] at h
    refine lv_iload_n hx hb dL_touch_2 rfl (lv_at hl 3 rfl) ?_
    refine lv_aload_n hx hb dL_touch_3 rfl (lv_at hl 1 rfl) ?_
    refine lv_iconst (v := 5) hx hb dL_touch_4 (by decide) ?_
    obtain ⟨v5, ev5, iv5, h⟩ := wx_rI_ok h
    refine wx_iald hx hb hC.1 Z (o := 16) (k := 0) (n := 7) rfl rfl iv5 dL_touch_5 ev5 ?_
    refine lv_icmp_ge (tgt := 26) hx hb dL_touch_6 (by decide) (fun c6 => ?_) (fun c6 => ?_)
    · replace h := wx_ift c6 h
      refine lv_bipush (v := (-6)) hx hb dL_touch_26 (by decide) ?_
      obtain rfl := Option.some.inj h
      exact W.iret hx hb hr (fun t ht hW => ⟨rfl, by rw [ht]; exact Z, hS.F ht⟩) hS.2.2 dL_touch_28
    · replace h := wx_iff c6 h
      refine lv_aload_n hx hb dL_touch_9 rfl (lv_at hl 2 rfl) ?_
      refine lv_iconst (v := 2) hx hb dL_touch_10 (by decide) ?_
      refine lv_iload_n hx hb dL_touch_11 rfl (lv_at hl 3 rfl) ?_
      refine lv_imul hx hb dL_touch_12 ?_
      obtain ⟨v13, ev13, iv13, h⟩ := wx_rI_ok h
      refine wx_iald hx hb hC.1 Z (o := 16) (k := 1) (n := 6) rfl rfl iv13 dL_touch_13 ev13 ?_
      refine lv_iload_n hx hb dL_touch_14 rfl (lv_at hl 0 rfl) ?_
      refine lv_icmp_ne (tgt := 20) hx hb dL_touch_15 (by decide) (fun c15 => ?_) (fun c15 => ?_)
      · replace h := wx_iff c15 h
        refine lv_iinc (v := x3 + 1) (lv' := [(3, .int (x3 + 1)), (0, .int x0), (1, .ref (ad 16 0)), (2, .ref (ad 16 1))]) hx hb dL_touch_20 hl (k := 3) rfl rfl (by decide) rfl (fun ls hl => ?_)
        refine lv_goto (tgt := 2) hx hb dL_touch_23 (by decide) ?_
        exact ih h Z hS (lv_sub hl [1, 2, 3, 0] rfl)
      · replace h := wx_ift c15 h
        refine lv_iload_n hx hb dL_touch_18 rfl (lv_at hl 3 rfl) ?_
        obtain rfl := Option.some.inj h
        exact W.iret hx hb hr (fun t ht hW => ⟨rfl, by rw [ht]; exact Z, hS.F ht⟩) hS.2.2 dL_touch_19
set_option maxRecDepth 20000 in
set_option maxHeartbeats 4000000 in
theorem b_L_touch_0 (B : wx_B p s m args meth c cL_touch 4 (some .int) wsL_touch RL D ad ca A)    {r : Int32} {σ : wx_St}  {x0 : Int32}   (h : f_L_touch x0 σ = some r) {H : Heap} {locs : List Loc} (Z : wx_Z D ad rd ca A σ H) (hS : va_S A s.heap H locs) {ls : Array Slot} (hl : lv_has ls 4 [(0, .int x0), (1, .ref (ad 16 0)), (2, .ref (ad 16 1))]) : W p l e ({ frames := 0, cells := 0, slots := 0, locals := 0 } : Room) s m args below meth c H locs 0 0 (MQ below (wx_Q D ad rd ca A (some (.int r)) σ) args s 0 0 A) (F0 m 0 ls []) := by
  obtain ⟨hx, hb, hml, hr, hts, hown, hlk, hC, hA⟩ := id B
  unfold f_L_touch at h
  refine lv_iconst (v := 0) hx hb dL_touch_0 (by decide) ?_
  refine lv_istore_n (lv' := [(3, .int 0), (0, .int x0), (1, .ref (ad 16 0)), (2, .ref (ad 16 1))]) hx hb dL_touch_1 rfl hl (by decide) rfl (fun ls hl => ?_)
  exact b_L_touch_2 B h Z hS (lv_sub hl [1, 2, 3, 0] rfl)
set_option maxRecDepth 20000 in
theorem c_L_touch (l : Launch) {D : va_G} {ad : Nat → Nat → Nat} {rd : Nat → Nat} {ca : Nat → ClassId} {A : Nat → Prop} {σ : wx_St}    {x0 : Int32} {r : Int32} (h : f_L_touch x0 σ = some r) : wx_M l yL_touch wsL_touch 0 0 D ad rd ca A [.int x0, .ref (ad 16 0), .ref (ad 16 1)] σ (some (.int r)) σ := by
  refine Met.ofW (cc := cL_touch) (maxL := 4) (ret := (some .int)) (by decide +kernel) rfl ?_
  intro p e s m args below meth c s₁ B0 hml hv
  obtain ⟨rfl, hC, Z, hA⟩ := hv
  have hl := lv_entry ([.int x0, .ref (ad 16 0), .ref (ad 16 1)]) (n := 4) (Nat.le_of_ble_eq_true rfl)
  rw [lg_entry_eq]
  generalize (lg_sl ([.int x0, .ref (ad 16 0), .ref (ad 16 1)]) ++ List.replicate (4 - (lg_sl ([.int x0, .ref (ad 16 0), .ref (ad 16 1)])).length) Slot.unset).toArray = ls at hl ⊢
  exact b_L_touch_0 ⟨B0.exec, B0.bytes, hml, B0.returns, atoms_spec (ws := wsL_touch) B0.pre, findClass_of_methodNamed B0.named, B0.notSynchronized, hC, hA⟩   h Z va_S.rf hl
set_option maxRecDepth 20000 in
set_option maxHeartbeats 4000000 in
theorem b_L_live_44 (B : wx_B p s m args meth c cL_live 6 (some .int) wsL_live RL D ad ca A)    {r : Int32} {σ : wx_St} {K6 : Int32 → Int32 → wx_St → Option Int32} (hK6 : ∀ {x4 : Int32} {x5 : Int32}   (h : K6 x4 x5 σ = some r) {H : Heap} {locs : List Loc} (Z : wx_Z D ad rd ca A σ H) (hS : va_S A s.heap H locs) {ls : Array Slot} (hl : lv_has ls 6 [(0, .ref (ad 16 0)), (1, .ref (ad 16 1)), (2, .ref (ad 16 3)), (3, .ref (ad 16 4)), (4, .int x4), (5, .int x5)]), W p l e ({ frames := 1, cells := 0, slots := 0, locals := 22 } : Room) s m args below meth c H locs 0 0 (MQ below (wx_Q D ad rd ca A (some (.int r)) σ) args s 0 0 A) (F0 m 6 ls [])) {x4 : Int32} {x5 : Int32} {y0 : Int32} {y1 : Int32}   (h : f_L_live_44 K6 x4 x5 y0 y1 σ = some r) {H : Heap} {locs : List Loc} (Z : wx_Z D ad rd ca A σ H) (hS : va_S A s.heap H locs) {ls : Array Slot} (hl : lv_has ls 6 [(0, .ref (ad 16 0)), (1, .ref (ad 16 1)), (2, .ref (ad 16 3)), (3, .ref (ad 16 4)), (4, .int x4), (5, .int x5)]) : W p l e ({ frames := 1, cells := 0, slots := 0, locals := 22 } : Room) s m args below meth c H locs 0 0 (MQ below (wx_Q D ad rd ca A (some (.int r)) σ) args s 0 0 A) (F0 m 44 ls [.int y1, .int y0]) := by
  obtain ⟨hx, hb, hml, hr, hts, hown, hlk, hC, hA⟩ := id B
  unfold f_L_live_44 at h
  refine lv_iadd hx hb dL_live_44 ?_
  refine lv_istore (lv' := [(4, .int (y0 + y1)), (0, .ref (ad 16 0)), (1, .ref (ad 16 1)), (2, .ref (ad 16 3)), (3, .ref (ad 16 4)), (5, .int x5)]) hx hb dL_live_45 hl (by decide) rfl (fun ls hl => ?_)
  refine lv_iinc (v := x5 + 1) (lv' := [(5, .int (x5 + 1)), (4, .int (y0 + y1)), (0, .ref (ad 16 0)), (1, .ref (ad 16 1)), (2, .ref (ad 16 3)), (3, .ref (ad 16 4))]) hx hb dL_live_47 hl (k := 5) rfl rfl (by decide) rfl (fun ls hl => ?_)
  refine lv_goto (tgt := 6) hx hb dL_live_50 (by decide) ?_
  exact hK6 h Z hS (lv_sub hl [2, 3, 4, 5, 1, 0] rfl)
set_option maxRecDepth 20000 in
set_option maxHeartbeats 4000000 in
theorem b_L_live_6 (B : wx_B p s m args meth c cL_live 6 (some .int) wsL_live RL D ad ca A)    {r : Int32} {σ : wx_St}   :
    ∀ {n : Nat} {x4 : Int32} {x5 : Int32}   (h : f_L_live_6 n x4 x5 σ = some r) {H : Heap} {locs : List Loc} (Z : wx_Z D ad rd ca A σ H) (hS : va_S A s.heap H locs) {ls : Array Slot} (hl : lv_has ls 6 [(0, .ref (ad 16 0)), (1, .ref (ad 16 1)), (2, .ref (ad 16 3)), (3, .ref (ad 16 4)), (4, .int x4), (5, .int x5)]), W p l e ({ frames := 1, cells := 0, slots := 0, locals := 22 } : Room) s m args below meth c H locs 0 0 (MQ below (wx_Q D ad rd ca A (some (.int r)) σ) args s 0 0 A) (F0 m 6 ls []) := by
  obtain ⟨hx, hb, hml, hr, hts, hown, hlk, hC, hA⟩ := id B
  intro n
  induction n with
  | zero => intro x4 x5   h H locs Z hS ls hl; exact wx_no h
  | succ n ih =>
    intro x4 x5   h H locs Z hS ls hl
    rw [f_L_live_6] at h
    refine lv_iload hx hb dL_live_6 (lv_at hl 5 rfl) ?_
    refine lv_aload_n hx hb dL_live_8 rfl (lv_at hl 0 rfl) ?_
    refine lv_iconst (v := 5) hx hb dL_live_9 (by decide) ?_
    obtain ⟨v10, ev10, iv10, h⟩ := wx_rI_ok h
    refine wx_iald hx hb hC.1 Z (o := 16) (k := 0) (n := 7) rfl rfl iv10 dL_live_10 ev10 ?_
    refine lv_icmp_ge (tgt := 53) hx hb dL_live_11 (by decide) (fun c11 => ?_) (fun c11 => ?_)
    · replace h := wx_ift c11 h
      refine lv_iload hx hb dL_live_53 (lv_at hl 4 rfl) ?_
      obtain rfl := Option.some.inj h
      exact W.iret hx hb hr (fun t ht hW => ⟨rfl, by rw [ht]; exact Z, hS.F ht⟩) hS.2.2 dL_live_55
    · replace h := wx_iff c11 h
      refine lv_iload hx hb dL_live_14 (lv_at hl 4 rfl) ?_
      refine lv_aload_n hx hb dL_live_16 rfl (lv_at hl 2 rfl) ?_
      refine lv_aload_n hx hb dL_live_17 rfl (lv_at hl 1 rfl) ?_
      refine lv_iconst (v := 2) hx hb dL_live_18 (by decide) ?_
      refine lv_iload hx hb dL_live_19 (lv_at hl 5 rfl) ?_
      refine lv_imul hx hb dL_live_21 ?_
      obtain ⟨v22, ev22, iv22, h⟩ := wx_rI_ok h
      refine wx_iald hx hb hC.1 Z (o := 16) (k := 1) (n := 6) rfl rfl iv22 dL_live_22 ev22 ?_
      obtain ⟨v23, ev23, iv23, h⟩ := wx_rI_ok h
      refine wx_iald hx hb hC.1 Z (o := 16) (k := 3) (n := 64) rfl rfl iv23 dL_live_23 ev23 ?_
      refine lv_aload_n hx hb dL_live_24 rfl (lv_at hl 1 rfl) ?_
      refine lv_iconst (v := 2) hx hb dL_live_25 (by decide) ?_
      refine lv_iload hx hb dL_live_26 (lv_at hl 5 rfl) ?_
      refine lv_imul hx hb dL_live_28 ?_
      refine lv_iconst (v := 1) hx hb dL_live_29 (by decide) ?_
      refine lv_iadd hx hb dL_live_30 ?_
      obtain ⟨v31, ev31, iv31, h⟩ := wx_rI_ok h
      refine wx_iald hx hb hC.1 Z (o := 16) (k := 1) (n := 6) rfl rfl iv31 dL_live_31 ev31 ?_
      refine lv_aload_n hx hb dL_live_32 rfl (lv_at hl 3 rfl) ?_
      obtain ⟨v33, hc33, h⟩ := wx_o_ok h
      refine wx_call (va_runS (As := [.int v23, .int v31, .ref (ad 16 4)]) (rest := [.int x4]) ⟨hx, hb, hml, hown, hts⟩ (c_L_fed l (D := D) (ad := ad) (rd := rd) (ca := ca) (A := A) (σ := σ) hc33) (va_cwS 3 hts gL_live_L_fed rfl rfl rfl (by decide +kernel) ⟨Nat.le_of_ble_eq_true rfl, Nat.le_of_ble_eq_true rfl⟩) (wx_preS hC Z hS hA) rfl rfl hl.1 rfl (lv_room (Nat.le_of_ble_eq_true rfl)) dL_live_33 ⟨Nat.zero_le _, Nat.zero_le _⟩) hS (fun H locs Z hS => ?_)
      refine lv_if_eq (tgt := 43) hx hb dL_live_36 (by decide) (fun c36 => ?_) (fun c36 => ?_)
      · replace h := wx_ift c36 h
        refine lv_iconst (v := 0) hx hb dL_live_43 (by decide) ?_
        exact b_L_live_44 B (K6 := (f_L_live_6 n)) @ih h Z hS (lv_sub hl [0, 1, 2, 3, 4, 5] rfl)
      · replace h := wx_iff c36 h
        refine lv_iconst (v := 1) hx hb dL_live_39 (by decide) ?_
        refine lv_goto (tgt := 44) hx hb dL_live_40 (by decide) ?_
        exact b_L_live_44 B (K6 := (f_L_live_6 n)) @ih h Z hS (lv_sub hl [0, 1, 2, 3, 4, 5] rfl)
set_option maxRecDepth 20000 in
set_option maxHeartbeats 4000000 in
theorem b_L_live_0 (B : wx_B p s m args meth c cL_live 6 (some .int) wsL_live RL D ad ca A)    {r : Int32} {σ : wx_St}     (h : f_L_live σ = some r) {H : Heap} {locs : List Loc} (Z : wx_Z D ad rd ca A σ H) (hS : va_S A s.heap H locs) {ls : Array Slot} (hl : lv_has ls 6 [(0, .ref (ad 16 0)), (1, .ref (ad 16 1)), (2, .ref (ad 16 3)), (3, .ref (ad 16 4))]) : W p l e ({ frames := 1, cells := 0, slots := 0, locals := 22 } : Room) s m args below meth c H locs 0 0 (MQ below (wx_Q D ad rd ca A (some (.int r)) σ) args s 0 0 A) (F0 m 0 ls []) := by
  obtain ⟨hx, hb, hml, hr, hts, hown, hlk, hC, hA⟩ := id B
  unfold f_L_live at h
  refine lv_iconst (v := 0) hx hb dL_live_0 (by decide) ?_
  refine lv_istore (lv' := [(4, .int 0), (0, .ref (ad 16 0)), (1, .ref (ad 16 1)), (2, .ref (ad 16 3)), (3, .ref (ad 16 4))]) hx hb dL_live_1 hl (by decide) rfl (fun ls hl => ?_)
  refine lv_iconst (v := 0) hx hb dL_live_3 (by decide) ?_
  refine lv_istore (lv' := [(5, .int 0), (4, .int 0), (0, .ref (ad 16 0)), (1, .ref (ad 16 1)), (2, .ref (ad 16 3)), (3, .ref (ad 16 4))]) hx hb dL_live_4 hl (by decide) rfl (fun ls hl => ?_)
  exact b_L_live_6 B h Z hS (lv_sub hl [2, 3, 4, 5, 1, 0] rfl)
set_option maxRecDepth 20000 in
theorem c_L_live (l : Launch) {D : va_G} {ad : Nat → Nat → Nat} {rd : Nat → Nat} {ca : Nat → ClassId} {A : Nat → Prop} {σ : wx_St}     {r : Int32} (h : f_L_live σ = some r) : wx_M l yL_live wsL_live 1 22 D ad rd ca A [.ref (ad 16 0), .ref (ad 16 1), .ref (ad 16 3), .ref (ad 16 4)] σ (some (.int r)) σ := by
  refine Met.ofW (cc := cL_live) (maxL := 6) (ret := (some .int)) (by decide +kernel) rfl ?_
  intro p e s m args below meth c s₁ B0 hml hv
  obtain ⟨rfl, hC, Z, hA⟩ := hv
  have hl := lv_entry ([.ref (ad 16 0), .ref (ad 16 1), .ref (ad 16 3), .ref (ad 16 4)]) (n := 6) (Nat.le_of_ble_eq_true rfl)
  rw [lg_entry_eq]
  generalize (lg_sl ([.ref (ad 16 0), .ref (ad 16 1), .ref (ad 16 3), .ref (ad 16 4)]) ++ List.replicate (6 - (lg_sl ([.ref (ad 16 0), .ref (ad 16 1), .ref (ad 16 3), .ref (ad 16 4)])).length) Slot.unset).toArray = ls at hl ⊢
  exact b_L_live_0 ⟨B0.exec, B0.bytes, hml, B0.returns, atoms_spec (ws := wsL_live) B0.pre, findClass_of_methodNamed B0.named, B0.notSynchronized, hC, hA⟩   h Z va_S.rf hl
end
