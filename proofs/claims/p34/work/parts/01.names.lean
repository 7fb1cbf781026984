/-! ===== BEGIN words of one list among another's, by their places ===== -/
theorem goodIn_r {big : List Cond} (ws : List Cond) (ps : List Nat) (hp : ws = ps.filterMap (fun i => big[i]?)) (h : ws.all goodWord = true) : GoodIn big ws := by
  intro w hw
  have h1 := List.all_eq_true.mp h w hw
  rw [hp] at hw
  obtain ⟨i, -, hi⟩ := List.mem_filterMap.mp hw
  have hm : w ∈ big := by first | exact List.mem_of_getElem? hi | exact List.getElem?_mem hi
  exact ⟨hm, good_of_word h1⟩
theorem goodIn_app {big a b : List Cond} (ha : GoodIn big a) (hb : GoodIn big b) : GoodIn big (a ++ b) := fun w h => (List.mem_append.mp h).elim (ha w) (hb w)
theorem goodIn_ca {big a b : List Cond} {c : Cond} (ha : GoodIn big (c :: a)) (hb : GoodIn big b) : GoodIn big (c :: (a ++ b)) := fun w h => (List.mem_cons.mp h).elim (fun e => ha w (List.mem_cons.mpr (Or.inl e))) (fun h => (List.mem_append.mp h).elim (fun h => ha w (List.mem_cons.mpr (Or.inr h))) (hb w))
theorem goodIn_sub {big ws : List Cond} (hm : ∀ w ∈ ws, w ∈ big) (h : ws.all goodWord = true) : GoodIn big ws := fun w hw => ⟨hm w hw, good_of_word (List.all_eq_true.mp h w hw)⟩
/-! ===== END ===== -/

/-! ===== BEGIN printed: names, fields, word lists, decode rows ===== -/
def RX0 : String := "RiverCall$Day"
def TX0 : u_T := fun k => match k with
  | 0 => ("RiverCall$Day", "river", "LRiverCall$River;", false)
  | 1 => ("RiverCall$Day", "state", "LRiverCall$State;", false)
  | 2 => ("RiverCall$Day", "queue", "[I", true)
  | 3 => ("RiverCall$Day", "queued", "I", false)
  | 4 => ("RiverCall$Day", "place", "[I", true)
  | 5 => ("RiverCall$Day", "there", "[I", true)
  | 6 => ("RiverCall$Day", "out", "[I", true)
  | 7 => ("RiverCall$Day", "wants", "[I", true)
  | 8 => ("RiverCall$Day", "byAge", "[I", true)
  | 9 => ("RiverCall$Day", "byOrder", "[I", true)
  | 10 => ("RiverCall$Day", "byBarter", "[I", true)
  | 11 => ("RiverCall$Day", "letByOrder", "[I", true)
  | 12 => ("RiverCall$Day", "letByBarter", "[I", true)
  | 13 => ("RiverCall$Day", "moreAt", "I", false)
  | _ => ("RiverCall$Day", "more", "I", false)
def tyX0 : Nat → FieldType := fun k => match k with
  | 0 => .object "RiverCall$River"
  | 1 => .object "RiverCall$State"
  | 2 => .array .int
  | 3 => .int
  | 4 => .array .int
  | 5 => .array .int
  | 6 => .array .int
  | 7 => .array .int
  | 8 => .array .int
  | 9 => .array .int
  | 10 => .array .int
  | 11 => .array .int
  | 12 => .array .int
  | 13 => .int
  | _ => .int
abbrev wsX00 : List Cond := u_ws RX0 TX0 15
theorem nmX0 : ∀ a, a < 15 → ∀ b, b < 15 → a ≠ b → (TX0 a).2.1 ≠ (TX0 b).2.1 := by decide +kernel
theorem tyX0_ok : ∀ k, k < 15 → parseFieldDescriptor (TX0 k).2.2.1 = some (tyX0 k) := by decide +kernel
abbrev cX0_init : ByteArray := prog_2_method_1_code
def yX0_init : MethodName := ⟨RX0, "<init>", "(LRiverCall$River;LRiverCall$State;)V"⟩
abbrev cX0_open : ByteArray := prog_2_method_2_code
def yX0_open : MethodName := ⟨RX0, "open", "(LRiverCall$River;LRiverCall$State;)V"⟩
abbrev cX0_enqueue : ByteArray := prog_2_method_3_code
def yX0_enqueue : MethodName := ⟨RX0, "enqueue", "(I)V"⟩
abbrev cX0_ageOf : ByteArray := prog_2_method_4_code
def yX0_ageOf : MethodName := ⟨RX0, "ageOf", "(I)I"⟩
abbrev cX0_work : ByteArray := prog_2_method_5_code
def yX0_work : MethodName := ⟨RX0, "work", "()V"⟩
abbrev cX0_bringWater : ByteArray := prog_2_method_6_code
def yX0_bringWater : MethodName := ⟨RX0, "bringWater", "()V"⟩
abbrev cX0_wantOfRight : ByteArray := prog_2_method_7_code
def yX0_wantOfRight : MethodName := ⟨RX0, "wantOfRight", "(I)I"⟩
abbrev cX0_inflowOf : ByteArray := prog_2_method_8_code
def yX0_inflowOf : MethodName := ⟨RX0, "inflowOf", "(I)I"⟩
abbrev cX0_backOf : ByteArray := prog_2_method_9_code
def yX0_backOf : MethodName := ⟨RX0, "backOf", "(I)I"⟩
abbrev cX0_takeByAge : ByteArray := prog_2_method_10_code
def yX0_takeByAge : MethodName := ⟨RX0, "takeByAge", "(I)V"⟩
abbrev cX0_mostAlone : ByteArray := prog_2_method_11_code
def yX0_mostAlone : MethodName := ⟨RX0, "mostAlone", "(I)I"⟩
abbrev cX0_takeByOrders : ByteArray := prog_2_method_12_code
def yX0_takeByOrders : MethodName := ⟨RX0, "takeByOrders", "()V"⟩
abbrev cX0_takeByBarters : ByteArray := prog_2_method_13_code
def yX0_takeByBarters : MethodName := ⟨RX0, "takeByBarters", "()V"⟩
abbrev cX0_takeMost : ByteArray := prog_2_method_14_code
def yX0_takeMost : MethodName := ⟨RX0, "takeMost", "(III)I"⟩
abbrev cX0_change : ByteArray := prog_2_method_15_code
def yX0_change : MethodName := ⟨RX0, "change", "(II)V"⟩
abbrev cX0_takenBy : ByteArray := prog_2_method_16_code
def yX0_takenBy : MethodName := ⟨RX0, "takenBy", "(I)I"⟩
abbrev cX0_missing : ByteArray := prog_2_method_17_code
def yX0_missing : MethodName := ⟨RX0, "missing", "(I)I"⟩
abbrev cX0_isShort : ByteArray := prog_2_method_18_code
def yX0_isShort : MethodName := ⟨RX0, "isShort", "(I)Z"⟩
abbrev cX0_someCalls : ByteArray := prog_2_method_19_code
def yX0_someCalls : MethodName := ⟨RX0, "someCalls", "()Z"⟩
abbrev cX0_takenAt : ByteArray := prog_2_method_20_code
def yX0_takenAt : MethodName := ⟨RX0, "takenAt", "(I)I"⟩
abbrev cX0_filledInto : ByteArray := prog_2_method_21_code
def yX0_filledInto : MethodName := ⟨RX0, "filledInto", "(I)I"⟩
abbrev cX0_contentBehind : ByteArray := prog_2_method_22_code
def yX0_contentBehind : MethodName := ⟨RX0, "contentBehind", "(I)I"⟩
abbrev cX0_pass : ByteArray := prog_2_method_23_code
def yX0_pass : MethodName := ⟨RX0, "pass", "()V"⟩
abbrev cX0_passReaches : ByteArray := prog_2_method_24_code
def yX0_passReaches : MethodName := ⟨RX0, "passReaches", "()V"⟩
abbrev cX0_passRight : ByteArray := prog_2_method_25_code
def yX0_passRight : MethodName := ⟨RX0, "passRight", "(I)V"⟩
def RX1 : String := "RiverCall$Outlook"
def TX1 : u_T := fun k => match k with
  | 0 => ("RiverCall$Outlook", "state", "LRiverCall$State;", true)
  | 1 => ("RiverCall$Outlook", "day", "LRiverCall$Day;", true)
  | 2 => ("RiverCall$Outlook", "river", "LRiverCall$River;", false)
  | 3 => ("RiverCall$Outlook", "start", "LRiverCall$State;", false)
  | 4 => ("RiverCall$Outlook", "wanted", "[I", true)
  | 5 => ("RiverCall$Outlook", "callDays", "I", false)
  | 6 => ("RiverCall$Outlook", "least", "I", false)
  | 7 => ("RiverCall$Outlook", "shortDays", "I", false)
  | 8 => ("RiverCall$Outlook", "firstShort", "I", false)
  | 9 => ("RiverCall$Outlook", "longest", "I", false)
  | _ => ("RiverCall$Outlook", "spell", "I", false)
def tyX1 : Nat → FieldType := fun k => match k with
  | 0 => .object "RiverCall$State"
  | 1 => .object "RiverCall$Day"
  | 2 => .object "RiverCall$River"
  | 3 => .object "RiverCall$State"
  | 4 => .array .int
  | 5 => .int
  | 6 => .int
  | 7 => .int
  | 8 => .int
  | 9 => .int
  | _ => .int
abbrev wsX10 : List Cond := u_ws RX1 TX1 11
theorem nmX1 : ∀ a, a < 11 → ∀ b, b < 11 → a ≠ b → (TX1 a).2.1 ≠ (TX1 b).2.1 := by decide +kernel
theorem tyX1_ok : ∀ k, k < 11 → parseFieldDescriptor (TX1 k).2.2.1 = some (tyX1 k) := by decide +kernel
abbrev cX1_init : ByteArray := prog_3_method_1_code
def yX1_init : MethodName := ⟨RX1, "<init>", "(LRiverCall$River;LRiverCall$State;)V"⟩
abbrev cX1_begin : ByteArray := prog_3_method_2_code
def yX1_begin : MethodName := ⟨RX1, "begin", "(LRiverCall$River;LRiverCall$State;)V"⟩
abbrev cX1_beginMoved : ByteArray := prog_3_method_3_code
def yX1_beginMoved : MethodName := ⟨RX1, "beginMoved", "(LRiverCall$River;LRiverCall$State;II)V"⟩
abbrev cX1_comeMore : ByteArray := prog_3_method_4_code
def yX1_comeMore : MethodName := ⟨RX1, "comeMore", "(II)V"⟩
abbrev cX1_run : ByteArray := prog_3_method_5_code
def yX1_run : MethodName := ⟨RX1, "run", "(II)V"⟩
abbrev cX1_forget : ByteArray := prog_3_method_6_code
def yX1_forget : MethodName := ⟨RX1, "forget", "()V"⟩
abbrev cX1_watch : ByteArray := prog_3_method_7_code
def yX1_watch : MethodName := ⟨RX1, "watch", "(II)V"⟩
abbrev cX1_tookOf : ByteArray := prog_3_method_8_code
def yX1_tookOf : MethodName := ⟨RX1, "tookOf", "(I)I"⟩
abbrev cX1_sumOf : ByteArray := prog_3_method_9_code
def yX1_sumOf : MethodName := ⟨RX1, "sumOf", "(I)I"⟩
abbrev cX1_isShortNow : ByteArray := prog_3_method_10_code
def yX1_isShortNow : MethodName := ⟨RX1, "isShortNow", "(I)Z"⟩
abbrev cX1_isCalm : ByteArray := prog_3_method_11_code
def yX1_isCalm : MethodName := ⟨RX1, "isCalm", "(I)Z"⟩
abbrev cX1_daysUntil : ByteArray := prog_3_method_12_code
def yX1_daysUntil : MethodName := ⟨RX1, "daysUntil", "(II)I"⟩
def RX2 : String := "RiverCall$River"
def TX2 : u_T := fun k => match k with
  | 0 => ("RiverCall$River", "reaches", "I", false)
  | 1 => ("RiverCall$River", "down", "[I", true)
  | 2 => ("RiverCall$River", "sink", "[I", true)
  | 3 => ("RiverCall$River", "inflow", "[I", true)
  | 4 => ("RiverCall$River", "rights", "I", false)
  | 5 => ("RiverCall$River", "rightAt", "[I", true)
  | 6 => ("RiverCall$River", "rate", "[I", true)
  | 7 => ("RiverCall$River", "from", "[I", true)
  | 8 => ("RiverCall$River", "to", "[I", true)
  | 9 => ("RiverCall$River", "rightAge", "[I", true)
  | 10 => ("RiverCall$River", "volume", "[I", true)
  | 11 => ("RiverCall$River", "backTo", "[I", true)
  | 12 => ("RiverCall$River", "backShare", "[I", true)
  | 13 => ("RiverCall$River", "backDelay", "[I", true)
  | 14 => ("RiverCall$River", "stores", "I", false)
  | 15 => ("RiverCall$River", "storeAt", "[I", true)
  | 16 => ("RiverCall$River", "size", "[I", true)
  | 17 => ("RiverCall$River", "storeRate", "[I", true)
  | 18 => ("RiverCall$River", "storeAge", "[I", true)
  | _ => ("RiverCall$River", "wet", "I", false)
def tyX2 : Nat → FieldType := fun k => match k with
  | 0 => .int
  | 1 => .array .int
  | 2 => .array .int
  | 3 => .array .int
  | 4 => .int
  | 5 => .array .int
  | 6 => .array .int
  | 7 => .array .int
  | 8 => .array .int
  | 9 => .array .int
  | 10 => .array .int
  | 11 => .array .int
  | 12 => .array .int
  | 13 => .array .int
  | 14 => .int
  | 15 => .array .int
  | 16 => .array .int
  | 17 => .array .int
  | 18 => .array .int
  | _ => .int
abbrev wsX20 : List Cond := u_ws RX2 TX2 20
theorem nmX2 : ∀ a, a < 20 → ∀ b, b < 20 → a ≠ b → (TX2 a).2.1 ≠ (TX2 b).2.1 := by decide +kernel
theorem tyX2_ok : ∀ k, k < 20 → parseFieldDescriptor (TX2 k).2.2.1 = some (tyX2 k) := by decide +kernel
abbrev cX2_init : ByteArray := prog_4_method_1_code
def yX2_init : MethodName := ⟨RX2, "<init>", "()V"⟩
abbrev cX2_clear : ByteArray := prog_4_method_2_code
def yX2_clear : MethodName := ⟨RX2, "clear", "()V"⟩
abbrev cX2_copyOf : ByteArray := prog_4_method_3_code
def yX2_copyOf : MethodName := ⟨RX2, "copyOf", "(LRiverCall$River;)V"⟩
abbrev cX2_hasAge : ByteArray := prog_4_method_4_code
def yX2_hasAge : MethodName := ⟨RX2, "hasAge", "(I)Z"⟩
abbrev cX2_runsTo : ByteArray := prog_4_method_5_code
def yX2_runsTo : MethodName := ⟨RX2, "runsTo", "(II)Z"⟩
abbrev cX2_countToMouth : ByteArray := prog_4_method_6_code
def yX2_countToMouth : MethodName := ⟨RX2, "countToMouth", "(I)I"⟩
abbrev cX2_countInto : ByteArray := prog_4_method_7_code
def yX2_countInto : MethodName := ⟨RX2, "countInto", "(I)I"⟩
def RX3 : String := "RiverCall$RiverReader"
def TX3 : u_T := fun k => match k with
  | 0 => ("RiverCall$RiverReader", "text", "[B", true)
  | 1 => ("RiverCall$RiverReader", "length", "I", false)
  | 2 => ("RiverCall$RiverReader", "place", "I", false)
  | 3 => ("RiverCall$RiverReader", "fault", "I", false)
  | 4 => ("RiverCall$RiverReader", "wetTold", "Z", false)
  | _ => ("RiverCall$RiverReader", "river", "LRiverCall$River;", false)
def tyX3 : Nat → FieldType := fun k => match k with
  | 0 => .array .byte
  | 1 => .int
  | 2 => .int
  | 3 => .int
  | 4 => .boolean
  | _ => .object "RiverCall$River"
abbrev wsX30 : List Cond := u_ws RX3 TX3 6
theorem nmX3 : ∀ a, a < 6 → ∀ b, b < 6 → a ≠ b → (TX3 a).2.1 ≠ (TX3 b).2.1 := by decide +kernel
theorem tyX3_ok : ∀ k, k < 6 → parseFieldDescriptor (TX3 k).2.2.1 = some (tyX3 k) := by decide +kernel
abbrev cX3_init : ByteArray := prog_5_method_1_code
def yX3_init : MethodName := ⟨RX3, "<init>", "([BLRiverCall$River;)V"⟩
abbrev cX3_readRiver : ByteArray := prog_5_method_2_code
def yX3_readRiver : MethodName := ⟨RX3, "readRiver", "(LRiverCall$River;I)I"⟩
abbrev cX3_readBetween : ByteArray := prog_5_method_3_code
def yX3_readBetween : MethodName := ⟨RX3, "readBetween", "()Z"⟩
abbrev cX3_readPart : ByteArray := prog_5_method_4_code
def yX3_readPart : MethodName := ⟨RX3, "readPart", "()V"⟩
abbrev cX3_readReach : ByteArray := prog_5_method_5_code
def yX3_readReach : MethodName := ⟨RX3, "readReach", "(I)V"⟩
abbrev cX3_readRight : ByteArray := prog_5_method_6_code
def yX3_readRight : MethodName := ⟨RX3, "readRight", "(I)V"⟩
abbrev cX3_readStore : ByteArray := prog_5_method_7_code
def yX3_readStore : MethodName := ⟨RX3, "readStore", "(I)V"⟩
abbrev cX3_readWet : ByteArray := prog_5_method_8_code
def yX3_readWet : MethodName := ⟨RX3, "readWet", "(I)V"⟩
abbrev cX3_readReachNumber : ByteArray := prog_5_method_9_code
def yX3_readReachNumber : MethodName := ⟨RX3, "readReachNumber", "()I"⟩
abbrev cX3_readAge : ByteArray := prog_5_method_10_code
def yX3_readAge : MethodName := ⟨RX3, "readAge", "()I"⟩
abbrev cX3_readNumber : ByteArray := prog_5_method_11_code
def yX3_readNumber : MethodName := ⟨RX3, "readNumber", "(II)I"⟩
abbrev cX3_isNext : ByteArray := prog_5_method_12_code
def yX3_isNext : MethodName := ⟨RX3, "isNext", "(Ljava/lang/String;)Z"⟩
abbrev cX3_skipBlanks : ByteArray := prog_5_method_13_code
def yX3_skipBlanks : MethodName := ⟨RX3, "skipBlanks", "()V"⟩
abbrev cX3_blame : ByteArray := prog_5_method_14_code
def yX3_blame : MethodName := ⟨RX3, "blame", "(II)V"⟩
def RX4 : String := "RiverCall$RiverWriter"
def TX4 : u_T := fun k => match k with
  | 0 => ("RiverCall$RiverWriter", "river", "LRiverCall$River;", false)
  | 1 => ("RiverCall$RiverWriter", "state", "LRiverCall$State;", false)
  | 2 => ("RiverCall$RiverWriter", "sought", "I", false)
  | 3 => ("RiverCall$RiverWriter", "written", "I", false)
  | _ => ("RiverCall$RiverWriter", "found", "I", false)
def tyX4 : Nat → FieldType := fun k => match k with
  | 0 => .object "RiverCall$River"
  | 1 => .object "RiverCall$State"
  | 2 => .int
  | 3 => .int
  | _ => .int
abbrev wsX40 : List Cond := u_ws RX4 TX4 5
theorem nmX4 : ∀ a, a < 5 → ∀ b, b < 5 → a ≠ b → (TX4 a).2.1 ≠ (TX4 b).2.1 := by decide +kernel
theorem tyX4_ok : ∀ k, k < 5 → parseFieldDescriptor (TX4 k).2.2.1 = some (tyX4 k) := by decide +kernel
abbrev cX4_init : ByteArray := prog_6_method_1_code
def yX4_init : MethodName := ⟨RX4, "<init>", "(LRiverCall$River;LRiverCall$State;)V"⟩
abbrev cX4_write : ByteArray := prog_6_method_2_code
def yX4_write : MethodName := ⟨RX4, "write", "(LRiverCall$River;LRiverCall$State;I)V"⟩
abbrev cX4_writeReach : ByteArray := prog_6_method_3_code
def yX4_writeReach : MethodName := ⟨RX4, "writeReach", "(I)V"⟩
abbrev cX4_writeRight : ByteArray := prog_6_method_4_code
def yX4_writeRight : MethodName := ⟨RX4, "writeRight", "(I)V"⟩
abbrev cX4_writeStore : ByteArray := prog_6_method_5_code
def yX4_writeStore : MethodName := ⟨RX4, "writeStore", "(I)V"⟩
abbrev cX4_beginPart : ByteArray := prog_6_method_6_code
def yX4_beginPart : MethodName := ⟨RX4, "beginPart", "(Ljava/lang/String;)V"⟩
abbrev cX4_putNextWord : ByteArray := prog_6_method_7_code
def yX4_putNextWord : MethodName := ⟨RX4, "putNextWord", "(Ljava/lang/String;)V"⟩
abbrev cX4_putWord : ByteArray := prog_6_method_8_code
def yX4_putWord : MethodName := ⟨RX4, "putWord", "(Ljava/lang/String;)V"⟩
abbrev cX4_putNextNumber : ByteArray := prog_6_method_9_code
def yX4_putNextNumber : MethodName := ⟨RX4, "putNextNumber", "(I)V"⟩
abbrev cX4_put : ByteArray := prog_6_method_10_code
def yX4_put : MethodName := ⟨RX4, "put", "(C)V"⟩
def RX5 : String := "RiverCall$State"
def TX5 : u_T := fun k => match k with
  | 0 => ("RiverCall$State", "day", "I", false)
  | 1 => ("RiverCall$State", "wet", "I", false)
  | 2 => ("RiverCall$State", "at", "[I", true)
  | 3 => ("RiverCall$State", "age", "[I", true)
  | 4 => ("RiverCall$State", "demand", "[I", true)
  | 5 => ("RiverCall$State", "left", "[I", true)
  | 6 => ("RiverCall$State", "barter", "[I", true)
  | 7 => ("RiverCall$State", "took", "[I", true)
  | 8 => ("RiverCall$State", "content", "[I", true)
  | 9 => ("RiverCall$State", "orderRight", "[I", true)
  | 10 => ("RiverCall$State", "orderAmount", "[I", true)
  | 11 => ("RiverCall$State", "onWay", "[I", true)
  | _ => ("RiverCall$State", "sums", "[J", true)
def tyX5 : Nat → FieldType := fun k => match k with
  | 0 => .int
  | 1 => .int
  | 2 => .array .int
  | 3 => .array .int
  | 4 => .array .int
  | 5 => .array .int
  | 6 => .array .int
  | 7 => .array .int
  | 8 => .array .int
  | 9 => .array .int
  | 10 => .array .int
  | 11 => .array .int
  | _ => .array .long
abbrev wsX50 : List Cond := u_ws RX5 TX5 13
theorem nmX5 : ∀ a, a < 13 → ∀ b, b < 13 → a ≠ b → (TX5 a).2.1 ≠ (TX5 b).2.1 := by decide +kernel
theorem tyX5_ok : ∀ k, k < 13 → parseFieldDescriptor (TX5 k).2.2.1 = some (tyX5 k) := by decide +kernel
abbrev cX5_init : ByteArray := prog_7_method_1_code
def yX5_init : MethodName := ⟨RX5, "<init>", "()V"⟩
abbrev cX5_startAs : ByteArray := prog_7_method_2_code
def yX5_startAs : MethodName := ⟨RX5, "startAs", "(LRiverCall$River;)V"⟩
abbrev cX5_copyOf : ByteArray := prog_7_method_3_code
def yX5_copyOf : MethodName := ⟨RX5, "copyOf", "(LRiverCall$State;)V"⟩
abbrev cX5_tradeAges : ByteArray := prog_7_method_4_code
def yX5_tradeAges : MethodName := ⟨RX5, "tradeAges", "(II)V"⟩
abbrev cX5_wayRow : ByteArray := prog_7_method_5_code
def yX5_wayRow : MethodName := ⟨RX5, "wayRow", "(I)I"⟩
abbrev cX5_inStores : ByteArray := prog_7_method_6_code
def yX5_inStores : MethodName := ⟨RX5, "inStores", "(LRiverCall$River;)J"⟩
abbrev cX5_onItsWay : ByteArray := prog_7_method_7_code
def yX5_onItsWay : MethodName := ⟨RX5, "onItsWay", "()J"⟩
def RX6 : String := "RiverCall"
def TX6 : u_T := fun k => match k with
  | 0 => ("RiverCall", "tape", "[B", true)
  | 1 => ("RiverCall", "taped", "I", false)
  | 2 => ("RiverCall", "river", "LRiverCall$River;", false)
  | 3 => ("RiverCall", "spare", "LRiverCall$River;", false)
  | 4 => ("RiverCall", "state", "LRiverCall$State;", true)
  | 5 => ("RiverCall", "past", "[LRiverCall$State;", true)
  | 6 => ("RiverCall", "nextPast", "I", false)
  | 7 => ("RiverCall", "acts", "I", false)
  | 8 => ("RiverCall", "shelfRivers", "[LRiverCall$River;", true)
  | 9 => ("RiverCall", "shelfStates", "[LRiverCall$State;", true)
  | 10 => ("RiverCall", "kept", "I", false)
  | 11 => ("RiverCall", "today", "LRiverCall$Day;", true)
  | 12 => ("RiverCall", "outlook", "LRiverCall$Outlook;", true)
  | 13 => ("RiverCall", "reader", "LRiverCall$RiverReader;", true)
  | 14 => ("RiverCall", "writer", "LRiverCall$RiverWriter;", true)
  | _ => ("RiverCall", "unchanged", "[I", true)
def tyX6 : Nat → FieldType := fun k => match k with
  | 0 => .array .byte
  | 1 => .int
  | 2 => .object "RiverCall$River"
  | 3 => .object "RiverCall$River"
  | 4 => .object "RiverCall$State"
  | 5 => .array (.object "RiverCall$State")
  | 6 => .int
  | 7 => .int
  | 8 => .array (.object "RiverCall$River")
  | 9 => .array (.object "RiverCall$State")
  | 10 => .int
  | 11 => .object "RiverCall$Day"
  | 12 => .object "RiverCall$Outlook"
  | 13 => .object "RiverCall$RiverReader"
  | 14 => .object "RiverCall$RiverWriter"
  | _ => .array .int
abbrev wsX60 : List Cond := u_ws RX6 TX6 16
theorem nmX6 : ∀ a, a < 16 → ∀ b, b < 16 → a ≠ b → (TX6 a).2.1 ≠ (TX6 b).2.1 := by decide +kernel
theorem tyX6_ok : ∀ k, k < 16 → parseFieldDescriptor (TX6 k).2.2.1 = some (tyX6 k) := by decide +kernel
abbrev cX6_init : ByteArray := prog_1_method_1_code
def yX6_init : MethodName := ⟨RX6, "<init>", "()V"⟩
abbrev cX6_feed : ByteArray := prog_1_method_2_code
def yX6_feed : MethodName := ⟨RX6, "feed", "(IIIII)I"⟩
abbrev cX6_putNumber : ByteArray := prog_1_method_3_code
def yX6_putNumber : MethodName := ⟨RX6, "putNumber", "(I)V"⟩
abbrev cX6_end : ByteArray := prog_1_method_4_code
def yX6_end : MethodName := ⟨RX6, "end", "(I)I"⟩
abbrev cX6_tell : ByteArray := prog_1_method_5_code
def yX6_tell : MethodName := ⟨RX6, "tell", "()I"⟩
abbrev cX6_days : ByteArray := prog_1_method_6_code
def yX6_days : MethodName := ⟨RX6, "days", "(I)I"⟩
abbrev cX6_wet : ByteArray := prog_1_method_7_code
def yX6_wet : MethodName := ⟨RX6, "wet", "(I)I"⟩
abbrev cX6_demand : ByteArray := prog_1_method_8_code
def yX6_demand : MethodName := ⟨RX6, "demand", "(II)I"⟩
abbrev cX6_order : ByteArray := prog_1_method_9_code
def yX6_order : MethodName := ⟨RX6, "order", "(III)I"⟩
abbrev cX6_barter : ByteArray := prog_1_method_10_code
def yX6_barter : MethodName := ⟨RX6, "barter", "(II)I"⟩
abbrev cX6_trade : ByteArray := prog_1_method_11_code
def yX6_trade : MethodName := ⟨RX6, "trade", "(II)I"⟩
abbrev cX6_move : ByteArray := prog_1_method_12_code
def yX6_move : MethodName := ⟨RX6, "move", "(II)I"⟩
abbrev cX6_undo : ByteArray := prog_1_method_13_code
def yX6_undo : MethodName := ⟨RX6, "undo", "()I"⟩
abbrev cX6_remember : ByteArray := prog_1_method_14_code
def yX6_remember : MethodName := ⟨RX6, "remember", "()V"⟩
abbrev cX6_keep : ByteArray := prog_1_method_15_code
def yX6_keep : MethodName := ⟨RX6, "keep", "(I)I"⟩
abbrev cX6_back : ByteArray := prog_1_method_16_code
def yX6_back : MethodName := ⟨RX6, "back", "(I)I"⟩
abbrev cX6_reach : ByteArray := prog_1_method_17_code
def yX6_reach : MethodName := ⟨RX6, "reach", "(II)I"⟩
abbrev cX6_right : ByteArray := prog_1_method_18_code
def yX6_right : MethodName := ⟨RX6, "right", "(II)I"⟩
abbrev cX6_store : ByteArray := prog_1_method_19_code
def yX6_store : MethodName := ⟨RX6, "store", "(II)I"⟩
abbrev cX6_flow : ByteArray := prog_1_method_20_code
def yX6_flow : MethodName := ⟨RX6, "flow", "(II)I"⟩
abbrev cX6_takes : ByteArray := prog_1_method_21_code
def yX6_takes : MethodName := ⟨RX6, "takes", "(II)I"⟩
abbrev cX6_stored : ByteArray := prog_1_method_22_code
def yX6_stored : MethodName := ⟨RX6, "stored", "(II)I"⟩
abbrev cX6_shut : ByteArray := prog_1_method_23_code
def yX6_shut : MethodName := ⟨RX6, "shut", "(I)I"⟩
abbrev cX6_caller : ByteArray := prog_1_method_24_code
def yX6_caller : MethodName := ⟨RX6, "caller", "(I)I"⟩
abbrev cX6_calls : ByteArray := prog_1_method_25_code
def yX6_calls : MethodName := ⟨RX6, "calls", "(I)I"⟩
abbrev cX6_futile : ByteArray := prog_1_method_26_code
def yX6_futile : MethodName := ⟨RX6, "futile", "(II)I"⟩
abbrev cX6_isFutileOnSome : ByteArray := prog_1_method_27_code
def yX6_isFutileOnSome : MethodName := ⟨RX6, "isFutileOnSome", "(I)Z"⟩
abbrev cX6_isFutileOn : ByteArray := prog_1_method_28_code
def yX6_isFutileOn : MethodName := ⟨RX6, "isFutileOn", "(II)Z"⟩
abbrev cX6_needs : ByteArray := prog_1_method_29_code
def yX6_needs : MethodName := ⟨RX6, "needs", "(I)I"⟩
abbrev cX6_firm : ByteArray := prog_1_method_30_code
def yX6_firm : MethodName := ⟨RX6, "firm", "(III)I"⟩
abbrev cX6_without : ByteArray := prog_1_method_31_code
def yX6_without : MethodName := ⟨RX6, "without", "(III)I"⟩
abbrev cX6_hurt : ByteArray := prog_1_method_32_code
def yX6_hurt : MethodName := ⟨RX6, "hurt", "(III)I"⟩
abbrev cX6_movable : ByteArray := prog_1_method_33_code
def yX6_movable : MethodName := ⟨RX6, "movable", "(I)I"⟩
abbrev cX6_lookAhead : ByteArray := prog_1_method_34_code
def yX6_lookAhead : MethodName := ⟨RX6, "lookAhead", "()V"⟩
abbrev cX6_hurtsSomebody : ByteArray := prog_1_method_35_code
def yX6_hurtsSomebody : MethodName := ⟨RX6, "hurtsSomebody", "(II)Z"⟩
abbrev cX6_aged : ByteArray := prog_1_method_36_code
def yX6_aged : MethodName := ⟨RX6, "aged", "(I)I"⟩
abbrev cX6_nameOf : ByteArray := prog_1_method_37_code
def yX6_nameOf : MethodName := ⟨RX6, "nameOf", "(I)I"⟩
abbrev cX6_runs : ByteArray := prog_1_method_38_code
def yX6_runs : MethodName := ⟨RX6, "runs", "(II)I"⟩
abbrev cX6_gone : ByteArray := prog_1_method_39_code
def yX6_gone : MethodName := ⟨RX6, "gone", "(I)J"⟩
abbrev cX6_coming : ByteArray := prog_1_method_40_code
def yX6_coming : MethodName := ⟨RX6, "coming", "(II)I"⟩
abbrev cX6_above : ByteArray := prog_1_method_41_code
def yX6_above : MethodName := ⟨RX6, "above", "(I)I"⟩
abbrev cX6_thirst : ByteArray := prog_1_method_42_code
def yX6_thirst : MethodName := ⟨RX6, "thirst", "(I)I"⟩
abbrev cX6_letter : ByteArray := prog_1_method_43_code
def yX6_letter : MethodName := ⟨RX6, "letter", "(I)I"⟩
abbrev cX6_dry : ByteArray := prog_1_method_44_code
def yX6_dry : MethodName := ⟨RX6, "dry", "(I)I"⟩
abbrev cX6_full : ByteArray := prog_1_method_45_code
def yX6_full : MethodName := ⟨RX6, "full", "(II)I"⟩
abbrev cX6_swap : ByteArray := prog_1_method_46_code
def yX6_swap : MethodName := ⟨RX6, "swap", "(IIII)I"⟩
abbrev cX6_spell : ByteArray := prog_1_method_47_code
def yX6_spell : MethodName := ⟨RX6, "spell", "(III)I"⟩
abbrev cX6_gain : ByteArray := prog_1_method_48_code
def yX6_gain : MethodName := ⟨RX6, "gain", "(III)I"⟩
abbrev cX6_share : ByteArray := prog_1_method_49_code
def yX6_share : MethodName := ⟨RX6, "share", "(II)I"⟩
abbrev cX6_worst : ByteArray := prog_1_method_50_code
def yX6_worst : MethodName := ⟨RX6, "worst", "(I)I"⟩
abbrev cX6_thousandths : ByteArray := prog_1_method_51_code
def yX6_thousandths : MethodName := ⟨RX6, "thousandths", "(JJ)I"⟩
abbrev cX6_count : ByteArray := prog_1_method_52_code
def yX6_count : MethodName := ⟨RX6, "count", "(I)I"⟩
abbrev cX6_countTold : ByteArray := prog_1_method_53_code
def yX6_countTold : MethodName := ⟨RX6, "countTold", "([II)I"⟩
abbrev cX6_look : ByteArray := prog_1_method_54_code
def yX6_look : MethodName := ⟨RX6, "look", "()V"⟩
abbrev cX6_isReach : ByteArray := prog_1_method_55_code
def yX6_isReach : MethodName := ⟨RX6, "isReach", "(I)Z"⟩
abbrev cX6_isRight : ByteArray := prog_1_method_56_code
def yX6_isRight : MethodName := ⟨RX6, "isRight", "(I)Z"⟩
abbrev cX6_isStore : ByteArray := prog_1_method_57_code
def yX6_isStore : MethodName := ⟨RX6, "isStore", "(I)Z"⟩
abbrev cX6_areTwoRights : ByteArray := prog_1_method_58_code
def yX6_areTwoRights : MethodName := ⟨RX6, "areTwoRights", "(II)Z"⟩
abbrev cX6_isSpan : ByteArray := prog_1_method_59_code
def yX6_isSpan : MethodName := ⟨RX6, "isSpan", "(I)Z"⟩
abbrev cX6_copyRow : ByteArray := prog_1_method_60_code
def yX6_copyRow : MethodName := ⟨RX6, "copyRow", "([I[I)V"⟩
def RX7 : String := "RiverCallModel"
def TX7 : u_T := fun k => match k with
  | 0 => ("RiverCallModel", "now", "[I", true)
  | 1 => ("RiverCallModel", "sums", "[J", true)
  | 2 => ("RiverCallModel", "was", "[I", true)
  | 3 => ("RiverCallModel", "sumsWas", "[J", true)
  | 4 => ("RiverCallModel", "undone", "I", false)
  | 5 => ("RiverCallModel", "kept", "[I", true)
  | 6 => ("RiverCallModel", "sumsKept", "[J", true)
  | 7 => ("RiverCallModel", "isKept", "[Z", true)
  | 8 => ("RiverCallModel", "aside", "[I", true)
  | 9 => ("RiverCallModel", "sumsAside", "[J", true)
  | 10 => ("RiverCallModel", "order", "[I", true)
  | 11 => ("RiverCallModel", "takers", "I", false)
  | 12 => ("RiverCallModel", "takenAt", "[I", true)
  | 13 => ("RiverCallModel", "letAt", "[I", true)
  | 14 => ("RiverCallModel", "comes", "[I", true)
  | 15 => ("RiverCallModel", "runsOut", "[I", true)
  | 16 => ("RiverCallModel", "extraAt", "I", false)
  | 17 => ("RiverCallModel", "extra", "I", false)
  | 18 => ("RiverCallModel", "first", "[I", true)
  | 19 => ("RiverCallModel", "second", "[I", true)
  | 20 => ("RiverCallModel", "third", "[I", true)
  | 21 => ("RiverCallModel", "letSecond", "[I", true)
  | 22 => ("RiverCallModel", "letThird", "[I", true)
  | 23 => ("RiverCallModel", "dayOut", "I", false)
  | 24 => ("RiverCallModel", "daySunk", "I", false)
  | 25 => ("RiverCallModel", "dayTaken", "I", false)
  | 26 => ("RiverCallModel", "dayCalls", "Z", false)
  | 27 => ("RiverCallModel", "togetherNow", "[I", true)
  | 28 => ("RiverCallModel", "together", "[I", true)
  | 29 => ("RiverCallModel", "tape", "[B", true)
  | 30 => ("RiverCallModel", "taped", "I", false)
  | 31 => ("RiverCallModel", "spot", "I", false)
  | 32 => ("RiverCallModel", "wrong", "I", false)
  | 33 => ("RiverCallModel", "number", "I", false)
  | 34 => ("RiverCallModel", "numberAt", "I", false)
  | 35 => ("RiverCallModel", "isWet", "Z", false)
  | 36 => ("RiverCallModel", "read", "[I", true)
  | 37 => ("RiverCallModel", "spelt", "I", false)
  | 38 => ("RiverCallModel", "wanted", "I", false)
  | 39 => ("RiverCallModel", "found", "I", false)
  | 40 => ("RiverCallModel", "wantsAll", "[J", true)
  | _ => ("RiverCallModel", "takesAll", "[J", true)
def tyX7 : Nat → FieldType := fun k => match k with
  | 0 => .array .int
  | 1 => .array .long
  | 2 => .array .int
  | 3 => .array .long
  | 4 => .int
  | 5 => .array .int
  | 6 => .array .long
  | 7 => .array .boolean
  | 8 => .array .int
  | 9 => .array .long
  | 10 => .array .int
  | 11 => .int
  | 12 => .array .int
  | 13 => .array .int
  | 14 => .array .int
  | 15 => .array .int
  | 16 => .int
  | 17 => .int
  | 18 => .array .int
  | 19 => .array .int
  | 20 => .array .int
  | 21 => .array .int
  | 22 => .array .int
  | 23 => .int
  | 24 => .int
  | 25 => .int
  | 26 => .boolean
  | 27 => .array .int
  | 28 => .array .int
  | 29 => .array .byte
  | 30 => .int
  | 31 => .int
  | 32 => .int
  | 33 => .int
  | 34 => .int
  | 35 => .boolean
  | 36 => .array .int
  | 37 => .int
  | 38 => .int
  | 39 => .int
  | 40 => .array .long
  | _ => .array .long
abbrev wsX70 : List Cond := u_ws RX7 TX7 42
theorem nmX7 : ∀ a, a < 42 → ∀ b, b < 42 → a ≠ b → (TX7 a).2.1 ≠ (TX7 b).2.1 := by decide +kernel
theorem tyX7_ok : ∀ k, k < 42 → parseFieldDescriptor (TX7 k).2.2.1 = some (tyX7 k) := by decide +kernel
abbrev cX7_init : ByteArray := prog_9_method_1_code
def yX7_init : MethodName := ⟨RX7, "<init>", "()V"⟩
abbrev cX7_in : ByteArray := prog_9_method_2_code
def yX7_in : MethodName := ⟨RX7, "in", "(JJJ)Z"⟩
abbrev cX7_has : ByteArray := prog_9_method_3_code
def yX7_has : MethodName := ⟨RX7, "has", "(II)Z"⟩
abbrev cX7_least : ByteArray := prog_9_method_4_code
def yX7_least : MethodName := ⟨RX7, "least", "(II)I"⟩
abbrev cX7_reaches : ByteArray := prog_9_method_5_code
def yX7_reaches : MethodName := ⟨RX7, "reaches", "()I"⟩
abbrev cX7_rights : ByteArray := prog_9_method_6_code
def yX7_rights : MethodName := ⟨RX7, "rights", "()I"⟩
abbrev cX7_stores : ByteArray := prog_9_method_7_code
def yX7_stores : MethodName := ⟨RX7, "stores", "()I"⟩
abbrev cX7_isReach : ByteArray := prog_9_method_8_code
def yX7_isReach : MethodName := ⟨RX7, "isReach", "(I)Z"⟩
abbrev cX7_isRight : ByteArray := prog_9_method_9_code
def yX7_isRight : MethodName := ⟨RX7, "isRight", "(I)Z"⟩
abbrev cX7_isStore : ByteArray := prog_9_method_10_code
def yX7_isStore : MethodName := ⟨RX7, "isStore", "(I)Z"⟩
abbrev cX7_ofReach : ByteArray := prog_9_method_11_code
def yX7_ofReach : MethodName := ⟨RX7, "ofReach", "(II)I"⟩
abbrev cX7_of : ByteArray := prog_9_method_12_code
def yX7_of : MethodName := ⟨RX7, "of", "(II)I"⟩
abbrev cX7_ofStore : ByteArray := prog_9_method_13_code
def yX7_ofStore : MethodName := ⟨RX7, "ofStore", "(II)I"⟩
abbrev cX7_whole : ByteArray := prog_9_method_14_code
def yX7_whole : MethodName := ⟨RX7, "whole", "(II)I"⟩
abbrev cX7_inflowOf : ByteArray := prog_9_method_15_code
def yX7_inflowOf : MethodName := ⟨RX7, "inflowOf", "(I)I"⟩
abbrev cX7_backIn : ByteArray := prog_9_method_16_code
def yX7_backIn : MethodName := ⟨RX7, "backIn", "(II)I"⟩
abbrev cX7_runsTo : ByteArray := prog_9_method_17_code
def yX7_runsTo : MethodName := ⟨RX7, "runsTo", "(II)Z"⟩
abbrev cX7_atOf : ByteArray := prog_9_method_18_code
def yX7_atOf : MethodName := ⟨RX7, "atOf", "(I)I"⟩
abbrev cX7_ageOf : ByteArray := prog_9_method_19_code
def yX7_ageOf : MethodName := ⟨RX7, "ageOf", "(I)I"⟩
abbrev cX7_isTaker : ByteArray := prog_9_method_20_code
def yX7_isTaker : MethodName := ⟨RX7, "isTaker", "(I)Z"⟩
abbrev cX7_wantsOf : ByteArray := prog_9_method_21_code
def yX7_wantsOf : MethodName := ⟨RX7, "wantsOf", "(I)I"⟩
abbrev cX7_laysOrder : ByteArray := prog_9_method_22_code
def yX7_laysOrder : MethodName := ⟨RX7, "laysOrder", "()V"⟩
abbrev cX7_canBe : ByteArray := prog_9_method_23_code
def yX7_canBe : MethodName := ⟨RX7, "canBe", "()Z"⟩
abbrev cX7_canMore : ByteArray := prog_9_method_24_code
def yX7_canMore : MethodName := ⟨RX7, "canMore", "(III)Z"⟩
abbrev cX7_mostMore : ByteArray := prog_9_method_25_code
def yX7_mostMore : MethodName := ⟨RX7, "mostMore", "(III)I"⟩
abbrev cX7_clears : ByteArray := prog_9_method_26_code
def yX7_clears : MethodName := ⟨RX7, "clears", "()V"⟩
abbrev cX7_takesFirst : ByteArray := prog_9_method_27_code
def yX7_takesFirst : MethodName := ⟨RX7, "takesFirst", "(I)V"⟩
abbrev cX7_lets : ByteArray := prog_9_method_28_code
def yX7_lets : MethodName := ⟨RX7, "lets", "(I)V"⟩
abbrev cX7_barters : ByteArray := prog_9_method_29_code
def yX7_barters : MethodName := ⟨RX7, "barters", "(I)V"⟩
abbrev cX7_works : ByteArray := prog_9_method_30_code
def yX7_works : MethodName := ⟨RX7, "works", "()V"⟩
abbrev cX7_allOf : ByteArray := prog_9_method_31_code
def yX7_allOf : MethodName := ⟨RX7, "allOf", "(I)I"⟩
abbrev cX7_isShort : ByteArray := prog_9_method_32_code
def yX7_isShort : MethodName := ⟨RX7, "isShort", "(I)Z"⟩
abbrev cX7_addsUp : ByteArray := prog_9_method_33_code
def yX7_addsUp : MethodName := ⟨RX7, "addsUp", "()V"⟩
abbrev cX7_takesIt : ByteArray := prog_9_method_34_code
def yX7_takesIt : MethodName := ⟨RX7, "takesIt", "(I)V"⟩
abbrev cX7_newYear : ByteArray := prog_9_method_35_code
def yX7_newYear : MethodName := ⟨RX7, "newYear", "()V"⟩
abbrev cX7_passes : ByteArray := prog_9_method_36_code
def yX7_passes : MethodName := ⟨RX7, "passes", "()V"⟩
abbrev cX7_putsAside : ByteArray := prog_9_method_37_code
def yX7_putsAside : MethodName := ⟨RX7, "putsAside", "()V"⟩
abbrev cX7_takesBack : ByteArray := prog_9_method_38_code
def yX7_takesBack : MethodName := ⟨RX7, "takesBack", "()V"⟩
abbrev cX7_ahead : ByteArray := prog_9_method_39_code
def yX7_ahead : MethodName := ⟨RX7, "ahead", "(I[I)V"⟩
abbrev cX7_runningTo : ByteArray := prog_9_method_40_code
def yX7_runningTo : MethodName := ⟨RX7, "runningTo", "(I)I"⟩
abbrev cX7_farOf : ByteArray := prog_9_method_41_code
def yX7_farOf : MethodName := ⟨RX7, "farOf", "(I)I"⟩
abbrev cX7_reach : ByteArray := prog_9_method_42_code
def yX7_reach : MethodName := ⟨RX7, "reach", "(II)I"⟩
abbrev cX7_right : ByteArray := prog_9_method_43_code
def yX7_right : MethodName := ⟨RX7, "right", "(II)I"⟩
abbrev cX7_store : ByteArray := prog_9_method_44_code
def yX7_store : MethodName := ⟨RX7, "store", "(II)I"⟩
abbrev cX7_flow : ByteArray := prog_9_method_45_code
def yX7_flow : MethodName := ⟨RX7, "flow", "(II)I"⟩
abbrev cX7_takes : ByteArray := prog_9_method_46_code
def yX7_takes : MethodName := ⟨RX7, "takes", "(II)I"⟩
abbrev cX7_stored : ByteArray := prog_9_method_47_code
def yX7_stored : MethodName := ⟨RX7, "stored", "(II)I"⟩
abbrev cX7_takesWithout : ByteArray := prog_9_method_48_code
def yX7_takesWithout : MethodName := ⟨RX7, "takesWithout", "(II)I"⟩
abbrev cX7_olderThan : ByteArray := prog_9_method_49_code
def yX7_olderThan : MethodName := ⟨RX7, "olderThan", "(I)I"⟩
abbrev cX7_shut : ByteArray := prog_9_method_50_code
def yX7_shut : MethodName := ⟨RX7, "shut", "(I)I"⟩
abbrev cX7_told : ByteArray := prog_9_method_51_code
def yX7_told : MethodName := ⟨RX7, "told", "(I)I"⟩
abbrev cX7_caller : ByteArray := prog_9_method_52_code
def yX7_caller : MethodName := ⟨RX7, "caller", "(I)I"⟩
abbrev cX7_isFutile : ByteArray := prog_9_method_53_code
def yX7_isFutile : MethodName := ⟨RX7, "isFutile", "(II)Z"⟩
abbrev cX7_calls : ByteArray := prog_9_method_54_code
def yX7_calls : MethodName := ⟨RX7, "calls", "(I)I"⟩
abbrev cX7_futile : ByteArray := prog_9_method_55_code
def yX7_futile : MethodName := ⟨RX7, "futile", "(II)I"⟩
abbrev cX7_needs : ByteArray := prog_9_method_56_code
def yX7_needs : MethodName := ⟨RX7, "needs", "(I)I"⟩
abbrev cX7_firm : ByteArray := prog_9_method_57_code
def yX7_firm : MethodName := ⟨RX7, "firm", "(III)I"⟩
abbrev cX7_without : ByteArray := prog_9_method_58_code
def yX7_without : MethodName := ⟨RX7, "without", "(III)I"⟩
abbrev cX7_moves : ByteArray := prog_9_method_59_code
def yX7_moves : MethodName := ⟨RX7, "moves", "(II)V"⟩
abbrev cX7_stays : ByteArray := prog_9_method_60_code
def yX7_stays : MethodName := ⟨RX7, "stays", "()V"⟩
abbrev cX7_hurt : ByteArray := prog_9_method_61_code
def yX7_hurt : MethodName := ⟨RX7, "hurt", "(III)I"⟩
abbrev cX7_mayMove : ByteArray := prog_9_method_62_code
def yX7_mayMove : MethodName := ⟨RX7, "mayMove", "(II)Z"⟩
abbrev cX7_movable : ByteArray := prog_9_method_63_code
def yX7_movable : MethodName := ⟨RX7, "movable", "(I)I"⟩
abbrev cX7_aged : ByteArray := prog_9_method_64_code
def yX7_aged : MethodName := ⟨RX7, "aged", "(I)I"⟩
abbrev cX7_runs : ByteArray := prog_9_method_65_code
def yX7_runs : MethodName := ⟨RX7, "runs", "(II)I"⟩
abbrev cX7_inStores : ByteArray := prog_9_method_66_code
def yX7_inStores : MethodName := ⟨RX7, "inStores", "()J"⟩
abbrev cX7_onItsWay : ByteArray := prog_9_method_67_code
def yX7_onItsWay : MethodName := ⟨RX7, "onItsWay", "()J"⟩
abbrev cX7_gone : ByteArray := prog_9_method_68_code
def yX7_gone : MethodName := ⟨RX7, "gone", "(I)J"⟩
abbrev cX7_coming : ByteArray := prog_9_method_69_code
def yX7_coming : MethodName := ⟨RX7, "coming", "(II)I"⟩
abbrev cX7_above : ByteArray := prog_9_method_70_code
def yX7_above : MethodName := ⟨RX7, "above", "(I)I"⟩
abbrev cX7_outOfAll : ByteArray := prog_9_method_71_code
def yX7_outOfAll : MethodName := ⟨RX7, "outOfAll", "()I"⟩
abbrev cX7_thirst : ByteArray := prog_9_method_72_code
def yX7_thirst : MethodName := ⟨RX7, "thirst", "(I)I"⟩
abbrev cX7_orders : ByteArray := prog_9_method_73_code
def yX7_orders : MethodName := ⟨RX7, "orders", "()I"⟩
abbrev cX7_bartersMany : ByteArray := prog_9_method_74_code
def yX7_bartersMany : MethodName := ⟨RX7, "bartersMany", "()I"⟩
abbrev cX7_count : ByteArray := prog_9_method_75_code
def yX7_count : MethodName := ⟨RX7, "count", "(I)I"⟩
abbrev cX7_keepsAct : ByteArray := prog_9_method_76_code
def yX7_keepsAct : MethodName := ⟨RX7, "keepsAct", "()V"⟩
abbrev cX7_days : ByteArray := prog_9_method_77_code
def yX7_days : MethodName := ⟨RX7, "days", "(I)I"⟩
abbrev cX7_becomes : ByteArray := prog_9_method_78_code
def yX7_becomes : MethodName := ⟨RX7, "becomes", "(II)I"⟩
abbrev cX7_wet : ByteArray := prog_9_method_79_code
def yX7_wet : MethodName := ⟨RX7, "wet", "(I)I"⟩
abbrev cX7_demand : ByteArray := prog_9_method_80_code
def yX7_demand : MethodName := ⟨RX7, "demand", "(II)I"⟩
abbrev cX7_orders_ : ByteArray := prog_9_method_81_code
def yX7_orders_ : MethodName := ⟨RX7, "orders", "(III)I"⟩
abbrev cX7_order : ByteArray := prog_9_method_82_code
def yX7_order : MethodName := ⟨RX7, "order", "(III)I"⟩
abbrev cX7_barter : ByteArray := prog_9_method_83_code
def yX7_barter : MethodName := ⟨RX7, "barter", "(II)I"⟩
abbrev cX7_trade : ByteArray := prog_9_method_84_code
def yX7_trade : MethodName := ⟨RX7, "trade", "(II)I"⟩
abbrev cX7_move : ByteArray := prog_9_method_85_code
def yX7_move : MethodName := ⟨RX7, "move", "(II)I"⟩
abbrev cX7_undo : ByteArray := prog_9_method_86_code
def yX7_undo : MethodName := ⟨RX7, "undo", "()I"⟩
abbrev cX7_keep : ByteArray := prog_9_method_87_code
def yX7_keep : MethodName := ⟨RX7, "keep", "(I)I"⟩
abbrev cX7_back : ByteArray := prog_9_method_88_code
def yX7_back : MethodName := ⟨RX7, "back", "(I)I"⟩
abbrev cX7_puts : ByteArray := prog_9_method_89_code
def yX7_puts : MethodName := ⟨RX7, "puts", "(I)V"⟩
abbrev cX7_feed : ByteArray := prog_9_method_90_code
def yX7_feed : MethodName := ⟨RX7, "feed", "(IIIII)I"⟩
abbrev cX7_end : ByteArray := prog_9_method_91_code
def yX7_end : MethodName := ⟨RX7, "end", "(I)I"⟩
abbrev cX7_byteAt : ByteArray := prog_9_method_92_code
def yX7_byteAt : MethodName := ⟨RX7, "byteAt", "(I)I"⟩
abbrev cX7_nextByte : ByteArray := prog_9_method_93_code
def yX7_nextByte : MethodName := ⟨RX7, "nextByte", "()I"⟩
abbrev cX7_fails : ByteArray := prog_9_method_94_code
def yX7_fails : MethodName := ⟨RX7, "fails", "(II)Z"⟩
abbrev cX7_isWord : ByteArray := prog_9_method_95_code
def yX7_isWord : MethodName := ⟨RX7, "isWord", "(Ljava/lang/String;)Z"⟩
abbrev cX7_takesWord : ByteArray := prog_9_method_96_code
def yX7_takesWord : MethodName := ⟨RX7, "takesWord", "(Ljava/lang/String;)Z"⟩
abbrev cX7_mustWord : ByteArray := prog_9_method_97_code
def yX7_mustWord : MethodName := ⟨RX7, "mustWord", "(Ljava/lang/String;)Z"⟩
abbrev cX7_readsNumber : ByteArray := prog_9_method_98_code
def yX7_readsNumber : MethodName := ⟨RX7, "readsNumber", "(II)Z"⟩
abbrev cX7_readsTo : ByteArray := prog_9_method_99_code
def yX7_readsTo : MethodName := ⟨RX7, "readsTo", "(III)Z"⟩
abbrev cX7_begins : ByteArray := prog_9_method_100_code
def yX7_begins : MethodName := ⟨RX7, "begins", "(Ljava/lang/String;II)Z"⟩
abbrev cX7_readsReachOf : ByteArray := prog_9_method_101_code
def yX7_readsReachOf : MethodName := ⟨RX7, "readsReachOf", "(I)Z"⟩
abbrev cX7_readsReach : ByteArray := prog_9_method_102_code
def yX7_readsReach : MethodName := ⟨RX7, "readsReach", "()Z"⟩
abbrev cX7_readsAge : ByteArray := prog_9_method_103_code
def yX7_readsAge : MethodName := ⟨RX7, "readsAge", "(I)Z"⟩
abbrev cX7_readsBack : ByteArray := prog_9_method_104_code
def yX7_readsBack : MethodName := ⟨RX7, "readsBack", "(I)Z"⟩
abbrev cX7_readsRight : ByteArray := prog_9_method_105_code
def yX7_readsRight : MethodName := ⟨RX7, "readsRight", "()Z"⟩
abbrev cX7_readsStore : ByteArray := prog_9_method_106_code
def yX7_readsStore : MethodName := ⟨RX7, "readsStore", "()Z"⟩
abbrev cX7_readsWet : ByteArray := prog_9_method_107_code
def yX7_readsWet : MethodName := ⟨RX7, "readsWet", "()Z"⟩
abbrev cX7_readsPart : ByteArray := prog_9_method_108_code
def yX7_readsPart : MethodName := ⟨RX7, "readsPart", "()Z"⟩
abbrev cX7_readsAll : ByteArray := prog_9_method_109_code
def yX7_readsAll : MethodName := ⟨RX7, "readsAll", "()Z"⟩
abbrev cX7_tell : ByteArray := prog_9_method_110_code
def yX7_tell : MethodName := ⟨RX7, "tell", "()I"⟩
abbrev cX7_spell : ByteArray := prog_9_method_111_code
def yX7_spell : MethodName := ⟨RX7, "spell", "(I)V"⟩
abbrev cX7_spellWord : ByteArray := prog_9_method_112_code
def yX7_spellWord : MethodName := ⟨RX7, "spellWord", "(Ljava/lang/String;)V"⟩
abbrev cX7_spellPart : ByteArray := prog_9_method_113_code
def yX7_spellPart : MethodName := ⟨RX7, "spellPart", "(Ljava/lang/String;)V"⟩
abbrev cX7_spellNumber : ByteArray := prog_9_method_114_code
def yX7_spellNumber : MethodName := ⟨RX7, "spellNumber", "(I)V"⟩
abbrev cX7_spellReach : ByteArray := prog_9_method_115_code
def yX7_spellReach : MethodName := ⟨RX7, "spellReach", "(I)V"⟩
abbrev cX7_spellRight : ByteArray := prog_9_method_116_code
def yX7_spellRight : MethodName := ⟨RX7, "spellRight", "(I)V"⟩
abbrev cX7_spellStore : ByteArray := prog_9_method_117_code
def yX7_spellStore : MethodName := ⟨RX7, "spellStore", "(I)V"⟩
abbrev cX7_letter : ByteArray := prog_9_method_118_code
def yX7_letter : MethodName := ⟨RX7, "letter", "(I)I"⟩
abbrev cX7_isDryBy : ByteArray := prog_9_method_119_code
def yX7_isDryBy : MethodName := ⟨RX7, "isDryBy", "(I)Z"⟩
abbrev cX7_dry : ByteArray := prog_9_method_120_code
def yX7_dry : MethodName := ⟨RX7, "dry", "(I)I"⟩
abbrev cX7_full : ByteArray := prog_9_method_121_code
def yX7_full : MethodName := ⟨RX7, "full", "(II)I"⟩
abbrev cX7_swaps : ByteArray := prog_9_method_122_code
def yX7_swaps : MethodName := ⟨RX7, "swaps", "(II)V"⟩
abbrev cX7_swap : ByteArray := prog_9_method_123_code
def yX7_swap : MethodName := ⟨RX7, "swap", "(IIII)I"⟩
abbrev cX7_spell_ : ByteArray := prog_9_method_124_code
def yX7_spell_ : MethodName := ⟨RX7, "spell", "(III)I"⟩
abbrev cX7_sumOf : ByteArray := prog_9_method_125_code
def yX7_sumOf : MethodName := ⟨RX7, "sumOf", "([I)I"⟩
abbrev cX7_gain : ByteArray := prog_9_method_126_code
def yX7_gain : MethodName := ⟨RX7, "gain", "(III)I"⟩
abbrev cX7_laysShares : ByteArray := prog_9_method_127_code
def yX7_laysShares : MethodName := ⟨RX7, "laysShares", "(I)V"⟩
abbrev cX7_shareOf : ByteArray := prog_9_method_128_code
def yX7_shareOf : MethodName := ⟨RX7, "shareOf", "(JJ)I"⟩
abbrev cX7_share : ByteArray := prog_9_method_129_code
def yX7_share : MethodName := ⟨RX7, "share", "(II)I"⟩
abbrev cX7_worst : ByteArray := prog_9_method_130_code
def yX7_worst : MethodName := ⟨RX7, "worst", "(I)I"⟩
def RJ9 : String := "java/lang/Math"
def TJ9 : u_T := fun k => match k with
  | _ => ("", "", "", false)
def tyJ9 : Nat → FieldType := fun k => match k with
  | _ => .int
abbrev wsJ90 : List Cond := u_ws RJ9 TJ9 0
theorem nmJ9 : ∀ a, a < 0 → ∀ b, b < 0 → a ≠ b → (TJ9 a).2.1 ≠ (TJ9 b).2.1 := by decide +kernel
theorem tyJ9_ok : ∀ k, k < 0 → parseFieldDescriptor (TJ9 k).2.2.1 = some (tyJ9 k) := by decide +kernel
abbrev cJ9_max_7cf53 : ByteArray := prog_10_method_65_code
def yJ9_max_7cf53 : MethodName := ⟨RJ9, "max", "(II)I"⟩
abbrev cJ9_min_7cf53 : ByteArray := prog_10_method_69_code
def yJ9_min_7cf53 : MethodName := ⟨RJ9, "min", "(II)I"⟩
def RJ0 : String := "java/lang/String"
def TJ0 : u_T := fun k => match k with
  | _ => ("", "", "", false)
def tyJ0 : Nat → FieldType := fun k => match k with
  | _ => .int
abbrev wsJ00 : List Cond := u_ws RJ0 TJ0 0
theorem nmJ0 : ∀ a, a < 0 → ∀ b, b < 0 → a ≠ b → (TJ0 a).2.1 ≠ (TJ0 b).2.1 := by decide +kernel
theorem tyJ0_ok : ∀ k, k < 0 → parseFieldDescriptor (TJ0 k).2.2.1 = some (tyJ0 k) := by decide +kernel
abbrev cJ0_length_8abf5 : ByteArray := prog_11_method_54_code
def yJ0_length_8abf5 : MethodName := ⟨RJ0, "length", "()I"⟩
abbrev cJ0_charAt_5068e : ByteArray := prog_11_method_56_code
def yJ0_charAt_5068e : MethodName := ⟨RJ0, "charAt", "(I)C"⟩
abbrev cJ0_coder_7d493 : ByteArray := prog_11_method_152_code
def yJ0_coder_7d493 : MethodName := ⟨RJ0, "coder", "()B"⟩
abbrev cJ0_isLatin1_aae02 : ByteArray := prog_11_method_154_code
def yJ0_isLatin1_aae02 : MethodName := ⟨RJ0, "isLatin1", "()Z"⟩
abbrev cJ0_checkIndex_df160 : ByteArray := prog_11_method_155_code
def yJ0_checkIndex_df160 : MethodName := ⟨RJ0, "checkIndex", "(II)V"⟩
def RJ1 : String := "java/lang/StringLatin1"
def TJ1 : u_T := fun k => match k with
  | _ => ("", "", "", false)
def tyJ1 : Nat → FieldType := fun k => match k with
  | _ => .int
abbrev wsJ10 : List Cond := u_ws RJ1 TJ1 0
theorem nmJ1 : ∀ a, a < 0 → ∀ b, b < 0 → a ≠ b → (TJ1 a).2.1 ≠ (TJ1 b).2.1 := by decide +kernel
theorem tyJ1_ok : ∀ k, k < 0 → parseFieldDescriptor (TJ1 k).2.2.1 = some (tyJ1 k) := by decide +kernel
abbrev cJ1_charAt_3b067 : ByteArray := prog_12_method_2_code
def yJ1_charAt_3b067 : MethodName := ⟨RJ1, "charAt", "([BI)C"⟩
def RJ2 : String := "java/lang/StringUTF16"
def TJ2 : u_T := fun k => match k with
  | _ => ("", "", "", false)
def tyJ2 : Nat → FieldType := fun k => match k with
  | _ => .int
abbrev wsJ20 : List Cond := u_ws RJ2 TJ2 0
theorem nmJ2 : ∀ a, a < 0 → ∀ b, b < 0 → a ≠ b → (TJ2 a).2.1 ≠ (TJ2 b).2.1 := by decide +kernel
theorem tyJ2_ok : ∀ k, k < 0 → parseFieldDescriptor (TJ2 k).2.2.1 = some (tyJ2 k) := by decide +kernel
abbrev cJ2_getChar_3b067 : ByteArray := prog_13_method_5_code
def yJ2_getChar_3b067 : MethodName := ⟨RJ2, "getChar", "([BI)C"⟩
abbrev cJ2_length_9d52b : ByteArray := prog_13_method_6_code
def yJ2_length_9d52b : MethodName := ⟨RJ2, "length", "([B)I"⟩
abbrev cJ2_charAt_3b067 : ByteArray := prog_13_method_83_code
def yJ2_charAt_3b067 : MethodName := ⟨RJ2, "charAt", "([BI)C"⟩
abbrev cJ2_checkIndex_2214a : ByteArray := prog_13_method_91_code
def yJ2_checkIndex_2214a : MethodName := ⟨RJ2, "checkIndex", "(I[B)V"⟩
def RJ10 : String := "java/lang/System"
def TJ10 : u_T := fun k => match k with
  | _ => ("", "", "", false)
def tyJ10 : Nat → FieldType := fun k => match k with
  | _ => .int
abbrev wsJ100 : List Cond := u_ws RJ10 TJ10 0
theorem nmJ10 : ∀ a, a < 0 → ∀ b, b < 0 → a ≠ b → (TJ10 a).2.1 ≠ (TJ10 b).2.1 := by decide +kernel
theorem tyJ10_ok : ∀ k, k < 0 → parseFieldDescriptor (TJ10 k).2.2.1 = some (tyJ10 k) := by decide +kernel
def RJ3 : String := "jdk/internal/util/Preconditions"
def TJ3 : u_T := fun k => match k with
  | _ => ("", "", "", false)
def tyJ3 : Nat → FieldType := fun k => match k with
  | _ => .int
abbrev wsJ30 : List Cond := u_ws RJ3 TJ3 0
theorem nmJ3 : ∀ a, a < 0 → ∀ b, b < 0 → a ≠ b → (TJ3 a).2.1 ≠ (TJ3 b).2.1 := by decide +kernel
theorem tyJ3_ok : ∀ k, k < 0 → parseFieldDescriptor (TJ3 k).2.2.1 = some (tyJ3 k) := by decide +kernel
abbrev cJ3_checkIndex_8e157 : ByteArray := prog_15_method_11_code
def yJ3_checkIndex_8e157 : MethodName := ⟨RJ3, "checkIndex", "(IILjava/util/function/BiFunction;)I"⟩
def RL : String := "RiverCallLaw"
abbrev cL_law : ByteArray := code
def yL_law : MethodName := ⟨RL, "law", "([I)Z"⟩
def wsL_law_r1 : List Cond := [Cond.classLink RL 7 RX6, Cond.instantiable RX6 16, Cond.initialized RX6, Cond.classLink RL 10 RX7, Cond.instantiable RX7 42, Cond.initialized RX7, Cond.methodLink RL 9 yX6_init, Cond.instanceMethod yX6_init, Cond.code yX6_init cX6_init 2 none, Cond.methodLink RX6 3 objectInit, Cond.instanceMethod objectInit, Cond.code objectInit ⟨#[0xb1]⟩ 1 none, Cond.arrayClass .byte, Cond.fieldLink RX6 9 "RiverCall" "tape" "[B", Cond.classLink RX6 13 RX2, Cond.instantiable RX2 20, Cond.initialized RX2, Cond.fieldLink RX6 16 "RiverCall" "river" "LRiverCall$River;", Cond.fieldLink RX6 20 "RiverCall" "spare" "LRiverCall$River;", Cond.classLink RX6 23 RX5, Cond.instantiable RX5 13, Cond.initialized RX5, Cond.fieldLink RX6 26 "RiverCall" "state" "LRiverCall$State;", Cond.fieldLink RX6 30 "RiverCall" "past" "[LRiverCall$State;"]
def wsL_law_r2 : List Cond := [Cond.fieldLink RX6 34 "RiverCall" "shelfRivers" "[LRiverCall$River;", Cond.fieldLink RX6 38 "RiverCall" "shelfStates" "[LRiverCall$State;", Cond.arrayClass .int, Cond.fieldLink RX6 41 "RiverCall" "unchanged" "[I", Cond.classLink RX6 45 RX0, Cond.instantiable RX0 15, Cond.initialized RX0, Cond.fieldLink RX6 50 "RiverCall" "today" "LRiverCall$Day;", Cond.classLink RX6 54 RX1, Cond.instantiable RX1 11, Cond.initialized RX1, Cond.fieldLink RX6 57 "RiverCall" "outlook" "LRiverCall$Outlook;", Cond.classLink RX6 61 RX3, Cond.instantiable RX3 6, Cond.initialized RX3, Cond.fieldLink RX6 66 "RiverCall" "reader" "LRiverCall$RiverReader;", Cond.classLink RX6 70 RX4, Cond.instantiable RX4 5, Cond.initialized RX4, Cond.fieldLink RX6 73 "RiverCall" "writer" "LRiverCall$RiverWriter;", Cond.instanceMethod yX2_init, Cond.code yX2_init cX2_init 1 none, Cond.methodLink RX2 3 objectInit, Cond.fieldLink RX2 9 "RiverCall$River" "down" "[I"]
def wsL_law_r3 : List Cond := [Cond.fieldLink RX2 15 "RiverCall$River" "sink" "[I", Cond.fieldLink RX2 18 "RiverCall$River" "inflow" "[I", Cond.fieldLink RX2 21 "RiverCall$River" "rightAt" "[I", Cond.fieldLink RX2 24 "RiverCall$River" "rate" "[I", Cond.fieldLink RX2 27 "RiverCall$River" "from" "[I", Cond.fieldLink RX2 30 "RiverCall$River" "to" "[I", Cond.fieldLink RX2 33 "RiverCall$River" "rightAge" "[I", Cond.fieldLink RX2 36 "RiverCall$River" "volume" "[I", Cond.fieldLink RX2 39 "RiverCall$River" "backTo" "[I", Cond.fieldLink RX2 42 "RiverCall$River" "backShare" "[I", Cond.fieldLink RX2 45 "RiverCall$River" "backDelay" "[I", Cond.fieldLink RX2 48 "RiverCall$River" "storeAt" "[I", Cond.fieldLink RX2 51 "RiverCall$River" "size" "[I", Cond.fieldLink RX2 54 "RiverCall$River" "storeRate" "[I", Cond.fieldLink RX2 57 "RiverCall$River" "storeAge" "[I", Cond.fieldLink RX2 60 "RiverCall$River" "wet" "I", Cond.instanceMethod yX5_init, Cond.code yX5_init cX5_init 1 none, Cond.methodLink RX5 3 objectInit, Cond.fieldLink RX5 9 "RiverCall$State" "wet" "I", Cond.fieldLink RX5 15 "RiverCall$State" "at" "[I", Cond.fieldLink RX5 19 "RiverCall$State" "age" "[I", Cond.fieldLink RX5 22 "RiverCall$State" "demand" "[I", Cond.fieldLink RX5 25 "RiverCall$State" "left" "[I"]
def wsL_law_r4 : List Cond := [Cond.fieldLink RX5 28 "RiverCall$State" "barter" "[I", Cond.fieldLink RX5 31 "RiverCall$State" "took" "[I", Cond.fieldLink RX5 34 "RiverCall$State" "content" "[I", Cond.fieldLink RX5 37 "RiverCall$State" "orderRight" "[I", Cond.fieldLink RX5 40 "RiverCall$State" "orderAmount" "[I", Cond.fieldLink RX5 43 "RiverCall$State" "onWay" "[I", Cond.arrayClass .long, Cond.fieldLink RX5 46 "RiverCall$State" "sums" "[J", Cond.methodLink RX6 47 yX0_init, Cond.instanceMethod yX0_init, Cond.code yX0_init cX0_init 3 none, Cond.methodLink RX0 3 objectInit, Cond.fieldLink RX0 9 "RiverCall$Day" "queue" "[I", Cond.fieldLink RX0 15 "RiverCall$Day" "place" "[I", Cond.fieldLink RX0 18 "RiverCall$Day" "there" "[I", Cond.fieldLink RX0 21 "RiverCall$Day" "out" "[I", Cond.fieldLink RX0 24 "RiverCall$Day" "wants" "[I", Cond.fieldLink RX0 27 "RiverCall$Day" "byAge" "[I", Cond.fieldLink RX0 30 "RiverCall$Day" "byOrder" "[I", Cond.fieldLink RX0 33 "RiverCall$Day" "byBarter" "[I", Cond.fieldLink RX0 36 "RiverCall$Day" "letByOrder" "[I", Cond.fieldLink RX0 39 "RiverCall$Day" "letByBarter" "[I", Cond.fieldLink RX0 42 "RiverCall$Day" "moreAt" "I", Cond.fieldLink RX0 46 "RiverCall$Day" "river" "LRiverCall$River;"]
def wsL_law_r5 : List Cond := [Cond.fieldLink RX0 50 "RiverCall$Day" "state" "LRiverCall$State;", Cond.methodLink RX6 56 yX1_init, Cond.instanceMethod yX1_init, Cond.code yX1_init cX1_init 3 none, Cond.methodLink RX1 3 objectInit, Cond.classLink RX1 9 RX5, Cond.fieldLink RX1 12 "RiverCall$Outlook" "state" "LRiverCall$State;", Cond.fieldLink RX1 18 "RiverCall$Outlook" "wanted" "[I", Cond.fieldLink RX1 22 "RiverCall$Outlook" "river" "LRiverCall$River;", Cond.fieldLink RX1 26 "RiverCall$Outlook" "start" "LRiverCall$State;", Cond.classLink RX1 29 RX0, Cond.fieldLink RX1 34 "RiverCall$Outlook" "day" "LRiverCall$Day;", Cond.methodLink RX1 31 yX0_init, Cond.methodLink RX6 63 yX3_init, Cond.instanceMethod yX3_init, Cond.code yX3_init cX3_init 3 none, Cond.methodLink RX3 3 objectInit, Cond.fieldLink RX3 9 "RiverCall$RiverReader" "text" "[B", Cond.fieldLink RX3 15 "RiverCall$RiverReader" "river" "LRiverCall$River;", Cond.methodLink RX6 72 yX4_init, Cond.instanceMethod yX4_init, Cond.code yX4_init cX4_init 3 none, Cond.methodLink RX4 3 objectInit, Cond.fieldLink RX4 9 "RiverCall$RiverWriter" "river" "LRiverCall$River;"]
def wsL_law_r6 : List Cond := [Cond.fieldLink RX4 15 "RiverCall$RiverWriter" "state" "LRiverCall$State;", Cond.methodLink RL 12 yX7_init, Cond.instanceMethod yX7_init, Cond.code yX7_init cX7_init 1 none, Cond.methodLink RX7 1 objectInit, Cond.fieldLink RX7 7 "RiverCallModel" "now" "[I", Cond.fieldLink RX7 13 "RiverCallModel" "sums" "[J", Cond.fieldLink RX7 17 "RiverCallModel" "was" "[I", Cond.fieldLink RX7 20 "RiverCallModel" "sumsWas" "[J", Cond.fieldLink RX7 23 "RiverCallModel" "kept" "[I", Cond.fieldLink RX7 26 "RiverCallModel" "sumsKept" "[J", Cond.arrayClass .boolean, Cond.fieldLink RX7 29 "RiverCallModel" "isKept" "[Z", Cond.fieldLink RX7 33 "RiverCallModel" "aside" "[I", Cond.fieldLink RX7 36 "RiverCallModel" "sumsAside" "[J", Cond.fieldLink RX7 39 "RiverCallModel" "order" "[I", Cond.fieldLink RX7 42 "RiverCallModel" "takenAt" "[I", Cond.fieldLink RX7 45 "RiverCallModel" "letAt" "[I", Cond.fieldLink RX7 48 "RiverCallModel" "comes" "[I", Cond.fieldLink RX7 51 "RiverCallModel" "runsOut" "[I", Cond.fieldLink RX7 54 "RiverCallModel" "extraAt" "I", Cond.fieldLink RX7 58 "RiverCallModel" "first" "[I", Cond.fieldLink RX7 61 "RiverCallModel" "second" "[I", Cond.fieldLink RX7 64 "RiverCallModel" "third" "[I"]
def wsL_law_r7 : List Cond := [Cond.fieldLink RX7 67 "RiverCallModel" "letSecond" "[I", Cond.fieldLink RX7 70 "RiverCallModel" "letThird" "[I", Cond.fieldLink RX7 73 "RiverCallModel" "togetherNow" "[I", Cond.fieldLink RX7 76 "RiverCallModel" "together" "[I", Cond.fieldLink RX7 79 "RiverCallModel" "tape" "[B", Cond.fieldLink RX7 83 "RiverCallModel" "read" "[I", Cond.fieldLink RX7 86 "RiverCallModel" "wantsAll" "[J", Cond.fieldLink RX7 89 "RiverCallModel" "takesAll" "[J", Cond.methodLink RL 13 yX6_feed, Cond.instanceMethod yX6_feed, Cond.selects RX6 yX6_feed yX6_feed, Cond.code yX6_feed cX6_feed 6 (some .int), Cond.fieldLink RX6 77 "RiverCall" "taped" "I", Cond.methodLink RX6 81 yX6_putNumber, Cond.instanceMethod yX6_putNumber, Cond.selects RX6 yX6_putNumber yX6_putNumber, Cond.code yX6_putNumber cX6_putNumber 3 none, Cond.methodLink RL 17 yX7_feed, Cond.instanceMethod yX7_feed, Cond.selects RX7 yX7_feed yX7_feed, Cond.code yX7_feed cX7_feed 6 (some .int), Cond.fieldLink RX7 292 "RiverCallModel" "taped" "I", Cond.methodLink RX7 315 yX7_puts, Cond.instanceMethod yX7_puts]
def wsL_law_r8 : List Cond := [Cond.selects RX7 yX7_puts yX7_puts, Cond.code yX7_puts cX7_puts 3 none, Cond.methodLink RL 18 yX6_end, Cond.instanceMethod yX6_end, Cond.selects RX6 yX6_end yX6_end, Cond.code yX6_end cX6_end 2 (some .int), Cond.methodLink RL 22 yX7_end, Cond.instanceMethod yX7_end, Cond.selects RX7 yX7_end yX7_end, Cond.code yX7_end cX7_end 2 (some .int), Cond.methodLink RX7 96 yX7_in, Cond.static yX7_in, Cond.code yX7_in cX7_in 6 (some .boolean), Cond.methodLink RL 23 yX6_tell, Cond.instanceMethod yX6_tell, Cond.selects RX6 yX6_tell yX6_tell, Cond.code yX6_tell cX6_tell 3 (some .int), Cond.fieldLink RX6 93 "RiverCall" "acts" "I", Cond.fieldLink RX6 96 "RiverCall$River" "rights" "I", Cond.methodLink RX6 85 yX3_readRiver, Cond.instanceMethod yX3_readRiver, Cond.selects RX3 yX3_readRiver yX3_readRiver, Cond.code yX3_readRiver cX3_readRiver 5 (some .int), Cond.methodLink RX3 24 Lib.Math.min.name]
def wsL_law_r9 : List Cond := [Cond.static Lib.Math.min.name, Cond.initialized "java/lang/Math", Cond.code Lib.Math.min.name Lib.Math.min.code 2 (some .int), Cond.fieldLink RX3 30 "RiverCall$RiverReader" "length" "I", Cond.fieldLink RX3 34 "RiverCall$RiverReader" "place" "I", Cond.fieldLink RX3 37 "RiverCall$RiverReader" "fault" "I", Cond.fieldLink RX3 40 "RiverCall$RiverReader" "wetTold" "Z", Cond.methodLink RX3 19 yX2_clear, Cond.instanceMethod yX2_clear, Cond.selects RX2 yX2_clear yX2_clear, Cond.code yX2_clear cX2_clear 1 none, Cond.fieldLink RX2 64 "RiverCall$River" "reaches" "I", Cond.fieldLink RX2 67 "RiverCall$River" "rights" "I", Cond.fieldLink RX2 70 "RiverCall$River" "stores" "I", Cond.methodLink RX3 44 yX3_skipBlanks, Cond.instanceMethod yX3_skipBlanks, Cond.selects RX3 yX3_skipBlanks yX3_skipBlanks, Cond.code yX3_skipBlanks cX3_skipBlanks 1 none, Cond.methodLink RX3 47 yX3_readPart, Cond.instanceMethod yX3_readPart, Cond.selects RX3 yX3_readPart yX3_readPart, Cond.code yX3_readPart cX3_readPart 2 none, Cond.methodLink RX3 60 yX3_isNext, Cond.instanceMethod yX3_isNext]
def wsL_law_r10 : List Cond := [Cond.selects RX3 yX3_isNext yX3_isNext, Cond.code yX3_isNext cX3_isNext 4 (some .boolean), Cond.methodLink RX3 168 yJ0_length_8abf5, Cond.instanceMethod yJ0_length_8abf5, Cond.selects RJ0 yJ0_length_8abf5 yJ0_length_8abf5, Cond.initialized RJ0, Cond.code yJ0_length_8abf5 cJ0_length_8abf5 1 (some .int), Cond.fieldLink RJ0 9 "java/lang/String" "value" "[B", Cond.methodLink RJ0 335 yJ0_coder_7d493, Cond.instanceMethod yJ0_coder_7d493, Cond.selects RJ0 yJ0_coder_7d493 yJ0_coder_7d493, Cond.code yJ0_coder_7d493 cJ0_coder_7d493 1 (some .byte), Cond.fieldLink RJ0 38 "java/lang/String" "COMPACT_STRINGS" "Z", Cond.fieldLink RJ0 15 "java/lang/String" "coder" "B", Cond.methodLink RX3 172 yJ0_charAt_5068e, Cond.instanceMethod yJ0_charAt_5068e, Cond.selects RJ0 yJ0_charAt_5068e yJ0_charAt_5068e, Cond.code yJ0_charAt_5068e cJ0_charAt_5068e 2 (some .char), Cond.methodLink RJ0 492 yJ0_isLatin1_aae02, Cond.instanceMethod yJ0_isLatin1_aae02, Cond.selects RJ0 yJ0_isLatin1_aae02 yJ0_isLatin1_aae02, Cond.code yJ0_isLatin1_aae02 cJ0_isLatin1_aae02 1 (some .boolean), Cond.methodLink RJ0 495 yJ1_charAt_3b067, Cond.static yJ1_charAt_3b067]
def wsL_law_r11 : List Cond := [Cond.initialized RJ1, Cond.code yJ1_charAt_3b067 cJ1_charAt_3b067 2 (some .char), Cond.methodLink RJ1 9 yJ0_checkIndex_df160, Cond.static yJ0_checkIndex_df160, Cond.code yJ0_checkIndex_df160 cJ0_checkIndex_df160 2 none, Cond.fieldLink RJ0 1053 "jdk/internal/util/Preconditions" "SIOOBE_FORMATTER" "Ljava/util/function/BiFunction;", Cond.methodLink RJ0 1059 yJ3_checkIndex_8e157, Cond.static yJ3_checkIndex_8e157, Cond.initialized RJ3, Cond.code yJ3_checkIndex_8e157 cJ3_checkIndex_8e157 3 (some .int), Cond.methodLink RJ0 498 yJ2_charAt_3b067, Cond.static yJ2_charAt_3b067, Cond.initialized RJ2, Cond.code yJ2_charAt_3b067 cJ2_charAt_3b067 2 (some .char), Cond.methodLink RJ2 67 yJ2_checkIndex_2214a, Cond.static yJ2_checkIndex_2214a, Cond.code yJ2_checkIndex_2214a cJ2_checkIndex_2214a 2 none, Cond.methodLink RJ2 48 yJ2_length_9d52b, Cond.static yJ2_length_9d52b, Cond.code yJ2_length_9d52b cJ2_length_9d52b 1 (some .int), Cond.methodLink RJ2 414 yJ0_checkIndex_df160, Cond.methodLink RJ2 71 yJ2_getChar_3b067, Cond.static yJ2_getChar_3b067, Cond.code yJ2_getChar_3b067 cJ2_getChar_3b067 2 (some .char)]
def wsL_law_r12 : List Cond := [Cond.fieldLink RJ2 44 "java/lang/StringUTF16" "$assertionsDisabled" "Z", Cond.fieldLink RJ2 59 "java/lang/StringUTF16" "HI_BYTE_SHIFT" "I", Cond.fieldLink RJ2 63 "java/lang/StringUTF16" "LO_BYTE_SHIFT" "I", Cond.methodLink RX3 64 yX3_readReach, Cond.instanceMethod yX3_readReach, Cond.selects RX3 yX3_readReach yX3_readReach, Cond.code yX3_readReach cX3_readReach 4 none, Cond.fieldLink RX3 83 "RiverCall$River" "reaches" "I", Cond.fieldLink RX3 86 "RiverCall$River" "down" "[I", Cond.fieldLink RX3 96 "RiverCall$River" "inflow" "[I", Cond.fieldLink RX3 102 "RiverCall$River" "sink" "[I", Cond.methodLink RX3 54 yX3_blame, Cond.instanceMethod yX3_blame, Cond.selects RX3 yX3_blame yX3_blame, Cond.code yX3_blame cX3_blame 3 none, Cond.methodLink RX3 92 yX3_readReachNumber, Cond.instanceMethod yX3_readReachNumber, Cond.selects RX3 yX3_readReachNumber yX3_readReachNumber, Cond.code yX3_readReachNumber cX3_readReachNumber 1 (some .int), Cond.methodLink RX3 99 yX3_readNumber, Cond.instanceMethod yX3_readNumber, Cond.selects RX3 yX3_readNumber yX3_readNumber, Cond.code yX3_readNumber cX3_readNumber 5 (some .int), Cond.constant RX3 167 (1000000)]
def wsL_law_r13 : List Cond := [Cond.methodLink RX3 70 yX3_readRight, Cond.instanceMethod yX3_readRight, Cond.selects RX3 yX3_readRight yX3_readRight, Cond.code yX3_readRight cX3_readRight 4 none, Cond.fieldLink RX3 106 "RiverCall$River" "rights" "I", Cond.fieldLink RX3 109 "RiverCall$River" "rightAt" "[I", Cond.fieldLink RX3 112 "RiverCall$River" "rate" "[I", Cond.fieldLink RX3 115 "RiverCall$River" "from" "[I", Cond.fieldLink RX3 118 "RiverCall$River" "to" "[I", Cond.fieldLink RX3 121 "RiverCall$River" "rightAge" "[I", Cond.fieldLink RX3 127 "RiverCall$River" "volume" "[I", Cond.constant RX3 132 (999999), Cond.fieldLink RX3 135 "RiverCall$River" "backTo" "[I", Cond.fieldLink RX3 138 "RiverCall$River" "backShare" "[I", Cond.fieldLink RX3 141 "RiverCall$River" "backDelay" "[I", Cond.methodLink RX3 124 yX3_readAge, Cond.instanceMethod yX3_readAge, Cond.selects RX3 yX3_readAge yX3_readAge, Cond.code yX3_readAge cX3_readAge 3 (some .int), Cond.methodLink RX3 163 yX2_hasAge, Cond.instanceMethod yX2_hasAge, Cond.selects RX2 yX2_hasAge yX2_hasAge, Cond.code yX2_hasAge cX2_hasAge 3 (some .boolean), Cond.methodLink RX3 75 yX3_readStore]
def wsL_law_r14 : List Cond := [Cond.instanceMethod yX3_readStore, Cond.selects RX3 yX3_readStore yX3_readStore, Cond.code yX3_readStore cX3_readStore 3 none, Cond.fieldLink RX3 144 "RiverCall$River" "stores" "I", Cond.fieldLink RX3 147 "RiverCall$River" "storeAt" "[I", Cond.fieldLink RX3 150 "RiverCall$River" "size" "[I", Cond.fieldLink RX3 153 "RiverCall$River" "storeRate" "[I", Cond.fieldLink RX3 156 "RiverCall$River" "storeAge" "[I", Cond.methodLink RX3 80 yX3_readWet, Cond.instanceMethod yX3_readWet, Cond.selects RX3 yX3_readWet yX3_readWet, Cond.code yX3_readWet cX3_readWet 2 none, Cond.fieldLink RX3 159 "RiverCall$River" "wet" "I", Cond.methodLink RX3 50 yX3_readBetween, Cond.instanceMethod yX3_readBetween, Cond.selects RX3 yX3_readBetween yX3_readBetween, Cond.code yX3_readBetween cX3_readBetween 1 (some .boolean), Cond.methodLink RX6 89 yX5_startAs, Cond.instanceMethod yX5_startAs, Cond.selects RX5 yX5_startAs yX5_startAs, Cond.code yX5_startAs cX5_startAs 3 none, Cond.fieldLink RX5 50 "RiverCall$State" "day" "I", Cond.fieldLink RX5 53 "RiverCall$River" "wet" "I", Cond.fieldLink RX5 56 "RiverCall$River" "rightAt" "[I"]
def wsL_law_r15 : List Cond := [Cond.fieldLink RX5 63 "RiverCall$River" "rightAge" "[I", Cond.fieldLink RX5 66 "RiverCall$River" "rate" "[I", Cond.fieldLink RX5 69 "RiverCall$River" "volume" "[I", Cond.static yX6_copyRow, Cond.code yX6_copyRow cX6_copyRow 2 none, Cond.methodLink RX6 172 Lib.Math.min.name, Cond.methodLink RX6 410 arraycopyName, Cond.native arraycopyName, Cond.static arraycopyName, Cond.initialized "java/lang/System", Cond.methodLink RL 27 yX7_tell, Cond.instanceMethod yX7_tell, Cond.selects RX7 yX7_tell yX7_tell, Cond.code yX7_tell cX7_tell 3 (some .int), Cond.fieldLink RX7 324 "RiverCallModel" "wrong" "I", Cond.fieldLink RX7 289 "RiverCallModel" "undone" "I", Cond.methodLink RX7 423 yX7_readsAll, Cond.instanceMethod yX7_readsAll, Cond.selects RX7 yX7_readsAll yX7_readsAll, Cond.code yX7_readsAll cX7_readsAll 2 (some .boolean), Cond.fieldLink RX7 403 "RiverCallModel" "isWet" "Z", Cond.fieldLink RX7 318 "RiverCallModel" "spot" "I", Cond.methodLink RX7 327 yX7_nextByte, Cond.instanceMethod yX7_nextByte]
def wsL_law_r16 : List Cond := [Cond.selects RX7 yX7_nextByte yX7_nextByte, Cond.code yX7_nextByte cX7_nextByte 1 (some .int), Cond.methodLink RX7 321 yX7_byteAt, Cond.instanceMethod yX7_byteAt, Cond.selects RX7 yX7_byteAt yX7_byteAt, Cond.code yX7_byteAt cX7_byteAt 2 (some .int), Cond.methodLink RX7 420 yX7_readsPart, Cond.instanceMethod yX7_readsPart, Cond.selects RX7 yX7_readsPart yX7_readsPart, Cond.code yX7_readsPart cX7_readsPart 1 (some .boolean), Cond.methodLink RX7 343 yX7_isWord, Cond.instanceMethod yX7_isWord, Cond.selects RX7 yX7_isWord yX7_isWord, Cond.code yX7_isWord cX7_isWord 4 (some .boolean), Cond.constantLong RX7 339 (97), Cond.constantLong RX7 341 (122), Cond.methodLink RX7 330 yJ0_length_8abf5, Cond.methodLink RX7 335 yJ0_charAt_5068e, Cond.methodLink RX7 406 yX7_readsReach, Cond.instanceMethod yX7_readsReach, Cond.selects RX7 yX7_readsReach yX7_readsReach, Cond.code yX7_readsReach cX7_readsReach 3 (some .boolean), Cond.methodLink RX7 372 yX7_begins, Cond.instanceMethod yX7_begins]
def wsL_law_r17 : List Cond := [Cond.selects RX7 yX7_begins yX7_begins, Cond.code yX7_begins cX7_begins 4 (some .boolean), Cond.methodLink RX7 350 yX7_fails, Cond.instanceMethod yX7_fails, Cond.selects RX7 yX7_fails yX7_fails, Cond.code yX7_fails cX7_fails 3 (some .boolean), Cond.methodLink RX7 347 yX7_takesWord, Cond.instanceMethod yX7_takesWord, Cond.selects RX7 yX7_takesWord yX7_takesWord, Cond.code yX7_takesWord cX7_takesWord 3 (some .boolean), Cond.methodLink RX7 378 yX7_readsReachOf, Cond.instanceMethod yX7_readsReachOf, Cond.selects RX7 yX7_readsReachOf yX7_readsReachOf, Cond.code yX7_readsReachOf cX7_readsReachOf 2 (some .boolean), Cond.methodLink RX7 367 yX7_readsTo, Cond.instanceMethod yX7_readsTo, Cond.selects RX7 yX7_readsTo yX7_readsTo, Cond.code yX7_readsTo cX7_readsTo 4 (some .boolean), Cond.fieldLink RX7 360 "RiverCallModel" "number" "I", Cond.methodLink RX7 364 yX7_readsNumber, Cond.instanceMethod yX7_readsNumber, Cond.selects RX7 yX7_readsNumber yX7_readsNumber, Cond.code yX7_readsNumber cX7_readsNumber 3 (some .boolean), Cond.constantLong RX7 353 (48)]
def wsL_law_r18 : List Cond := [Cond.constantLong RX7 355 (57), Cond.fieldLink RX7 357 "RiverCallModel" "numberAt" "I", Cond.constant RX7 363 (10000000), Cond.methodLink RX7 409 yX7_readsRight, Cond.instanceMethod yX7_readsRight, Cond.selects RX7 yX7_readsRight yX7_readsRight, Cond.code yX7_readsRight cX7_readsRight 2 (some .boolean), Cond.constant RX7 397 (999999), Cond.methodLink RX7 392 yX7_readsAge, Cond.instanceMethod yX7_readsAge, Cond.selects RX7 yX7_readsAge yX7_readsAge, Cond.code yX7_readsAge cX7_readsAge 3 (some .boolean), Cond.methodLink RX7 385 yX7_mustWord, Cond.instanceMethod yX7_mustWord, Cond.selects RX7 yX7_mustWord yX7_mustWord, Cond.code yX7_mustWord cX7_mustWord 2 (some .boolean), Cond.methodLink RX7 398 yX7_readsBack, Cond.instanceMethod yX7_readsBack, Cond.selects RX7 yX7_readsBack yX7_readsBack, Cond.code yX7_readsBack cX7_readsBack 2 (some .boolean), Cond.methodLink RX7 412 yX7_readsStore, Cond.instanceMethod yX7_readsStore, Cond.selects RX7 yX7_readsStore yX7_readsStore, Cond.code yX7_readsStore cX7_readsStore 2 (some .boolean)]
def wsL_law_r19 : List Cond := [Cond.methodLink RX7 417 yX7_readsWet, Cond.instanceMethod yX7_readsWet, Cond.selects RX7 yX7_readsWet yX7_readsWet, Cond.code yX7_readsWet cX7_readsWet 1 (some .boolean), Cond.methodLink RX7 100 yX7_rights, Cond.instanceMethod yX7_rights, Cond.selects RX7 yX7_rights yX7_rights, Cond.code yX7_rights cX7_rights 1 (some .int), Cond.methodLink RL 28 yX6_days, Cond.instanceMethod yX6_days, Cond.selects RX6 yX6_days yX6_days, Cond.code yX6_days cX6_days 3 (some .int), Cond.fieldLink RX6 111 "RiverCall$State" "day" "I", Cond.methodLink RX6 99 yX6_remember, Cond.instanceMethod yX6_remember, Cond.selects RX6 yX6_remember yX6_remember, Cond.code yX6_remember cX6_remember 1 none, Cond.fieldLink RX6 165 "RiverCall" "nextPast" "I", Cond.methodLink RX6 168 yX5_copyOf, Cond.instanceMethod yX5_copyOf, Cond.selects RX5 yX5_copyOf yX5_copyOf, Cond.code yX5_copyOf cX5_copyOf 2 none, Cond.methodLink RX5 72 arraycopyName, Cond.methodLink RX6 102 yX0_open]
def wsL_law_r20 : List Cond := [Cond.instanceMethod yX0_open, Cond.selects RX0 yX0_open yX0_open, Cond.code yX0_open cX0_open 4 none, Cond.fieldLink RX0 54 "RiverCall$Day" "queued" "I", Cond.fieldLink RX0 57 "RiverCall$River" "rights" "I", Cond.fieldLink RX0 62 "RiverCall$State" "at" "[I", Cond.fieldLink RX0 71 "RiverCall$River" "stores" "I", Cond.fieldLink RX0 74 "RiverCall$River" "storeAt" "[I", Cond.methodLink RX0 67 yX0_enqueue, Cond.instanceMethod yX0_enqueue, Cond.selects RX0 yX0_enqueue yX0_enqueue, Cond.code yX0_enqueue cX0_enqueue 3 none, Cond.methodLink RX0 77 yX0_ageOf, Cond.instanceMethod yX0_ageOf, Cond.selects RX0 yX0_ageOf yX0_ageOf, Cond.code yX0_ageOf cX0_ageOf 2 (some .int), Cond.fieldLink RX0 81 "RiverCall$State" "age" "[I", Cond.fieldLink RX0 84 "RiverCall$River" "storeAge" "[I", Cond.methodLink RX6 105 yX0_work, Cond.instanceMethod yX0_work, Cond.selects RX0 yX0_work yX0_work, Cond.code yX0_work cX0_work 1 none, Cond.methodLink RX0 87 yX0_bringWater, Cond.instanceMethod yX0_bringWater]
def wsL_law_r21 : List Cond := [Cond.selects RX0 yX0_bringWater yX0_bringWater, Cond.code yX0_bringWater cX0_bringWater 3 none, Cond.fieldLink RX0 102 "RiverCall$River" "storeRate" "[I", Cond.fieldLink RX0 105 "RiverCall$River" "size" "[I", Cond.fieldLink RX0 108 "RiverCall$State" "content" "[I", Cond.methodLink RX0 111 Lib.Math.min.name, Cond.fieldLink RX0 117 "RiverCall$River" "reaches" "I", Cond.fieldLink RX0 126 "RiverCall$Day" "more" "I", Cond.fieldLink RX0 129 "RiverCall$River" "sink" "[I", Cond.methodLink RX0 132 Lib.Math.max.name, Cond.static Lib.Math.max.name, Cond.code Lib.Math.max.name Lib.Math.max.code 2 (some .int), Cond.fieldLink RX0 135 "RiverCall$River" "down" "[I", Cond.methodLink RX0 99 yX0_wantOfRight, Cond.instanceMethod yX0_wantOfRight, Cond.selects RX0 yX0_wantOfRight yX0_wantOfRight, Cond.code yX0_wantOfRight cX0_wantOfRight 3 (some .int), Cond.fieldLink RX0 138 "RiverCall$State" "day" "I", Cond.fieldLink RX0 141 "RiverCall$River" "from" "[I", Cond.fieldLink RX0 144 "RiverCall$River" "to" "[I", Cond.fieldLink RX0 147 "RiverCall$State" "demand" "[I", Cond.fieldLink RX0 150 "RiverCall$River" "volume" "[I", Cond.fieldLink RX0 153 "RiverCall$State" "left" "[I", Cond.methodLink RX0 120 yX0_inflowOf]
def wsL_law_r22 : List Cond := [Cond.instanceMethod yX0_inflowOf, Cond.selects RX0 yX0_inflowOf yX0_inflowOf, Cond.code yX0_inflowOf cX0_inflowOf 3 (some .int), Cond.fieldLink RX0 156 "RiverCall$River" "inflow" "[I", Cond.fieldLink RX0 159 "RiverCall$State" "wet" "I", Cond.methodLink RX0 123 yX0_backOf, Cond.instanceMethod yX0_backOf, Cond.selects RX0 yX0_backOf yX0_backOf, Cond.code yX0_backOf cX0_backOf 2 (some .int), Cond.fieldLink RX0 162 "RiverCall$State" "onWay" "[I", Cond.methodLink RX0 165 yX5_wayRow, Cond.instanceMethod yX5_wayRow, Cond.selects RX5 yX5_wayRow yX5_wayRow, Cond.code yX5_wayRow cX5_wayRow 2 (some .int), Cond.methodLink RX0 90 yX0_takeByAge, Cond.instanceMethod yX0_takeByAge, Cond.selects RX0 yX0_takeByAge yX0_takeByAge, Cond.code yX0_takeByAge cX0_takeByAge 4 none, Cond.methodLink RX0 168 yX0_takeMost, Cond.instanceMethod yX0_takeMost, Cond.selects RX0 yX0_takeMost yX0_takeMost, Cond.code yX0_takeMost cX0_takeMost 8 (some .int), Cond.methodLink RX0 182 yX0_change, Cond.instanceMethod yX0_change]
def wsL_law_r23 : List Cond := [Cond.selects RX0 yX0_change yX0_change, Cond.code yX0_change cX0_change 8 none, Cond.methodLink RX0 93 yX0_takeByOrders, Cond.instanceMethod yX0_takeByOrders, Cond.selects RX0 yX0_takeByOrders yX0_takeByOrders, Cond.code yX0_takeByOrders cX0_takeByOrders 4 none, Cond.fieldLink RX0 172 "RiverCall$State" "orderRight" "[I", Cond.fieldLink RX0 179 "RiverCall$State" "orderAmount" "[I", Cond.methodLink RX0 175 yX2_runsTo, Cond.instanceMethod yX2_runsTo, Cond.selects RX2 yX2_runsTo yX2_runsTo, Cond.code yX2_runsTo cX2_runsTo 5 (some .boolean), Cond.methodLink RX0 186 yX0_missing, Cond.instanceMethod yX0_missing, Cond.selects RX0 yX0_missing yX0_missing, Cond.code yX0_missing cX0_missing 2 (some .int), Cond.methodLink RX0 192 yX0_takenBy, Cond.instanceMethod yX0_takenBy, Cond.selects RX0 yX0_takenBy yX0_takenBy, Cond.code yX0_takenBy cX0_takenBy 2 (some .int), Cond.methodLink RX0 96 yX0_takeByBarters, Cond.instanceMethod yX0_takeByBarters, Cond.selects RX0 yX0_takeByBarters yX0_takeByBarters, Cond.code yX0_takeByBarters cX0_takeByBarters 6 none]
def wsL_law_r24 : List Cond := [Cond.fieldLink RX0 189 "RiverCall$State" "barter" "[I", Cond.methodLink RX6 108 yX0_pass, Cond.instanceMethod yX0_pass, Cond.selects RX0 yX0_pass yX0_pass, Cond.code yX0_pass cX0_pass 2 none, Cond.fieldLink RX0 211 "RiverCall$State" "sums" "[J", Cond.methodLink RX0 202 yX0_passReaches, Cond.instanceMethod yX0_passReaches, Cond.selects RX0 yX0_passReaches yX0_passReaches, Cond.code yX0_passReaches cX0_passReaches 3 none, Cond.methodLink RX0 205 yX0_passRight, Cond.instanceMethod yX0_passRight, Cond.selects RX0 yX0_passRight yX0_passRight, Cond.code yX0_passRight cX0_passRight 5 none, Cond.fieldLink RX0 219 "RiverCall$State" "took" "[I", Cond.fieldLink RX0 222 "RiverCall$River" "backTo" "[I", Cond.fieldLink RX0 225 "RiverCall$River" "backDelay" "[I", Cond.fieldLink RX0 228 "RiverCall$River" "backShare" "[I", Cond.methodLink RX0 208 yX0_contentBehind, Cond.instanceMethod yX0_contentBehind, Cond.selects RX0 yX0_contentBehind yX0_contentBehind, Cond.code yX0_contentBehind cX0_contentBehind 2 (some .int), Cond.methodLink RX0 199 yX0_filledInto, Cond.instanceMethod yX0_filledInto]
def wsL_law_r25 : List Cond := [Cond.selects RX0 yX0_filledInto yX0_filledInto, Cond.code yX0_filledInto cX0_filledInto 2 (some .int), Cond.methodLink RL 31 yX7_days, Cond.instanceMethod yX7_days, Cond.selects RX7 yX7_days yX7_days, Cond.code yX7_days cX7_days 3 (some .int), Cond.constantLong RX7 301 (60), Cond.methodLink RX7 303 yX7_keepsAct, Cond.instanceMethod yX7_keepsAct, Cond.selects RX7 yX7_keepsAct yX7_keepsAct, Cond.code yX7_keepsAct cX7_keepsAct 2 none, Cond.methodLink RX7 214 yX7_passes, Cond.instanceMethod yX7_passes, Cond.selects RX7 yX7_passes yX7_passes, Cond.code yX7_passes cX7_passes 2 none, Cond.methodLink RX7 202 yX7_works, Cond.instanceMethod yX7_works, Cond.selects RX7 yX7_works yX7_works, Cond.code yX7_works cX7_works 2 none, Cond.methodLink RX7 173 yX7_takesFirst, Cond.instanceMethod yX7_takesFirst, Cond.selects RX7 yX7_takesFirst yX7_takesFirst, Cond.code yX7_takesFirst cX7_takesFirst 4 none, Cond.fieldLink RX7 122 "RiverCallModel" "takers" "I"]
def wsL_law_r26 : List Cond := [Cond.methodLink RX7 150 yX7_clears, Cond.instanceMethod yX7_clears, Cond.selects RX7 yX7_clears yX7_clears, Cond.code yX7_clears cX7_clears 2 none, Cond.methodLink RX7 153 yX7_laysOrder, Cond.instanceMethod yX7_laysOrder, Cond.selects RX7 yX7_laysOrder yX7_laysOrder, Cond.code yX7_laysOrder cX7_laysOrder 3 none, Cond.methodLink RX7 125 yX7_isTaker, Cond.instanceMethod yX7_isTaker, Cond.selects RX7 yX7_isTaker yX7_isTaker, Cond.code yX7_isTaker cX7_isTaker 2 (some .boolean), Cond.methodLink RX7 103 yX7_stores, Cond.instanceMethod yX7_stores, Cond.selects RX7 yX7_stores yX7_stores, Cond.code yX7_stores cX7_stores 1 (some .int), Cond.methodLink RX7 129 yX7_ageOf, Cond.instanceMethod yX7_ageOf, Cond.selects RX7 yX7_ageOf yX7_ageOf, Cond.code yX7_ageOf cX7_ageOf 2 (some .int), Cond.methodLink RX7 113 yX7_of, Cond.instanceMethod yX7_of, Cond.selects RX7 yX7_of yX7_of, Cond.code yX7_of cX7_of 3 (some .int)]
def wsL_law_r27 : List Cond := [Cond.methodLink RX7 116 yX7_ofStore, Cond.instanceMethod yX7_ofStore, Cond.selects RX7 yX7_ofStore yX7_ofStore, Cond.code yX7_ofStore cX7_ofStore 3 (some .int), Cond.methodLink RX7 156 yX7_has, Cond.static yX7_has, Cond.code yX7_has cX7_has 2 (some .boolean), Cond.methodLink RX7 160 yX7_atOf, Cond.instanceMethod yX7_atOf, Cond.selects RX7 yX7_atOf yX7_atOf, Cond.code yX7_atOf cX7_atOf 2 (some .int), Cond.methodLink RX7 163 yX7_wantsOf, Cond.instanceMethod yX7_wantsOf, Cond.selects RX7 yX7_wantsOf yX7_wantsOf, Cond.code yX7_wantsOf cX7_wantsOf 2 (some .int), Cond.methodLink RX7 119 yX7_least, Cond.static yX7_least, Cond.code yX7_least cX7_least 2 (some .int), Cond.methodLink RX7 166 yX7_mostMore, Cond.instanceMethod yX7_mostMore, Cond.selects RX7 yX7_mostMore yX7_mostMore, Cond.code yX7_mostMore cX7_mostMore 7 (some .int), Cond.methodLink RX7 146 yX7_canMore, Cond.instanceMethod yX7_canMore]
def wsL_law_r28 : List Cond := [Cond.selects RX7 yX7_canMore yX7_canMore, Cond.code yX7_canMore cX7_canMore 5 (some .boolean), Cond.methodLink RX7 142 yX7_canBe, Cond.instanceMethod yX7_canBe, Cond.selects RX7 yX7_canBe yX7_canBe, Cond.code yX7_canBe cX7_canBe 4 (some .boolean), Cond.fieldLink RX7 139 "RiverCallModel" "extra" "I", Cond.methodLink RX7 92 yX7_reaches, Cond.instanceMethod yX7_reaches, Cond.selects RX7 yX7_reaches yX7_reaches, Cond.code yX7_reaches cX7_reaches 1 (some .int), Cond.methodLink RX7 133 yX7_inflowOf, Cond.instanceMethod yX7_inflowOf, Cond.selects RX7 yX7_inflowOf yX7_inflowOf, Cond.code yX7_inflowOf cX7_inflowOf 2 (some .int), Cond.methodLink RX7 106 yX7_ofReach, Cond.instanceMethod yX7_ofReach, Cond.selects RX7 yX7_ofReach yX7_ofReach, Cond.code yX7_ofReach cX7_ofReach 3 (some .int), Cond.methodLink RX7 110 yX7_whole, Cond.static yX7_whole, Cond.code yX7_whole cX7_whole 2 (some .int), Cond.methodLink RX7 136 yX7_backIn, Cond.instanceMethod yX7_backIn]
def wsL_law_r29 : List Cond := [Cond.selects RX7 yX7_backIn yX7_backIn, Cond.code yX7_backIn cX7_backIn 3 (some .int), Cond.methodLink RX7 177 yX7_lets, Cond.instanceMethod yX7_lets, Cond.selects RX7 yX7_lets yX7_lets, Cond.code yX7_lets cX7_lets 4 none, Cond.methodLink RX7 170 yX7_runsTo, Cond.instanceMethod yX7_runsTo, Cond.selects RX7 yX7_runsTo yX7_runsTo, Cond.code yX7_runsTo cX7_runsTo 4 (some .boolean), Cond.methodLink RX7 180 yX7_barters, Cond.instanceMethod yX7_barters, Cond.selects RX7 yX7_barters yX7_barters, Cond.code yX7_barters cX7_barters 5 none, Cond.methodLink RX7 205 yX7_addsUp, Cond.instanceMethod yX7_addsUp, Cond.selects RX7 yX7_addsUp yX7_addsUp, Cond.code yX7_addsUp cX7_addsUp 2 none, Cond.fieldLink RX7 186 "RiverCallModel" "dayOut" "I", Cond.fieldLink RX7 189 "RiverCallModel" "daySunk" "I", Cond.fieldLink RX7 192 "RiverCallModel" "dayTaken" "I", Cond.fieldLink RX7 195 "RiverCallModel" "dayCalls" "Z", Cond.methodLink RX7 183 yX7_allOf, Cond.instanceMethod yX7_allOf]
def wsL_law_r30 : List Cond := [Cond.selects RX7 yX7_allOf yX7_allOf, Cond.code yX7_allOf cX7_allOf 2 (some .int), Cond.methodLink RX7 199 yX7_isShort, Cond.instanceMethod yX7_isShort, Cond.selects RX7 yX7_isShort yX7_isShort, Cond.code yX7_isShort cX7_isShort 2 (some .boolean), Cond.methodLink RX7 208 yX7_takesIt, Cond.instanceMethod yX7_takesIt, Cond.selects RX7 yX7_takesIt yX7_takesIt, Cond.code yX7_takesIt cX7_takesIt 4 none, Cond.methodLink RX7 211 yX7_newYear, Cond.instanceMethod yX7_newYear, Cond.selects RX7 yX7_newYear yX7_newYear, Cond.code yX7_newYear cX7_newYear 2 none, Cond.methodLink RL 32 yX6_wet, Cond.instanceMethod yX6_wet, Cond.selects RX6 yX6_wet yX6_wet, Cond.code yX6_wet cX6_wet 3 (some .int), Cond.fieldLink RX6 114 "RiverCall$State" "wet" "I", Cond.methodLink RL 35 yX7_wet, Cond.instanceMethod yX7_wet, Cond.selects RX7 yX7_wet yX7_wet, Cond.code yX7_wet cX7_wet 2 (some .int), Cond.constantLong RX7 306 (400)]
def wsL_law_r31 : List Cond := [Cond.methodLink RX7 308 yX7_becomes, Cond.instanceMethod yX7_becomes, Cond.selects RX7 yX7_becomes yX7_becomes, Cond.code yX7_becomes cX7_becomes 4 (some .int), Cond.methodLink RL 36 yX6_demand, Cond.instanceMethod yX6_demand, Cond.selects RX6 yX6_demand yX6_demand, Cond.code yX6_demand cX6_demand 4 (some .int), Cond.fieldLink RX6 121 "RiverCall$River" "rate" "[I", Cond.fieldLink RX6 124 "RiverCall$State" "demand" "[I", Cond.methodLink RX6 117 yX6_isRight, Cond.instanceMethod yX6_isRight, Cond.selects RX6 yX6_isRight yX6_isRight, Cond.code yX6_isRight cX6_isRight 2 (some .boolean), Cond.methodLink RL 40 yX7_demand, Cond.instanceMethod yX7_demand, Cond.selects RX7 yX7_demand yX7_demand, Cond.code yX7_demand cX7_demand 3 (some .int), Cond.methodLink RX7 229 yX7_isRight, Cond.instanceMethod yX7_isRight, Cond.selects RX7 yX7_isRight yX7_isRight, Cond.code yX7_isRight cX7_isRight 2 (some .boolean), Cond.methodLink RL 41 yX6_order, Cond.instanceMethod yX6_order]
def wsL_law_r32 : List Cond := [Cond.selects RX6 yX6_order yX6_order, Cond.code yX6_order cX6_order 6 (some .int), Cond.fieldLink RX6 130 "RiverCall$State" "orderRight" "[I", Cond.fieldLink RX6 133 "RiverCall$State" "orderAmount" "[I", Cond.fieldLink RX6 136 "RiverCall$River" "storeAt" "[I", Cond.fieldLink RX6 139 "RiverCall$State" "at" "[I", Cond.methodLink RX6 127 yX6_isStore, Cond.instanceMethod yX6_isStore, Cond.selects RX6 yX6_isStore yX6_isStore, Cond.code yX6_isStore cX6_isStore 2 (some .boolean), Cond.fieldLink RX6 403 "RiverCall$River" "stores" "I", Cond.methodLink RX6 142 yX2_runsTo, Cond.methodLink RL 45 yX7_order, Cond.instanceMethod yX7_order, Cond.selects RX7 yX7_order yX7_order, Cond.code yX7_order cX7_order 5 (some .int), Cond.constantLong RX7 311 (9999), Cond.methodLink RX7 234 yX7_isStore, Cond.instanceMethod yX7_isStore, Cond.selects RX7 yX7_isStore yX7_isStore, Cond.code yX7_isStore cX7_isStore 2 (some .boolean), Cond.methodLink RX7 313 yX7_orders_, Cond.instanceMethod yX7_orders_, Cond.selects RX7 yX7_orders_ yX7_orders_]
def wsL_law_r33 : List Cond := [Cond.code yX7_orders_ cX7_orders_ 5 (some .int), Cond.methodLink RL 46 yX6_barter, Cond.instanceMethod yX6_barter, Cond.selects RX6 yX6_barter yX6_barter, Cond.code yX6_barter cX6_barter 4 (some .int), Cond.fieldLink RX6 146 "RiverCall$State" "barter" "[I", Cond.methodLink RL 49 yX7_barter, Cond.instanceMethod yX7_barter, Cond.selects RX7 yX7_barter yX7_barter, Cond.code yX7_barter cX7_barter 4 (some .int), Cond.methodLink RL 50 yX6_trade, Cond.instanceMethod yX6_trade, Cond.selects RX6 yX6_trade yX6_trade, Cond.code yX6_trade cX6_trade 3 (some .int), Cond.methodLink RX6 149 yX6_areTwoRights, Cond.instanceMethod yX6_areTwoRights, Cond.selects RX6 yX6_areTwoRights yX6_areTwoRights, Cond.code yX6_areTwoRights cX6_areTwoRights 3 (some .boolean), Cond.methodLink RX6 152 yX5_tradeAges, Cond.instanceMethod yX5_tradeAges, Cond.selects RX5 yX5_tradeAges yX5_tradeAges, Cond.code yX5_tradeAges cX5_tradeAges 4 none, Cond.methodLink RL 53 yX7_trade, Cond.instanceMethod yX7_trade]
def wsL_law_r34 : List Cond := [Cond.selects RX7 yX7_trade yX7_trade, Cond.code yX7_trade cX7_trade 4 (some .int), Cond.methodLink RL 54 yX6_move, Cond.instanceMethod yX6_move, Cond.selects RX6 yX6_move yX6_move, Cond.code yX6_move cX6_move 3 (some .int), Cond.methodLink RX6 156 yX6_isReach, Cond.instanceMethod yX6_isReach, Cond.selects RX6 yX6_isReach yX6_isReach, Cond.code yX6_isReach cX6_isReach 2 (some .boolean), Cond.fieldLink RX6 340 "RiverCall$River" "reaches" "I", Cond.methodLink RX6 159 yX6_lookAhead, Cond.instanceMethod yX6_lookAhead, Cond.selects RX6 yX6_lookAhead yX6_lookAhead, Cond.code yX6_lookAhead cX6_lookAhead 2 none, Cond.methodLink RX6 310 yX1_begin, Cond.instanceMethod yX1_begin, Cond.selects RX1 yX1_begin yX1_begin, Cond.code yX1_begin cX1_begin 3 none, Cond.methodLink RX1 38 yX5_copyOf, Cond.methodLink RX1 42 yX1_comeMore, Cond.instanceMethod yX1_comeMore, Cond.selects RX1 yX1_comeMore yX1_comeMore, Cond.code yX1_comeMore cX1_comeMore 3 none]
def wsL_law_r35 : List Cond := [Cond.fieldLink RX1 52 "RiverCall$Day" "moreAt" "I", Cond.fieldLink RX1 56 "RiverCall$Day" "more" "I", Cond.methodLink RX6 320 yX1_run, Cond.instanceMethod yX1_run, Cond.selects RX1 yX1_run yX1_run, Cond.code yX1_run cX1_run 5 none, Cond.fieldLink RX1 68 "RiverCall$River" "rights" "I", Cond.fieldLink RX1 73 "RiverCall$Day" "wants" "[I", Cond.fieldLink RX1 80 "RiverCall$Outlook" "callDays" "I", Cond.methodLink RX1 59 yX0_open, Cond.methodLink RX1 62 yX1_forget, Cond.instanceMethod yX1_forget, Cond.selects RX1 yX1_forget yX1_forget, Cond.code yX1_forget cX1_forget 2 none, Cond.fieldLink RX1 89 "RiverCall$Outlook" "least" "I", Cond.fieldLink RX1 92 "RiverCall$Outlook" "shortDays" "I", Cond.fieldLink RX1 95 "RiverCall$Outlook" "firstShort" "I", Cond.fieldLink RX1 98 "RiverCall$Outlook" "longest" "I", Cond.fieldLink RX1 101 "RiverCall$Outlook" "spell" "I", Cond.methodLink RX1 65 yX0_work, Cond.methodLink RX1 76 yX0_someCalls, Cond.instanceMethod yX0_someCalls, Cond.selects RX0 yX0_someCalls yX0_someCalls, Cond.code yX0_someCalls cX0_someCalls 2 (some .boolean)]
def wsL_law_r36 : List Cond := [Cond.methodLink RX0 195 yX0_isShort, Cond.instanceMethod yX0_isShort, Cond.selects RX0 yX0_isShort yX0_isShort, Cond.code yX0_isShort cX0_isShort 2 (some .boolean), Cond.methodLink RX1 83 yX1_watch, Cond.instanceMethod yX1_watch, Cond.selects RX1 yX1_watch yX1_watch, Cond.code yX1_watch cX1_watch 3 none, Cond.methodLink RX1 108 Lib.Math.min.name, Cond.methodLink RX1 118 Lib.Math.max.name, Cond.methodLink RX1 104 yX0_takenBy, Cond.methodLink RX1 114 yX0_isShort, Cond.methodLink RX1 86 yX0_pass, Cond.methodLink RX6 323 yX1_tookOf, Cond.instanceMethod yX1_tookOf, Cond.selects RX1 yX1_tookOf yX1_tookOf, Cond.code yX1_tookOf cX1_tookOf 2 (some .int), Cond.fieldLink RX1 121 "RiverCall$State" "took" "[I", Cond.methodLink RX6 162 yX6_hurtsSomebody, Cond.instanceMethod yX6_hurtsSomebody, Cond.selects RX6 yX6_hurtsSomebody yX6_hurtsSomebody, Cond.code yX6_hurtsSomebody cX6_hurtsSomebody 4 (some .boolean), Cond.methodLink RX6 333 yX1_beginMoved, Cond.instanceMethod yX1_beginMoved]
def wsL_law_r37 : List Cond := [Cond.selects RX1 yX1_beginMoved yX1_beginMoved, Cond.code yX1_beginMoved cX1_beginMoved 5 none, Cond.fieldLink RX1 49 "RiverCall$State" "at" "[I", Cond.methodLink RX1 46 yX1_begin, Cond.methodLink RL 57 yX7_move, Cond.instanceMethod yX7_move, Cond.selects RX7 yX7_move yX7_move, Cond.code yX7_move cX7_move 3 (some .int), Cond.methodLink RX7 220 yX7_isReach, Cond.instanceMethod yX7_isReach, Cond.selects RX7 yX7_isReach yX7_isReach, Cond.code yX7_isReach cX7_isReach 2 (some .boolean), Cond.methodLink RX7 263 yX7_stays, Cond.instanceMethod yX7_stays, Cond.selects RX7 yX7_stays yX7_stays, Cond.code yX7_stays cX7_stays 1 none, Cond.methodLink RX7 255 yX7_putsAside, Cond.instanceMethod yX7_putsAside, Cond.selects RX7 yX7_putsAside yX7_putsAside, Cond.code yX7_putsAside cX7_putsAside 2 none, Cond.methodLink RX7 259 yX7_ahead, Cond.instanceMethod yX7_ahead, Cond.selects RX7 yX7_ahead yX7_ahead, Cond.code yX7_ahead cX7_ahead 5 none]
def wsL_law_r38 : List Cond := [Cond.methodLink RX7 217 yX7_takesBack, Cond.instanceMethod yX7_takesBack, Cond.selects RX7 yX7_takesBack yX7_takesBack, Cond.code yX7_takesBack cX7_takesBack 2 none, Cond.methodLink RX7 270 yX7_mayMove, Cond.instanceMethod yX7_mayMove, Cond.selects RX7 yX7_mayMove yX7_mayMove, Cond.code yX7_mayMove cX7_mayMove 4 (some .boolean), Cond.methodLink RX7 266 yX7_moves, Cond.instanceMethod yX7_moves, Cond.selects RX7 yX7_moves yX7_moves, Cond.code yX7_moves cX7_moves 3 none, Cond.methodLink RL 58 yX6_undo, Cond.instanceMethod yX6_undo, Cond.selects RX6 yX6_undo yX6_undo, Cond.code yX6_undo cX6_undo 1 (some .int), Cond.methodLink RL 61 yX7_undo, Cond.instanceMethod yX7_undo, Cond.selects RX7 yX7_undo yX7_undo, Cond.code yX7_undo cX7_undo 2 (some .int), Cond.methodLink RL 62 yX6_keep, Cond.instanceMethod yX6_keep, Cond.selects RX6 yX6_keep yX6_keep, Cond.code yX6_keep cX6_keep 2 (some .int)]
def wsL_law_r39 : List Cond := [Cond.fieldLink RX6 180 "RiverCall" "kept" "I", Cond.methodLink RX6 178 yX2_copyOf, Cond.instanceMethod yX2_copyOf, Cond.selects RX2 yX2_copyOf yX2_copyOf, Cond.code yX2_copyOf cX2_copyOf 2 none, Cond.methodLink RL 65 yX7_keep, Cond.instanceMethod yX7_keep, Cond.selects RX7 yX7_keep yX7_keep, Cond.code yX7_keep cX7_keep 3 (some .int), Cond.methodLink RL 66 yX6_back, Cond.instanceMethod yX6_back, Cond.selects RX6 yX6_back yX6_back, Cond.code yX6_back cX6_back 2 (some .int), Cond.methodLink RL 69 yX7_back, Cond.instanceMethod yX7_back, Cond.selects RX7 yX7_back yX7_back, Cond.code yX7_back cX7_back 3 (some .int), Cond.methodLink RL 70 yX6_reach, Cond.instanceMethod yX6_reach, Cond.selects RX6 yX6_reach yX6_reach, Cond.code yX6_reach cX6_reach 3 (some .int), Cond.fieldLink RX6 183 "RiverCall$River" "inflow" "[I", Cond.fieldLink RX6 186 "RiverCall$River" "down" "[I", Cond.fieldLink RX6 189 "RiverCall$River" "sink" "[I"]
def wsL_law_r40 : List Cond := [Cond.methodLink RX6 192 yX2_countInto, Cond.instanceMethod yX2_countInto, Cond.selects RX2 yX2_countInto yX2_countInto, Cond.code yX2_countInto cX2_countInto 4 (some .int), Cond.methodLink RX6 196 yX2_countToMouth, Cond.instanceMethod yX2_countToMouth, Cond.selects RX2 yX2_countToMouth yX2_countToMouth, Cond.code yX2_countToMouth cX2_countToMouth 5 (some .int), Cond.methodLink RL 73 yX7_reach, Cond.instanceMethod yX7_reach, Cond.selects RX7 yX7_reach yX7_reach, Cond.code yX7_reach cX7_reach 3 (some .int), Cond.methodLink RX7 223 yX7_runningTo, Cond.instanceMethod yX7_runningTo, Cond.selects RX7 yX7_runningTo yX7_runningTo, Cond.code yX7_runningTo cX7_runningTo 4 (some .int), Cond.methodLink RX7 226 yX7_farOf, Cond.instanceMethod yX7_farOf, Cond.selects RX7 yX7_farOf yX7_farOf, Cond.code yX7_farOf cX7_farOf 4 (some .int), Cond.methodLink RL 74 yX6_right, Cond.instanceMethod yX6_right, Cond.selects RX6 yX6_right yX6_right, Cond.code yX6_right cX6_right 4 (some .int)]
def wsL_law_r41 : List Cond := [Cond.fieldLink RX6 199 "RiverCall$River" "volume" "[I", Cond.fieldLink RX6 202 "RiverCall$River" "from" "[I", Cond.fieldLink RX6 205 "RiverCall$River" "to" "[I", Cond.fieldLink RX6 208 "RiverCall$State" "age" "[I", Cond.fieldLink RX6 211 "RiverCall$State" "left" "[I", Cond.fieldLink RX6 214 "RiverCall$River" "backTo" "[I", Cond.fieldLink RX6 217 "RiverCall$River" "backShare" "[I", Cond.fieldLink RX6 220 "RiverCall$River" "backDelay" "[I", Cond.fieldLink RX6 223 "RiverCall$State" "took" "[I", Cond.methodLink RL 77 yX7_right, Cond.instanceMethod yX7_right, Cond.selects RX7 yX7_right yX7_right, Cond.code yX7_right cX7_right 3 (some .int), Cond.constantLong RX7 232 (12), Cond.methodLink RL 78 yX6_store, Cond.instanceMethod yX6_store, Cond.selects RX6 yX6_store yX6_store, Cond.code yX6_store cX6_store 3 (some .int), Cond.fieldLink RX6 226 "RiverCall$River" "size" "[I", Cond.fieldLink RX6 229 "RiverCall$River" "storeRate" "[I", Cond.fieldLink RX6 232 "RiverCall$River" "storeAge" "[I", Cond.fieldLink RX6 235 "RiverCall$State" "content" "[I", Cond.methodLink RL 81 yX7_store, Cond.instanceMethod yX7_store]
def wsL_law_r42 : List Cond := [Cond.selects RX7 yX7_store yX7_store, Cond.code yX7_store cX7_store 3 (some .int), Cond.constantLong RX7 237 (6), Cond.methodLink RL 82 yX6_flow, Cond.instanceMethod yX6_flow, Cond.selects RX6 yX6_flow yX6_flow, Cond.code yX6_flow cX6_flow 3 (some .int), Cond.fieldLink RX6 247 "RiverCall$Day" "there" "[I", Cond.fieldLink RX6 253 "RiverCall$Day" "out" "[I", Cond.methodLink RX6 238 yX6_look, Cond.instanceMethod yX6_look, Cond.selects RX6 yX6_look yX6_look, Cond.code yX6_look cX6_look 1 none, Cond.methodLink RX6 241 yX0_inflowOf, Cond.methodLink RX6 244 yX0_backOf, Cond.methodLink RX6 250 yX0_takenAt, Cond.instanceMethod yX0_takenAt, Cond.selects RX0 yX0_takenAt yX0_takenAt, Cond.code yX0_takenAt cX0_takenAt 5 (some .int), Cond.methodLink RL 85 yX7_flow, Cond.instanceMethod yX7_flow, Cond.selects RX7 yX7_flow yX7_flow, Cond.code yX7_flow cX7_flow 3 (some .int), Cond.methodLink RL 86 yX6_takes]
def wsL_law_r43 : List Cond := [Cond.instanceMethod yX6_takes, Cond.selects RX6 yX6_takes yX6_takes, Cond.code yX6_takes cX6_takes 3 (some .int), Cond.fieldLink RX6 259 "RiverCall$Day" "byAge" "[I", Cond.fieldLink RX6 262 "RiverCall$Day" "byOrder" "[I", Cond.fieldLink RX6 265 "RiverCall$Day" "byBarter" "[I", Cond.fieldLink RX6 268 "RiverCall$Day" "wants" "[I", Cond.methodLink RX6 256 yX0_takenBy, Cond.methodLink RL 89 yX7_takes, Cond.instanceMethod yX7_takes, Cond.selects RX7 yX7_takes yX7_takes, Cond.code yX7_takes cX7_takes 3 (some .int), Cond.methodLink RL 90 yX6_stored, Cond.instanceMethod yX6_stored, Cond.selects RX6 yX6_stored yX6_stored, Cond.code yX6_stored cX6_stored 3 (some .int), Cond.fieldLink RX6 274 "RiverCall$Day" "letByOrder" "[I", Cond.fieldLink RX6 277 "RiverCall$Day" "letByBarter" "[I", Cond.methodLink RX6 271 yX0_filledInto, Cond.methodLink RX6 280 yX0_contentBehind, Cond.methodLink RL 93 yX7_stored, Cond.instanceMethod yX7_stored, Cond.selects RX7 yX7_stored yX7_stored, Cond.code yX7_stored cX7_stored 3 (some .int)]
def wsL_law_r44 : List Cond := [Cond.methodLink RL 94 yX6_shut, Cond.instanceMethod yX6_shut, Cond.selects RX6 yX6_shut yX6_shut, Cond.code yX6_shut cX6_shut 3 (some .int), Cond.methodLink RX6 283 yX0_mostAlone, Cond.instanceMethod yX0_mostAlone, Cond.selects RX0 yX0_mostAlone yX0_mostAlone, Cond.code yX0_mostAlone cX0_mostAlone 2 (some .int), Cond.methodLink RL 97 yX7_shut, Cond.instanceMethod yX7_shut, Cond.selects RX7 yX7_shut yX7_shut, Cond.code yX7_shut cX7_shut 2 (some .int), Cond.methodLink RX7 239 yX7_olderThan, Cond.instanceMethod yX7_olderThan, Cond.selects RX7 yX7_olderThan yX7_olderThan, Cond.code yX7_olderThan cX7_olderThan 4 (some .int), Cond.methodLink RX7 242 yX7_takesWithout, Cond.instanceMethod yX7_takesWithout, Cond.selects RX7 yX7_takesWithout yX7_takesWithout, Cond.code yX7_takesWithout cX7_takesWithout 3 (some .int), Cond.methodLink RL 98 yX6_caller, Cond.instanceMethod yX6_caller, Cond.selects RX6 yX6_caller yX6_caller, Cond.code yX6_caller cX6_caller 5 (some .int)]
def wsL_law_r45 : List Cond := [Cond.fieldLink RX6 286 "RiverCall$Day" "queued" "I", Cond.fieldLink RX6 289 "RiverCall$Day" "queue" "[I", Cond.methodLink RX6 292 yX0_bringWater, Cond.methodLink RX6 295 yX0_takeByAge, Cond.methodLink RX6 298 yX6_nameOf, Cond.static yX6_nameOf, Cond.code yX6_nameOf cX6_nameOf 1 (some .int), Cond.methodLink RL 101 yX7_caller, Cond.instanceMethod yX7_caller, Cond.selects RX7 yX7_caller yX7_caller, Cond.code yX7_caller cX7_caller 6 (some .int), Cond.methodLink RX7 245 yX7_told, Cond.static yX7_told, Cond.code yX7_told cX7_told 1 (some .int), Cond.methodLink RL 102 yX6_calls, Cond.instanceMethod yX6_calls, Cond.selects RX6 yX6_calls yX6_calls, Cond.code yX6_calls cX6_calls 5 (some .int), Cond.methodLink RX6 301 yX0_isShort, Cond.methodLink RX6 304 yX6_isFutileOnSome, Cond.instanceMethod yX6_isFutileOnSome, Cond.selects RX6 yX6_isFutileOnSome yX6_isFutileOnSome, Cond.code yX6_isFutileOnSome cX6_isFutileOnSome 3 (some .boolean), Cond.methodLink RX6 307 yX6_isFutileOn]
def wsL_law_r46 : List Cond := [Cond.instanceMethod yX6_isFutileOn, Cond.selects RX6 yX6_isFutileOn yX6_isFutileOn, Cond.code yX6_isFutileOn cX6_isFutileOn 3 (some .boolean), Cond.methodLink RL 105 yX7_calls, Cond.instanceMethod yX7_calls, Cond.selects RX7 yX7_calls yX7_calls, Cond.code yX7_calls cX7_calls 6 (some .int), Cond.methodLink RX7 248 yX7_isFutile, Cond.instanceMethod yX7_isFutile, Cond.selects RX7 yX7_isFutile yX7_isFutile, Cond.code yX7_isFutile cX7_isFutile 3 (some .boolean), Cond.methodLink RL 106 yX6_futile, Cond.instanceMethod yX6_futile, Cond.selects RX6 yX6_futile yX6_futile, Cond.code yX6_futile cX6_futile 3 (some .int), Cond.methodLink RL 109 yX7_futile, Cond.instanceMethod yX7_futile, Cond.selects RX7 yX7_futile yX7_futile, Cond.code yX7_futile cX7_futile 3 (some .int), Cond.methodLink RL 110 yX6_needs, Cond.instanceMethod yX6_needs, Cond.selects RX6 yX6_needs yX6_needs, Cond.code yX6_needs cX6_needs 3 (some .int), Cond.fieldLink RX6 313 "RiverCall$Outlook" "state" "LRiverCall$State;"]
def wsL_law_r47 : List Cond := [Cond.methodLink RX6 314 yX1_isShortNow, Cond.instanceMethod yX1_isShortNow, Cond.selects RX1 yX1_isShortNow yX1_isShortNow, Cond.code yX1_isShortNow cX1_isShortNow 2 (some .boolean), Cond.methodLink RL 113 yX7_needs, Cond.instanceMethod yX7_needs, Cond.selects RX7 yX7_needs yX7_needs, Cond.code yX7_needs cX7_needs 5 (some .int), Cond.methodLink RL 114 yX6_firm, Cond.instanceMethod yX6_firm, Cond.selects RX6 yX6_firm yX6_firm, Cond.code yX6_firm cX6_firm 4 (some .int), Cond.fieldLink RX6 326 "RiverCall$Outlook" "least" "I", Cond.fieldLink RX6 329 "RiverCall$Outlook" "shortDays" "I", Cond.methodLink RX6 317 yX6_isSpan, Cond.static yX6_isSpan, Cond.code yX6_isSpan cX6_isSpan 1 (some .boolean), Cond.methodLink RL 117 yX7_firm, Cond.instanceMethod yX7_firm, Cond.selects RX7 yX7_firm yX7_firm, Cond.code yX7_firm cX7_firm 8 (some .int), Cond.constantLong RX7 251 (360), Cond.constantLong RX7 253 (2), Cond.methodLink RL 118 yX6_without]
def wsL_law_r48 : List Cond := [Cond.instanceMethod yX6_without, Cond.selects RX6 yX6_without yX6_without, Cond.code yX6_without cX6_without 5 (some .int), Cond.constant RX6 332 (-2147483648), Cond.methodLink RL 121 yX7_without, Cond.instanceMethod yX7_without, Cond.selects RX7 yX7_without yX7_without, Cond.code yX7_without cX7_without 4 (some .int), Cond.constant RX7 258 (-2147483648), Cond.methodLink RL 122 yX6_hurt, Cond.instanceMethod yX6_hurt, Cond.selects RX6 yX6_hurt yX6_hurt, Cond.code yX6_hurt cX6_hurt 4 (some .int), Cond.methodLink RX6 337 Lib.Math.max.name, Cond.methodLink RL 125 yX7_hurt, Cond.instanceMethod yX7_hurt, Cond.selects RX7 yX7_hurt yX7_hurt, Cond.code yX7_hurt cX7_hurt 5 (some .int), Cond.methodLink RL 126 yX6_movable, Cond.instanceMethod yX6_movable, Cond.selects RX6 yX6_movable yX6_movable, Cond.code yX6_movable cX6_movable 4 (some .int), Cond.methodLink RL 129 yX7_movable, Cond.instanceMethod yX7_movable]
def wsL_law_r49 : List Cond := [Cond.selects RX7 yX7_movable yX7_movable, Cond.code yX7_movable cX7_movable 4 (some .int), Cond.methodLink RL 130 yX6_aged, Cond.instanceMethod yX6_aged, Cond.selects RX6 yX6_aged yX6_aged, Cond.code yX6_aged cX6_aged 2 (some .int), Cond.methodLink RL 133 yX7_aged, Cond.instanceMethod yX7_aged, Cond.selects RX7 yX7_aged yX7_aged, Cond.code yX7_aged cX7_aged 2 (some .int), Cond.methodLink RL 134 yX6_runs, Cond.instanceMethod yX6_runs, Cond.selects RX6 yX6_runs yX6_runs, Cond.code yX6_runs cX6_runs 3 (some .int), Cond.fieldLink RX6 346 "RiverCall$Outlook" "callDays" "I", Cond.methodLink RX6 343 yX1_sumOf, Cond.instanceMethod yX1_sumOf, Cond.selects RX1 yX1_sumOf yX1_sumOf, Cond.code yX1_sumOf cX1_sumOf 2 (some .int), Cond.fieldLink RX1 124 "RiverCall$State" "sums" "[J", Cond.methodLink RL 137 yX7_runs, Cond.instanceMethod yX7_runs, Cond.selects RX7 yX7_runs yX7_runs, Cond.code yX7_runs cX7_runs 5 (some .int)]
def wsL_law_r50 : List Cond := [Cond.constantLong RX7 273 (3), Cond.methodLink RL 138 yX6_gone, Cond.instanceMethod yX6_gone, Cond.selects RX6 yX6_gone yX6_gone, Cond.code yX6_gone cX6_gone 2 (some .long), Cond.fieldLink RX6 349 "RiverCall$State" "sums" "[J", Cond.constantLong RX6 361 (-9223372036854775808), Cond.methodLink RX6 353 yX5_inStores, Cond.instanceMethod yX5_inStores, Cond.selects RX5 yX5_inStores yX5_inStores, Cond.code yX5_inStores cX5_inStores 5 (some .long), Cond.fieldLink RX5 78 "RiverCall$River" "stores" "I", Cond.methodLink RX6 357 yX5_onItsWay, Cond.instanceMethod yX5_onItsWay, Cond.selects RX5 yX5_onItsWay yX5_onItsWay, Cond.code yX5_onItsWay cX5_onItsWay 4 (some .long), Cond.methodLink RL 142 yX7_gone, Cond.instanceMethod yX7_gone, Cond.selects RX7 yX7_gone yX7_gone, Cond.code yX7_gone cX7_gone 2 (some .long), Cond.constantLong RX7 282 (-9223372036854775808), Cond.methodLink RX7 275 yX7_inStores, Cond.instanceMethod yX7_inStores, Cond.selects RX7 yX7_inStores yX7_inStores]
def wsL_law_r51 : List Cond := [Cond.code yX7_inStores cX7_inStores 4 (some .long), Cond.methodLink RX7 279 yX7_onItsWay, Cond.instanceMethod yX7_onItsWay, Cond.selects RX7 yX7_onItsWay yX7_onItsWay, Cond.code yX7_onItsWay cX7_onItsWay 4 (some .long), Cond.methodLink RL 143 yX6_coming, Cond.instanceMethod yX6_coming, Cond.selects RX6 yX6_coming yX6_coming, Cond.code yX6_coming cX6_coming 3 (some .int), Cond.fieldLink RX6 363 "RiverCall$State" "onWay" "[I", Cond.methodLink RX6 366 yX5_wayRow, Cond.methodLink RL 146 yX7_coming, Cond.instanceMethod yX7_coming, Cond.selects RX7 yX7_coming yX7_coming, Cond.code yX7_coming cX7_coming 3 (some .int), Cond.constantLong RX7 284 (29), Cond.methodLink RL 147 yX6_above, Cond.instanceMethod yX6_above, Cond.selects RX6 yX6_above yX6_above, Cond.code yX6_above cX6_above 4 (some .int), Cond.methodLink RL 150 yX7_above, Cond.instanceMethod yX7_above, Cond.selects RX7 yX7_above yX7_above, Cond.code yX7_above cX7_above 4 (some .int)]
def wsL_law_r52 : List Cond := [Cond.methodLink RL 151 yX6_thirst, Cond.instanceMethod yX6_thirst, Cond.selects RX6 yX6_thirst yX6_thirst, Cond.code yX6_thirst cX6_thirst 5 (some .int), Cond.methodLink RL 154 yX7_thirst, Cond.instanceMethod yX7_thirst, Cond.selects RX7 yX7_thirst yX7_thirst, Cond.code yX7_thirst cX7_thirst 5 (some .int), Cond.methodLink RX7 286 yX7_outOfAll, Cond.instanceMethod yX7_outOfAll, Cond.selects RX7 yX7_outOfAll yX7_outOfAll, Cond.code yX7_outOfAll cX7_outOfAll 4 (some .int), Cond.methodLink RL 155 yX6_letter, Cond.instanceMethod yX6_letter, Cond.selects RX6 yX6_letter yX6_letter, Cond.code yX6_letter cX6_letter 2 (some .int), Cond.fieldLink RX6 373 "RiverCall$RiverWriter" "written" "I", Cond.fieldLink RX6 376 "RiverCall$RiverWriter" "found" "I", Cond.methodLink RX6 369 yX4_write, Cond.instanceMethod yX4_write, Cond.selects RX4 yX4_write yX4_write, Cond.code yX4_write cX4_write 5 none, Cond.fieldLink RX4 19 "RiverCall$RiverWriter" "sought" "I", Cond.fieldLink RX4 23 "RiverCall$RiverWriter" "written" "I"]
def wsL_law_r53 : List Cond := [Cond.fieldLink RX4 26 "RiverCall$RiverWriter" "found" "I", Cond.fieldLink RX4 29 "RiverCall$River" "reaches" "I", Cond.fieldLink RX4 38 "RiverCall$River" "rights" "I", Cond.fieldLink RX4 44 "RiverCall$River" "stores" "I", Cond.fieldLink RX4 50 "RiverCall$State" "wet" "I", Cond.methodLink RX4 34 yX4_writeReach, Cond.instanceMethod yX4_writeReach, Cond.selects RX4 yX4_writeReach yX4_writeReach, Cond.code yX4_writeReach cX4_writeReach 3 none, Cond.fieldLink RX4 65 "RiverCall$River" "down" "[I", Cond.fieldLink RX4 74 "RiverCall$River" "inflow" "[I", Cond.fieldLink RX4 77 "RiverCall$River" "sink" "[I", Cond.methodLink RX4 56 yX4_beginPart, Cond.instanceMethod yX4_beginPart, Cond.selects RX4 yX4_beginPart yX4_beginPart, Cond.code yX4_beginPart cX4_beginPart 2 none, Cond.methodLink RX4 129 yX4_put, Cond.instanceMethod yX4_put, Cond.selects RX4 yX4_put yX4_put, Cond.code yX4_put cX4_put 2 none, Cond.methodLink RX4 133 yX4_putWord, Cond.instanceMethod yX4_putWord, Cond.selects RX4 yX4_putWord yX4_putWord, Cond.code yX4_putWord cX4_putWord 3 none]
def wsL_law_r54 : List Cond := [Cond.methodLink RX4 136 yJ0_length_8abf5, Cond.methodLink RX4 142 yJ0_charAt_5068e, Cond.methodLink RX4 71 yX4_putNextWord, Cond.instanceMethod yX4_putNextWord, Cond.selects RX4 yX4_putNextWord yX4_putNextWord, Cond.code yX4_putNextWord cX4_putNextWord 2 none, Cond.methodLink RX4 60 yX4_putNextNumber, Cond.instanceMethod yX4_putNextNumber, Cond.selects RX4 yX4_putNextNumber yX4_putNextNumber, Cond.code yX4_putNextNumber cX4_putNextNumber 5 none, Cond.constant RX4 146 (100000), Cond.methodLink RX4 41 yX4_writeRight, Cond.instanceMethod yX4_writeRight, Cond.selects RX4 yX4_writeRight yX4_writeRight, Cond.code yX4_writeRight cX4_writeRight 2 none, Cond.fieldLink RX4 83 "RiverCall$State" "at" "[I", Cond.fieldLink RX4 86 "RiverCall$River" "rate" "[I", Cond.fieldLink RX4 89 "RiverCall$River" "from" "[I", Cond.fieldLink RX4 92 "RiverCall$River" "to" "[I", Cond.fieldLink RX4 97 "RiverCall$State" "age" "[I", Cond.fieldLink RX4 99 "RiverCall$River" "volume" "[I", Cond.fieldLink RX4 104 "RiverCall$River" "backTo" "[I", Cond.fieldLink RX4 109 "RiverCall$River" "backShare" "[I", Cond.fieldLink RX4 112 "RiverCall$River" "backDelay" "[I"]
def wsL_law_r55 : List Cond := [Cond.methodLink RX4 47 yX4_writeStore, Cond.instanceMethod yX4_writeStore, Cond.selects RX4 yX4_writeStore yX4_writeStore, Cond.code yX4_writeStore cX4_writeStore 2 none, Cond.fieldLink RX4 117 "RiverCall$River" "storeAt" "[I", Cond.fieldLink RX4 120 "RiverCall$River" "size" "[I", Cond.fieldLink RX4 123 "RiverCall$River" "storeRate" "[I", Cond.fieldLink RX4 126 "RiverCall$River" "storeAge" "[I", Cond.methodLink RL 158 yX7_letter, Cond.instanceMethod yX7_letter, Cond.selects RX7 yX7_letter yX7_letter, Cond.code yX7_letter cX7_letter 3 (some .int), Cond.fieldLink RX7 426 "RiverCallModel" "spelt" "I", Cond.fieldLink RX7 429 "RiverCallModel" "wanted" "I", Cond.fieldLink RX7 432 "RiverCallModel" "found" "I", Cond.methodLink RX7 458 yX7_spellReach, Cond.instanceMethod yX7_spellReach, Cond.selects RX7 yX7_spellReach yX7_spellReach, Cond.code yX7_spellReach cX7_spellReach 3 none, Cond.methodLink RX7 442 yX7_spellPart, Cond.instanceMethod yX7_spellPart, Cond.selects RX7 yX7_spellPart yX7_spellPart, Cond.code yX7_spellPart cX7_spellPart 2 none, Cond.methodLink RX7 435 yX7_spell]
def wsL_law_r56 : List Cond := [Cond.instanceMethod yX7_spell, Cond.selects RX7 yX7_spell yX7_spell, Cond.code yX7_spell cX7_spell 2 none, Cond.methodLink RX7 438 yX7_spellWord, Cond.instanceMethod yX7_spellWord, Cond.selects RX7 yX7_spellWord yX7_spellWord, Cond.code yX7_spellWord cX7_spellWord 3 none, Cond.methodLink RX7 447 yX7_spellNumber, Cond.instanceMethod yX7_spellNumber, Cond.selects RX7 yX7_spellNumber yX7_spellNumber, Cond.code yX7_spellNumber cX7_spellNumber 3 none, Cond.methodLink RX7 461 yX7_spellRight, Cond.instanceMethod yX7_spellRight, Cond.selects RX7 yX7_spellRight yX7_spellRight, Cond.code yX7_spellRight cX7_spellRight 3 none, Cond.methodLink RX7 464 yX7_spellStore, Cond.instanceMethod yX7_spellStore, Cond.selects RX7 yX7_spellStore yX7_spellStore, Cond.code yX7_spellStore cX7_spellStore 3 none, Cond.methodLink RL 159 yX6_dry, Cond.instanceMethod yX6_dry, Cond.selects RX6 yX6_dry yX6_dry, Cond.code yX6_dry cX6_dry 3 (some .int), Cond.methodLink RX6 379 yX1_isCalm]
def wsL_law_r57 : List Cond := [Cond.instanceMethod yX1_isCalm, Cond.selects RX1 yX1_isCalm yX1_isCalm, Cond.code yX1_isCalm cX1_isCalm 3 (some .boolean), Cond.methodLink RL 162 yX7_dry, Cond.instanceMethod yX7_dry, Cond.selects RX7 yX7_dry yX7_dry, Cond.code yX7_dry cX7_dry 3 (some .int), Cond.constantLong RX7 467 (10), Cond.methodLink RX7 469 yX7_isDryBy, Cond.instanceMethod yX7_isDryBy, Cond.selects RX7 yX7_isDryBy yX7_isDryBy, Cond.code yX7_isDryBy cX7_isDryBy 4 (some .boolean), Cond.methodLink RL 163 yX6_full, Cond.instanceMethod yX6_full, Cond.selects RX6 yX6_full yX6_full, Cond.code yX6_full cX6_full 3 (some .int), Cond.methodLink RX6 382 yX1_daysUntil, Cond.instanceMethod yX1_daysUntil, Cond.selects RX1 yX1_daysUntil yX1_daysUntil, Cond.code yX1_daysUntil cX1_daysUntil 4 (some .int), Cond.fieldLink RX1 128 "RiverCall$State" "content" "[I", Cond.methodLink RL 166 yX7_full, Cond.instanceMethod yX7_full, Cond.selects RX7 yX7_full yX7_full]
def wsL_law_r58 : List Cond := [Cond.code yX7_full cX7_full 6 (some .int), Cond.methodLink RL 167 yX6_swap, Cond.instanceMethod yX6_swap, Cond.selects RX6 yX6_swap yX6_swap, Cond.code yX6_swap cX6_swap 7 (some .int), Cond.methodLink RL 171 yX7_swap, Cond.instanceMethod yX7_swap, Cond.selects RX7 yX7_swap yX7_swap, Cond.code yX7_swap cX7_swap 6 (some .int), Cond.methodLink RX7 472 yX7_swaps, Cond.instanceMethod yX7_swaps, Cond.selects RX7 yX7_swaps yX7_swaps, Cond.code yX7_swaps cX7_swaps 4 none, Cond.methodLink RL 172 yX6_spell, Cond.instanceMethod yX6_spell, Cond.selects RX6 yX6_spell yX6_spell, Cond.code yX6_spell cX6_spell 4 (some .int), Cond.fieldLink RX6 385 "RiverCall$Outlook" "firstShort" "I", Cond.fieldLink RX6 388 "RiverCall$Outlook" "longest" "I", Cond.methodLink RL 175 yX7_spell_, Cond.instanceMethod yX7_spell_, Cond.selects RX7 yX7_spell_ yX7_spell_, Cond.code yX7_spell_ cX7_spell_ 8 (some .int), Cond.methodLink RL 176 yX6_gain]
def wsL_law_r59 : List Cond := [Cond.instanceMethod yX6_gain, Cond.selects RX6 yX6_gain yX6_gain, Cond.code yX6_gain cX6_gain 5 (some .int), Cond.methodLink RX6 391 yX1_comeMore, Cond.methodLink RL 179 yX7_gain, Cond.instanceMethod yX7_gain, Cond.selects RX7 yX7_gain yX7_gain, Cond.code yX7_gain cX7_gain 4 (some .int), Cond.methodLink RX7 475 yX7_sumOf, Cond.static yX7_sumOf, Cond.code yX7_sumOf cX7_sumOf 6 (some .int), Cond.methodLink RL 180 yX6_share, Cond.instanceMethod yX6_share, Cond.selects RX6 yX6_share yX6_share, Cond.code yX6_share cX6_share 6 (some .int), Cond.fieldLink RX6 394 "RiverCall$Outlook" "wanted" "[I", Cond.methodLink RX6 397 yX6_thousandths, Cond.static yX6_thousandths, Cond.code yX6_thousandths cX6_thousandths 4 (some .int), Cond.constantLong RX6 401 (1000), Cond.methodLink RL 183 yX7_share, Cond.instanceMethod yX7_share, Cond.selects RX7 yX7_share yX7_share, Cond.code yX7_share cX7_share 8 (some .int)]
def wsL_law_r60 : List Cond := [Cond.methodLink RX7 481 yX7_laysShares, Cond.instanceMethod yX7_laysShares, Cond.selects RX7 yX7_laysShares yX7_laysShares, Cond.code yX7_laysShares cX7_laysShares 4 none, Cond.methodLink RX7 484 yX7_shareOf, Cond.static yX7_shareOf, Cond.code yX7_shareOf cX7_shareOf 4 (some .int), Cond.constantLong RX7 479 (1000), Cond.methodLink RL 184 yX6_worst, Cond.instanceMethod yX6_worst, Cond.selects RX6 yX6_worst yX6_worst, Cond.code yX6_worst cX6_worst 6 (some .int), Cond.methodLink RL 187 yX7_worst, Cond.instanceMethod yX7_worst, Cond.selects RX7 yX7_worst yX7_worst, Cond.code yX7_worst cX7_worst 4 (some .int), Cond.methodLink RL 188 yX6_count, Cond.instanceMethod yX6_count, Cond.selects RX6 yX6_count yX6_count, Cond.code yX6_count cX6_count 2 (some .int), Cond.methodLink RX6 406 yX6_countTold, Cond.static yX6_countTold, Cond.code yX6_countTold cX6_countTold 4 (some .int), Cond.methodLink RL 191 yX7_count]
def wsL_law_r61 : List Cond := [Cond.instanceMethod yX7_count, Cond.selects RX7 yX7_count yX7_count, Cond.code yX7_count cX7_count 2 (some .int), Cond.methodLink RX7 295 yX7_orders, Cond.instanceMethod yX7_orders, Cond.selects RX7 yX7_orders yX7_orders, Cond.code yX7_orders cX7_orders 3 (some .int), Cond.methodLink RX7 298 yX7_bartersMany, Cond.instanceMethod yX7_bartersMany, Cond.selects RX7 yX7_bartersMany yX7_bartersMany, Cond.code yX7_bartersMany cX7_bartersMany 3 (some .int)]
def wsL_law : List Cond := (wsL_law_r1 ++ (wsL_law_r2 ++ (wsL_law_r3 ++ (wsL_law_r4 ++ (wsL_law_r5 ++ (wsL_law_r6 ++ (wsL_law_r7 ++ (wsL_law_r8 ++ (wsL_law_r9 ++ (wsL_law_r10 ++ (wsL_law_r11 ++ (wsL_law_r12 ++ (wsL_law_r13 ++ (wsL_law_r14 ++ (wsL_law_r15 ++ (wsL_law_r16 ++ (wsL_law_r17 ++ (wsL_law_r18 ++ (wsL_law_r19 ++ (wsL_law_r20 ++ (wsL_law_r21 ++ (wsL_law_r22 ++ (wsL_law_r23 ++ (wsL_law_r24 ++ (wsL_law_r25 ++ (wsL_law_r26 ++ (wsL_law_r27 ++ (wsL_law_r28 ++ (wsL_law_r29 ++ (wsL_law_r30 ++ (wsL_law_r31 ++ (wsL_law_r32 ++ (wsL_law_r33 ++ (wsL_law_r34 ++ (wsL_law_r35 ++ (wsL_law_r36 ++ (wsL_law_r37 ++ (wsL_law_r38 ++ (wsL_law_r39 ++ (wsL_law_r40 ++ (wsL_law_r41 ++ (wsL_law_r42 ++ (wsL_law_r43 ++ (wsL_law_r44 ++ (wsL_law_r45 ++ (wsL_law_r46 ++ (wsL_law_r47 ++ (wsL_law_r48 ++ (wsL_law_r49 ++ (wsL_law_r50 ++ (wsL_law_r51 ++ (wsL_law_r52 ++ (wsL_law_r53 ++ (wsL_law_r54 ++ (wsL_law_r55 ++ (wsL_law_r56 ++ (wsL_law_r57 ++ (wsL_law_r58 ++ (wsL_law_r59 ++ (wsL_law_r60 ++ wsL_law_r61)))))))))))))))))))))))))))))))))))))))))))))))))))))))))))) ++ wsX60 ++ wsX70 ++ wsX20 ++ wsX50 ++ wsX00 ++ wsX10 ++ wsX30 ++ wsX40 ++ ([] : List Cond)
set_option maxRecDepth 20000 in
theorem wsL_law_r1_gi : GoodIn lw_tbl wsL_law_r1 := goodIn_r _ [137, 138, 123, 1203, 1204, 130, 139, 140, 141, 142, 143, 144, 289, 538, 145, 146, 124, 540, 541, 291, 292, 125, 542, 543] (by decide +kernel) (by decide +kernel)
set_option maxRecDepth 20000 in
theorem wsL_law_r2_gi : GoodIn lw_tbl wsL_law_r2 := goodIn_r _ [546, 547, 290, 553, 373, 374, 126, 549, 438, 439, 127, 550, 489, 490, 128, 551, 514, 515, 129, 552, 148, 149, 150, 156] (by decide +kernel) (by decide +kernel)
set_option maxRecDepth 20000 in
theorem wsL_law_r3_gi : GoodIn lw_tbl wsL_law_r3 := goodIn_r _ [161, 166, 177, 180, 185, 190, 195, 198, 204, 209, 214, 225, 230, 235, 240, 245, 294, 295, 296, 300, 304, 309, 313, 316] (by decide +kernel) (by decide +kernel)
set_option maxRecDepth 20000 in
theorem wsL_law_r4_gi : GoodIn lw_tbl wsL_law_r4 := goodIn_r _ [319, 322, 326, 330, 333, 336, 370, 339, 375, 376, 377, 378, 381, 385, 386, 388, 390, 393, 395, 397, 399, 401, 403, 379] (by decide +kernel) (by decide +kernel)
set_option maxRecDepth 20000 in
theorem wsL_law_r5_gi : GoodIn lw_tbl wsL_law_r5 := goodIn_r _ [380, 440, 441, 442, 443, 444, 448, 453, 451, 452, 446, 450, 447, 491, 492, 493, 494, 495, 500, 516, 517, 518, 519, 520] (by decide +kernel) (by decide +kernel)
set_option maxRecDepth 20000 in
theorem wsL_law_r6_gi : GoodIn lw_tbl wsL_law_r6 := goodIn_r _ [521, 1205, 1206, 1207, 1208, 1209, 1210, 1211, 1212, 1214, 1215, 1336, 1216, 1217, 1218, 1219, 1221, 1222, 1223, 1224, 1225, 1227, 1228, 1229] (by decide +kernel) (by decide +kernel)
set_option maxRecDepth 20000 in
theorem wsL_law_r7_gi : GoodIn lw_tbl wsL_law_r7 := goodIn_r _ [1230, 1231, 1236, 1237, 1238, 1245, 1249, 1250, 587, 588, 589, 590, 539, 591, 593, 0, 594, 1691, 1692, 1693, 1694, 1239, 1695, 1697] (by decide +kernel) (by decide +kernel)
set_option maxRecDepth 20000 in
theorem wsL_law_r8_gi : GoodIn lw_tbl wsL_law_r8 := goodIn_r _ [93, 1698, 595, 596, 597, 598, 1699, 1700, 1701, 1702, 1349, 1350, 1351, 599, 600, 601, 602, 545, 175, 603, 604, 605, 606, 611] (by decide +kernel) (by decide +kernel)
set_option maxRecDepth 20000 in
theorem wsL_law_r9_gi : GoodIn lw_tbl wsL_law_r9 := goodIn_r _ [612, 131, 613, 496, 497, 498, 499, 607, 608, 609, 610, 151, 171, 219, 614, 616, 1, 617, 618, 620, 2, 621, 623, 625] (by decide +kernel) (by decide +kernel)
set_option maxRecDepth 20000 in
theorem wsL_law_r10_gi : GoodIn lw_tbl wsL_law_r10 := goodIn_r _ [3, 626, 627, 628, 629, 132, 630, 1881, 631, 632, 633, 634, 635, 1882, 637, 638, 639, 640, 641, 642, 643, 644, 645, 646] (by decide +kernel) (by decide +kernel)
set_option maxRecDepth 20000 in
theorem wsL_law_r11_gi : GoodIn lw_tbl wsL_law_r11 := goodIn_r _ [133, 647, 648, 649, 650, 651, 653, 654, 134, 655, 656, 657, 135, 658, 659, 660, 661, 662, 663, 664, 665, 666, 667, 668] (by decide +kernel) (by decide +kernel)
set_option maxRecDepth 20000 in
theorem wsL_law_r12_gi : GoodIn lw_tbl wsL_law_r12 := goodIn_r _ [669, 671, 673, 675, 677, 4, 678, 153, 158, 168, 163, 679, 681, 5, 682, 684, 686, 6, 687, 688, 690, 7, 691, 692] (by decide +kernel) (by decide +kernel)
set_option maxRecDepth 20000 in
theorem wsL_law_r13_gi : GoodIn lw_tbl wsL_law_r13 := goodIn_r _ [695, 697, 8, 698, 176, 179, 183, 187, 192, 197, 201, 709, 206, 211, 216, 699, 701, 9, 702, 704, 705, 706, 707, 712] (by decide +kernel) (by decide +kernel)
set_option maxRecDepth 20000 in
theorem wsL_law_r14_gi : GoodIn lw_tbl wsL_law_r14 := goodIn_r _ [714, 10, 715, 223, 228, 233, 238, 243, 717, 719, 11, 720, 247, 721, 723, 12, 724, 725, 726, 727, 728, 297, 246, 178] (by decide +kernel) (by decide +kernel)
set_option maxRecDepth 20000 in
theorem wsL_law_r15_gi : GoodIn lw_tbl wsL_law_r15 := goodIn_r _ [196, 181, 199, 730, 731, 732, 733, 735, 734, 136, 1703, 1704, 1705, 1706, 1241, 1213, 1707, 1709, 94, 1710, 1244, 1240, 1711, 1713] (by decide +kernel) (by decide +kernel)
set_option maxRecDepth 20000 in
theorem wsL_law_r16_gi : GoodIn lw_tbl wsL_law_r16 := goodIn_r _ [95, 1714, 1715, 1717, 96, 1718, 1719, 1721, 97, 1722, 1724, 1726, 98, 1727, 1730, 1731, 1728, 1729, 1732, 1734, 99, 1735, 1736, 1738] (by decide +kernel) (by decide +kernel)
set_option maxRecDepth 20000 in
theorem wsL_law_r17_gi : GoodIn lw_tbl wsL_law_r17 := goodIn_r _ [100, 1739, 1740, 1742, 101, 1743, 1745, 1747, 102, 1748, 1749, 1751, 103, 1752, 1753, 1755, 104, 1756, 1242, 1757, 1759, 105, 1760, 1761] (by decide +kernel) (by decide +kernel)
set_option maxRecDepth 20000 in
theorem wsL_law_r18_gi : GoodIn lw_tbl wsL_law_r18 := goodIn_r _ [1762, 1243, 1763, 1766, 1768, 106, 1769, 1780, 1770, 1772, 107, 1773, 1775, 1777, 108, 1778, 1781, 1783, 109, 1784, 1787, 1789, 110, 1790] (by decide +kernel) (by decide +kernel)
set_option maxRecDepth 20000 in
theorem wsL_law_r19_gi : GoodIn lw_tbl wsL_law_r19 := goodIn_r _ [1792, 1794, 111, 1795, 1372, 1374, 49, 1375, 736, 737, 738, 739, 298, 740, 742, 13, 743, 544, 744, 745, 746, 747, 748, 749] (by decide +kernel) (by decide +kernel)
set_option maxRecDepth 20000 in
theorem wsL_law_r20_gi : GoodIn lw_tbl wsL_law_r20 := goodIn_r _ [750, 751, 752, 383, 172, 305, 220, 226, 753, 755, 14, 756, 757, 759, 15, 760, 310, 241, 761, 762, 763, 764, 765, 766] (by decide +kernel) (by decide +kernel)
set_option maxRecDepth 20000 in
theorem wsL_law_r21_gi : GoodIn lw_tbl wsL_law_r21 := goodIn_r _ [767, 768, 237, 232, 327, 773, 154, 406, 164, 786, 787, 788, 159, 769, 771, 16, 772, 299, 188, 193, 314, 202, 317, 774] (by decide +kernel) (by decide +kernel)
set_option maxRecDepth 20000 in
theorem wsL_law_r22_gi : GoodIn lw_tbl wsL_law_r22 := goodIn_r _ [775, 776, 777, 169, 303, 778, 779, 780, 781, 337, 782, 783, 784, 785, 789, 790, 791, 792, 793, 795, 17, 796, 797, 799] (by decide +kernel) (by decide +kernel)
set_option maxRecDepth 20000 in
theorem wsL_law_r23_gi : GoodIn lw_tbl wsL_law_r23 := goodIn_r _ [18, 800, 801, 803, 19, 804, 332, 335, 805, 806, 807, 808, 809, 811, 20, 812, 813, 814, 815, 816, 817, 819, 21, 820] (by decide +kernel) (by decide +kernel)
set_option maxRecDepth 20000 in
theorem wsL_law_r24_gi : GoodIn lw_tbl wsL_law_r24 := goodIn_r _ [321, 821, 822, 823, 824, 341, 825, 827, 22, 828, 829, 831, 23, 832, 325, 208, 218, 213, 833, 834, 835, 836, 837, 838] (by decide +kernel) (by decide +kernel)
set_option maxRecDepth 20000 in
theorem wsL_law_r25_gi : GoodIn lw_tbl wsL_law_r25 := goodIn_r _ [839, 840, 1636, 1637, 1638, 1639, 1640, 1641, 1643, 90, 1644, 1536, 1538, 76, 1539, 1402, 1404, 54, 1405, 1406, 1408, 55, 1409, 1220] (by decide +kernel) (by decide +kernel)
set_option maxRecDepth 20000 in
theorem wsL_law_r26_gi : GoodIn lw_tbl wsL_law_r26 := goodIn_r _ [1410, 1412, 56, 1413, 1414, 1416, 57, 1417, 1418, 1420, 58, 1421, 1389, 1391, 52, 1392, 1422, 1424, 59, 1425, 1377, 1379, 50, 1380] (by decide +kernel) (by decide +kernel)
set_option maxRecDepth 20000 in
theorem wsL_law_r27_gi : GoodIn lw_tbl wsL_law_r27 := goodIn_r _ [1394, 1396, 53, 1397, 1426, 1427, 1428, 1429, 1431, 60, 1432, 1433, 1435, 61, 1436, 1437, 1438, 1439, 1440, 1442, 62, 1443, 1444, 1446] (by decide +kernel) (by decide +kernel)
set_option maxRecDepth 20000 in
theorem wsL_law_r28_gi : GoodIn lw_tbl wsL_law_r28 := goodIn_r _ [63, 1447, 1448, 1450, 64, 1451, 1226, 1345, 1347, 44, 1348, 1452, 1454, 65, 1455, 1352, 1354, 45, 1355, 1456, 1457, 1458, 1459, 1461] (by decide +kernel) (by decide +kernel)
set_option maxRecDepth 20000 in
theorem wsL_law_r29_gi : GoodIn lw_tbl wsL_law_r29 := goodIn_r _ [66, 1462, 1463, 1465, 67, 1466, 1467, 1469, 68, 1470, 1471, 1473, 69, 1474, 1540, 1542, 77, 1543, 1232, 1233, 1234, 1235, 1479, 1481] (by decide +kernel) (by decide +kernel)
set_option maxRecDepth 20000 in
theorem wsL_law_r30_gi : GoodIn lw_tbl wsL_law_r30 := goodIn_r _ [70, 1482, 1510, 1512, 73, 1513, 1544, 1546, 78, 1547, 1548, 1550, 79, 1551, 842, 843, 844, 845, 302, 1645, 1646, 1647, 1648, 1649] (by decide +kernel) (by decide +kernel)
set_option maxRecDepth 20000 in
theorem wsL_law_r31_gi : GoodIn lw_tbl wsL_law_r31 := goodIn_r _ [1650, 1652, 91, 1653, 846, 847, 848, 849, 184, 315, 850, 852, 24, 853, 1654, 1655, 1656, 1657, 1368, 1370, 48, 1371, 854, 855] (by decide +kernel) (by decide +kernel)
set_option maxRecDepth 20000 in
theorem wsL_law_r32_gi : GoodIn lw_tbl wsL_law_r32 := goodIn_r _ [856, 857, 331, 334, 229, 308, 858, 860, 25, 861, 224, 862, 1658, 1659, 1660, 1661, 1662, 1385, 1387, 51, 1388, 1663, 1665, 92] (by decide +kernel) (by decide +kernel)
set_option maxRecDepth 20000 in
theorem wsL_law_r33_gi : GoodIn lw_tbl wsL_law_r33 := goodIn_r _ [1666, 863, 864, 865, 866, 320, 1667, 1668, 1669, 1670, 867, 868, 869, 870, 871, 873, 26, 874, 875, 876, 877, 878, 1671, 1672] (by decide +kernel) (by decide +kernel)
set_option maxRecDepth 20000 in
theorem wsL_law_r34_gi : GoodIn lw_tbl wsL_law_r34 := goodIn_r _ [1673, 1674, 879, 880, 881, 882, 883, 885, 27, 886, 155, 887, 889, 28, 890, 891, 892, 893, 894, 895, 896, 897, 898, 899] (by decide +kernel) (by decide +kernel)
set_option maxRecDepth 20000 in
theorem wsL_law_r35_gi : GoodIn lw_tbl wsL_law_r35 := goodIn_r _ [404, 405, 900, 901, 902, 903, 174, 391, 455, 904, 905, 907, 29, 908, 457, 459, 461, 463, 465, 909, 910, 911, 912, 913] (by decide +kernel) (by decide +kernel)
set_option maxRecDepth 20000 in
theorem wsL_law_r36_gi : GoodIn lw_tbl wsL_law_r36 := goodIn_r _ [914, 915, 916, 917, 918, 920, 30, 921, 923, 925, 922, 924, 926, 927, 928, 929, 930, 323, 931, 933, 31, 934, 935, 936] (by decide +kernel) (by decide +kernel)
set_option maxRecDepth 20000 in
theorem wsL_law_r37_gi : GoodIn lw_tbl wsL_law_r37 := goodIn_r _ [937, 938, 306, 939, 1675, 1676, 1677, 1678, 1341, 1343, 43, 1344, 1569, 1571, 82, 1572, 1532, 1534, 75, 1535, 1561, 1563, 81, 1564] (by decide +kernel) (by decide +kernel)
set_option maxRecDepth 20000 in
theorem wsL_law_r38_gi : GoodIn lw_tbl wsL_law_r38 := goodIn_r _ [1552, 1554, 80, 1555, 1581, 1583, 84, 1584, 1573, 1575, 83, 1576, 940, 941, 942, 943, 1679, 1680, 1681, 1682, 944, 945, 946, 947] (by decide +kernel) (by decide +kernel)
set_option maxRecDepth 20000 in
theorem wsL_law_r39_gi : GoodIn lw_tbl wsL_law_r39 := goodIn_r _ [548, 948, 949, 950, 951, 1683, 1684, 1685, 1686, 953, 954, 955, 956, 1687, 1688, 1689, 1690, 957, 958, 959, 960, 170, 160, 165] (by decide +kernel) (by decide +kernel)
set_option maxRecDepth 20000 in
theorem wsL_law_r40_gi : GoodIn lw_tbl wsL_law_r40 := goodIn_r _ [961, 962, 963, 964, 965, 966, 967, 968, 1337, 1338, 1339, 1340, 1356, 1358, 46, 1359, 1360, 1362, 47, 1363, 969, 970, 971, 972] (by decide +kernel) (by decide +kernel)
set_option maxRecDepth 20000 in
theorem wsL_law_r41_gi : GoodIn lw_tbl wsL_law_r41 := goodIn_r _ [203, 189, 194, 312, 318, 207, 212, 217, 324, 1364, 1365, 1366, 1367, 1376, 973, 974, 975, 976, 234, 239, 244, 329, 1381, 1382] (by decide +kernel) (by decide +kernel)
set_option maxRecDepth 20000 in
theorem wsL_law_r42_gi : GoodIn lw_tbl wsL_law_r42 := goodIn_r _ [1383, 1384, 1393, 977, 978, 979, 980, 387, 389, 981, 983, 32, 984, 985, 986, 987, 988, 989, 990, 1398, 1399, 1400, 1401, 991] (by decide +kernel) (by decide +kernel)
set_option maxRecDepth 20000 in
theorem wsL_law_r43_gi : GoodIn lw_tbl wsL_law_r43 := goodIn_r _ [992, 993, 994, 394, 396, 398, 392, 995, 1475, 1476, 1477, 1478, 996, 997, 998, 999, 400, 402, 1000, 1001, 1483, 1484, 1485, 1486] (by decide +kernel) (by decide +kernel)
set_option maxRecDepth 20000 in
theorem wsL_law_r44_gi : GoodIn lw_tbl wsL_law_r44 := goodIn_r _ [1002, 1003, 1004, 1005, 1006, 1007, 1008, 1009, 1487, 1488, 1489, 1490, 1491, 1493, 71, 1494, 1495, 1497, 72, 1498, 1010, 1011, 1012, 1013] (by decide +kernel) (by decide +kernel)
set_option maxRecDepth 20000 in
theorem wsL_law_r45_gi : GoodIn lw_tbl wsL_law_r45 := goodIn_r _ [384, 382, 1014, 1015, 1016, 1017, 1018, 1499, 1500, 1501, 1502, 1503, 1504, 1505, 1019, 1020, 1021, 1022, 1023, 1024, 1026, 33, 1027, 1028] (by decide +kernel) (by decide +kernel)
set_option maxRecDepth 20000 in
theorem wsL_law_r46_gi : GoodIn lw_tbl wsL_law_r46 := goodIn_r _ [1030, 34, 1031, 1506, 1507, 1508, 1509, 1514, 1516, 74, 1517, 1032, 1033, 1034, 1035, 1518, 1519, 1520, 1521, 1036, 1037, 1038, 1039, 449] (by decide +kernel) (by decide +kernel)
set_option maxRecDepth 20000 in
theorem wsL_law_r47_gi : GoodIn lw_tbl wsL_law_r47 := goodIn_r _ [1040, 1041, 1042, 1043, 1522, 1523, 1524, 1525, 1044, 1045, 1046, 1047, 458, 460, 1048, 1049, 1050, 1526, 1527, 1528, 1529, 1530, 1531, 1051] (by decide +kernel) (by decide +kernel)
set_option maxRecDepth 20000 in
theorem wsL_law_r48_gi : GoodIn lw_tbl wsL_law_r48 := goodIn_r _ [1052, 1053, 1054, 1055, 1556, 1557, 1558, 1559, 1560, 1056, 1057, 1058, 1059, 1060, 1565, 1566, 1567, 1568, 1061, 1062, 1063, 1064, 1577, 1578] (by decide +kernel) (by decide +kernel)
set_option maxRecDepth 20000 in
theorem wsL_law_r49_gi : GoodIn lw_tbl wsL_law_r49 := goodIn_r _ [1579, 1580, 1065, 1066, 1067, 1068, 1585, 1586, 1587, 1588, 1069, 1070, 1071, 1072, 456, 1073, 1074, 1075, 1076, 340, 1589, 1590, 1591, 1592] (by decide +kernel) (by decide +kernel)
set_option maxRecDepth 20000 in
theorem wsL_law_r50_gi : GoodIn lw_tbl wsL_law_r50 := goodIn_r _ [1593, 1077, 1078, 1079, 1080, 342, 1089, 1081, 1082, 1083, 1084, 222, 1085, 1086, 1087, 1088, 1594, 1595, 1596, 1597, 1606, 1598, 1600, 85] (by decide +kernel) (by decide +kernel)
set_option maxRecDepth 20000 in
theorem wsL_law_r51_gi : GoodIn lw_tbl wsL_law_r51 := goodIn_r _ [1601, 1602, 1604, 86, 1605, 1090, 1091, 1092, 1093, 338, 1094, 1607, 1608, 1609, 1610, 1611, 1095, 1096, 1097, 1098, 1612, 1613, 1614, 1615] (by decide +kernel) (by decide +kernel)
set_option maxRecDepth 20000 in
theorem wsL_law_r52_gi : GoodIn lw_tbl wsL_law_r52 := goodIn_r _ [1099, 1100, 1101, 1102, 1616, 1617, 1618, 1619, 1620, 1622, 87, 1623, 1103, 1104, 1105, 1106, 524, 526, 1107, 1108, 1109, 1110, 522, 523] (by decide +kernel) (by decide +kernel)
set_option maxRecDepth 20000 in
theorem wsL_law_r53_gi : GoodIn lw_tbl wsL_law_r53 := goodIn_r _ [525, 152, 173, 221, 301, 1111, 1113, 35, 1114, 157, 167, 162, 1116, 1118, 36, 1119, 1120, 1122, 37, 1123, 1124, 1126, 38, 1127] (by decide +kernel) (by decide +kernel)
set_option maxRecDepth 20000 in
theorem wsL_law_r54_gi : GoodIn lw_tbl wsL_law_r54 := goodIn_r _ [1128, 1129, 1131, 1133, 39, 1134, 1135, 1137, 40, 1138, 1139, 1141, 1143, 41, 1144, 307, 182, 186, 191, 311, 200, 205, 210, 215] (by decide +kernel) (by decide +kernel)
set_option maxRecDepth 20000 in
theorem wsL_law_r55_gi : GoodIn lw_tbl wsL_law_r55 := goodIn_r _ [1149, 1151, 42, 1152, 227, 231, 236, 242, 1796, 1797, 1798, 1799, 1246, 1247, 1248, 1800, 1802, 112, 1803, 1804, 1806, 113, 1807, 1808] (by decide +kernel) (by decide +kernel)
set_option maxRecDepth 20000 in
theorem wsL_law_r56_gi : GoodIn lw_tbl wsL_law_r56 := goodIn_r _ [1810, 114, 1811, 1812, 1814, 115, 1815, 1817, 1819, 116, 1820, 1822, 1824, 117, 1825, 1829, 1831, 118, 1832, 1155, 1156, 1157, 1158, 1159] (by decide +kernel) (by decide +kernel)
set_option maxRecDepth 20000 in
theorem wsL_law_r57_gi : GoodIn lw_tbl wsL_law_r57 := goodIn_r _ [1160, 1161, 1162, 1833, 1834, 1835, 1836, 1837, 1838, 1840, 119, 1841, 1163, 1164, 1165, 1166, 1167, 1168, 1169, 1170, 328, 1842, 1843, 1844] (by decide +kernel) (by decide +kernel)
set_option maxRecDepth 20000 in
theorem wsL_law_r58_gi : GoodIn lw_tbl wsL_law_r58 := goodIn_r _ [1845, 1171, 1172, 1173, 1174, 1846, 1847, 1848, 1849, 1850, 1852, 120, 1853, 1175, 1176, 1177, 1178, 462, 464, 1854, 1855, 1856, 1857, 1179] (by decide +kernel) (by decide +kernel)
set_option maxRecDepth 20000 in
theorem wsL_law_r59_gi : GoodIn lw_tbl wsL_law_r59 := goodIn_r _ [1180, 1181, 1182, 1183, 1858, 1859, 1860, 1861, 1862, 1863, 1864, 1184, 1185, 1186, 1187, 454, 1188, 1189, 1190, 1191, 1865, 1866, 1867, 1868] (by decide +kernel) (by decide +kernel)
set_option maxRecDepth 20000 in
theorem wsL_law_r60_gi : GoodIn lw_tbl wsL_law_r60 := goodIn_r _ [1869, 1871, 121, 1872, 1873, 1874, 1875, 1876, 1192, 1193, 1194, 1195, 1877, 1878, 1879, 1880, 1196, 1197, 1198, 1199, 1200, 1201, 1202, 1624] (by decide +kernel) (by decide +kernel)
set_option maxRecDepth 20000 in
theorem wsL_law_r61_gi : GoodIn lw_tbl wsL_law_r61 := goodIn_r _ [1625, 1626, 1627, 1628, 1630, 88, 1631, 1632, 1634, 89, 1635] (by decide +kernel) (by decide +kernel)
set_option maxRecDepth 20000 in
theorem wsX60_gi : GoodIn lw_tbl wsX60 := goodIn_r _ [554, 556, 558, 560, 562, 564, 566, 568, 570, 572, 574, 576, 578, 580, 582, 584] (by decide +kernel) (by decide +kernel)
set_option maxRecDepth 20000 in
theorem wsX70_gi : GoodIn lw_tbl wsX70 := goodIn_r _ [1251, 1253, 1255, 1257, 1259, 1261, 1263, 1265, 1267, 1269, 1271, 1273, 1275, 1277, 1279, 1281, 1283, 1285, 1287, 1289, 1291, 1293, 1295, 1297, 1299, 1301, 1303, 1305, 1307, 1309, 1311, 1313, 1315, 1317, 1319, 1321, 1323, 1325, 1327, 1329, 1331, 1333] (by decide +kernel) (by decide +kernel)
set_option maxRecDepth 20000 in
theorem wsX20_gi : GoodIn lw_tbl wsX20 := goodIn_r _ [248, 250, 252, 254, 256, 258, 260, 262, 264, 266, 268, 270, 272, 274, 276, 278, 280, 282, 284, 286] (by decide +kernel) (by decide +kernel)
set_option maxRecDepth 20000 in
theorem wsX50_gi : GoodIn lw_tbl wsX50 := goodIn_r _ [343, 345, 347, 349, 351, 353, 355, 357, 359, 361, 363, 365, 367] (by decide +kernel) (by decide +kernel)
set_option maxRecDepth 20000 in
theorem wsX00_gi : GoodIn lw_tbl wsX00 := goodIn_r _ [407, 409, 411, 413, 415, 417, 419, 421, 423, 425, 427, 429, 431, 433, 435] (by decide +kernel) (by decide +kernel)
set_option maxRecDepth 20000 in
theorem wsX10_gi : GoodIn lw_tbl wsX10 := goodIn_r _ [466, 468, 470, 472, 474, 476, 478, 480, 482, 484, 486] (by decide +kernel) (by decide +kernel)
set_option maxRecDepth 20000 in
theorem wsX30_gi : GoodIn lw_tbl wsX30 := goodIn_r _ [501, 503, 505, 507, 509, 511] (by decide +kernel) (by decide +kernel)
set_option maxRecDepth 20000 in
theorem wsX40_gi : GoodIn lw_tbl wsX40 := goodIn_r _ [527, 529, 531, 533, 535] (by decide +kernel) (by decide +kernel)
theorem wl_gi : GoodIn lw_tbl wsL_law := goodIn_app (goodIn_app (goodIn_app (goodIn_app (goodIn_app (goodIn_app (goodIn_app (goodIn_app (goodIn_app (goodIn_app wsL_law_r1_gi (goodIn_app wsL_law_r2_gi (goodIn_app wsL_law_r3_gi (goodIn_app wsL_law_r4_gi (goodIn_app wsL_law_r5_gi (goodIn_app wsL_law_r6_gi (goodIn_app wsL_law_r7_gi (goodIn_app wsL_law_r8_gi (goodIn_app wsL_law_r9_gi (goodIn_app wsL_law_r10_gi (goodIn_app wsL_law_r11_gi (goodIn_app wsL_law_r12_gi (goodIn_app wsL_law_r13_gi (goodIn_app wsL_law_r14_gi (goodIn_app wsL_law_r15_gi (goodIn_app wsL_law_r16_gi (goodIn_app wsL_law_r17_gi (goodIn_app wsL_law_r18_gi (goodIn_app wsL_law_r19_gi (goodIn_app wsL_law_r20_gi (goodIn_app wsL_law_r21_gi (goodIn_app wsL_law_r22_gi (goodIn_app wsL_law_r23_gi (goodIn_app wsL_law_r24_gi (goodIn_app wsL_law_r25_gi (goodIn_app wsL_law_r26_gi (goodIn_app wsL_law_r27_gi (goodIn_app wsL_law_r28_gi (goodIn_app wsL_law_r29_gi (goodIn_app wsL_law_r30_gi (goodIn_app wsL_law_r31_gi (goodIn_app wsL_law_r32_gi (goodIn_app wsL_law_r33_gi (goodIn_app wsL_law_r34_gi (goodIn_app wsL_law_r35_gi (goodIn_app wsL_law_r36_gi (goodIn_app wsL_law_r37_gi (goodIn_app wsL_law_r38_gi (goodIn_app wsL_law_r39_gi (goodIn_app wsL_law_r40_gi (goodIn_app wsL_law_r41_gi (goodIn_app wsL_law_r42_gi (goodIn_app wsL_law_r43_gi (goodIn_app wsL_law_r44_gi (goodIn_app wsL_law_r45_gi (goodIn_app wsL_law_r46_gi (goodIn_app wsL_law_r47_gi (goodIn_app wsL_law_r48_gi (goodIn_app wsL_law_r49_gi (goodIn_app wsL_law_r50_gi (goodIn_app wsL_law_r51_gi (goodIn_app wsL_law_r52_gi (goodIn_app wsL_law_r53_gi (goodIn_app wsL_law_r54_gi (goodIn_app wsL_law_r55_gi (goodIn_app wsL_law_r56_gi (goodIn_app wsL_law_r57_gi (goodIn_app wsL_law_r58_gi (goodIn_app wsL_law_r59_gi (goodIn_app wsL_law_r60_gi (wsL_law_r61_gi))))))))))))))))))))))))))))))))))))))))))))))))))))))))))))) wsX60_gi) wsX70_gi) wsX20_gi) wsX50_gi) wsX00_gi) wsX10_gi) wsX30_gi) wsX40_gi) (fun w h => absurd h List.not_mem_nil)
theorem wsL_law_in : ∀ w ∈ wsL_law, w ∈ lw_tbl := fun w h => (wl_gi w h).1
theorem inlX0 : ∀ w ∈ wsX00, w ∈ wsL_law := fun _ h => List.mem_append_left _ (List.mem_append_left _ (List.mem_append_left _ (List.mem_append_left _ (List.mem_append_right _ h))))
theorem inX0 : ∀ w ∈ wsX00, w ∈ lw_tbl := fun w h => wsL_law_in w (inlX0 w h)
theorem inlX1 : ∀ w ∈ wsX10, w ∈ wsL_law := fun _ h => List.mem_append_left _ (List.mem_append_left _ (List.mem_append_left _ (List.mem_append_right _ h)))
theorem inX1 : ∀ w ∈ wsX10, w ∈ lw_tbl := fun w h => wsL_law_in w (inlX1 w h)
theorem inlX2 : ∀ w ∈ wsX20, w ∈ wsL_law := fun _ h => List.mem_append_left _ (List.mem_append_left _ (List.mem_append_left _ (List.mem_append_left _ (List.mem_append_left _ (List.mem_append_left _ (List.mem_append_right _ h))))))
theorem inX2 : ∀ w ∈ wsX20, w ∈ lw_tbl := fun w h => wsL_law_in w (inlX2 w h)
theorem inlX3 : ∀ w ∈ wsX30, w ∈ wsL_law := fun _ h => List.mem_append_left _ (List.mem_append_left _ (List.mem_append_right _ h))
theorem inX3 : ∀ w ∈ wsX30, w ∈ lw_tbl := fun w h => wsL_law_in w (inlX3 w h)
theorem inlX4 : ∀ w ∈ wsX40, w ∈ wsL_law := fun _ h => List.mem_append_left _ (List.mem_append_right _ h)
theorem inX4 : ∀ w ∈ wsX40, w ∈ lw_tbl := fun w h => wsL_law_in w (inlX4 w h)
theorem inlX5 : ∀ w ∈ wsX50, w ∈ wsL_law := fun _ h => List.mem_append_left _ (List.mem_append_left _ (List.mem_append_left _ (List.mem_append_left _ (List.mem_append_left _ (List.mem_append_right _ h)))))
theorem inX5 : ∀ w ∈ wsX50, w ∈ lw_tbl := fun w h => wsL_law_in w (inlX5 w h)
theorem inlX6 : ∀ w ∈ wsX60, w ∈ wsL_law := fun _ h => List.mem_append_left _ (List.mem_append_left _ (List.mem_append_left _ (List.mem_append_left _ (List.mem_append_left _ (List.mem_append_left _ (List.mem_append_left _ (List.mem_append_left _ (List.mem_append_right _ h))))))))
theorem inX6 : ∀ w ∈ wsX60, w ∈ lw_tbl := fun w h => wsL_law_in w (inlX6 w h)
theorem inlX7 : ∀ w ∈ wsX70, w ∈ wsL_law := fun _ h => List.mem_append_left _ (List.mem_append_left _ (List.mem_append_left _ (List.mem_append_left _ (List.mem_append_left _ (List.mem_append_left _ (List.mem_append_left _ (List.mem_append_right _ h)))))))
theorem inX7 : ∀ w ∈ wsX70, w ∈ lw_tbl := fun w h => wsL_law_in w (inlX7 w h)
abbrev vwCl : List vw_C := [(RX0, TX0, 15), (RX1, TX1, 11), (RX2, TX2, 20), (RX3, TX3, 6), (RX4, TX4, 5), (RX5, TX5, 13), (RX6, TX6, 16), (RX7, TX7, 42)]
