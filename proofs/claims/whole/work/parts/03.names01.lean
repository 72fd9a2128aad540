def RX0 : String := "WatermarkJoin$Bytes"
def TX0 : u_T := fun k => match k with
  | 0 => ("WatermarkJoin$Bytes", "bytes", "[B", true)
  | _ => ("WatermarkJoin$Bytes", "length", "I", false)
def tyX0 : Nat → FieldType := fun k => match k with
  | 0 => .array .byte
  | _ => .int
theorem nmX0 : ∀ a, a < 2 → ∀ b, b < 2 → a ≠ b → (TX0 a).2.1 ≠ (TX0 b).2.1 := by decide +kernel
theorem tyX0_ok : ∀ k, k < 2 → parseFieldDescriptor (TX0 k).2.2.1 = some (tyX0 k) := by decide +kernel
abbrev cX0_init : ByteArray := prog_2_method_1_code
def yX0_init : MethodName := ⟨RX0, "<init>", "(I)V"⟩
abbrev cX0_clear : ByteArray := prog_2_method_2_code
def yX0_clear : MethodName := ⟨RX0, "clear", "()V"⟩
abbrev cX0_add : ByteArray := prog_2_method_3_code
def yX0_add : MethodName := ⟨RX0, "add", "(I)V"⟩
abbrev cX0_at : ByteArray := prog_2_method_4_code
def yX0_at : MethodName := ⟨RX0, "at", "(I)I"⟩
abbrev cX0_addWord : ByteArray := prog_2_method_5_code
def yX0_addWord : MethodName := ⟨RX0, "addWord", "(J)V"⟩
abbrev cX0_addNumber : ByteArray := prog_2_method_6_code
def yX0_addNumber : MethodName := ⟨RX0, "addNumber", "(J)V"⟩
abbrev cX0_addTime : ByteArray := prog_2_method_7_code
def yX0_addTime : MethodName := ⟨RX0, "addTime", "(J)V"⟩
def RX1 : String := "WatermarkJoin$Graph"
def TX1 : u_T := fun k => match k with
  | 0 => ("WatermarkJoin$Graph", "outs", "LWatermarkJoin$Notes;", true)
  | 1 => ("WatermarkJoin$Graph", "lates", "LWatermarkJoin$Notes;", true)
  | 2 => ("WatermarkJoin$Graph", "streams", "[LWatermarkJoin$Stream;", true)
  | 3 => ("WatermarkJoin$Graph", "spans", "[J", true)
  | 4 => ("WatermarkJoin$Graph", "tickets", "LWatermarkJoin$Tickets;", true)
  | 5 => ("WatermarkJoin$Graph", "count", "I", false)
  | 6 => ("WatermarkJoin$Graph", "turn", "I", false)
  | _ => ("WatermarkJoin$Graph", "lost", "I", false)
def tyX1 : Nat → FieldType := fun k => match k with
  | 0 => .object "WatermarkJoin$Notes"
  | 1 => .object "WatermarkJoin$Notes"
  | 2 => .array (.object "WatermarkJoin$Stream")
  | 3 => .array .long
  | 4 => .object "WatermarkJoin$Tickets"
  | 5 => .int
  | 6 => .int
  | _ => .int
theorem nmX1 : ∀ a, a < 8 → ∀ b, b < 8 → a ≠ b → (TX1 a).2.1 ≠ (TX1 b).2.1 := by decide +kernel
theorem tyX1_ok : ∀ k, k < 8 → parseFieldDescriptor (TX1 k).2.2.1 = some (tyX1 k) := by decide +kernel
abbrev cX1_init : ByteArray := prog_3_method_1_code
def yX1_init : MethodName := ⟨RX1, "<init>", "(LWatermarkJoin$Notes;LWatermarkJoin$Notes;)V"⟩
abbrev cX1_add : ByteArray := prog_3_method_2_code
def yX1_add : MethodName := ⟨RX1, "add", "(LWatermarkJoin$Stream;)V"⟩
abbrev cX1_named : ByteArray := prog_3_method_3_code
def yX1_named : MethodName := ⟨RX1, "named", "(J)LWatermarkJoin$Stream;"⟩
abbrev cX1_isAligned : ByteArray := prog_3_method_4_code
def yX1_isAligned : MethodName := ⟨RX1, "isAligned", "(I)Z"⟩
abbrev cX1_isStopped : ByteArray := prog_3_method_5_code
def yX1_isStopped : MethodName := ⟨RX1, "isStopped", "(LWatermarkJoin$Source;I)Z"⟩
abbrev cX1_refusalOf : ByteArray := prog_3_method_6_code
def yX1_refusalOf : MethodName := ⟨RX1, "refusalOf", "(LWatermarkJoin$Source;I)I"⟩
abbrev cX1_countIdleParts : ByteArray := prog_3_method_7_code
def yX1_countIdleParts : MethodName := ⟨RX1, "countIdleParts", "()I"⟩
abbrev cX1_countStoppedParts : ByteArray := prog_3_method_8_code
def yX1_countStoppedParts : MethodName := ⟨RX1, "countStoppedParts", "()I"⟩
abbrev cX1_takeRow : ByteArray := prog_3_method_9_code
def yX1_takeRow : MethodName := ⟨RX1, "takeRow", "(LWatermarkJoin$Stream;IJI)I"⟩
abbrev cX1_goOn : ByteArray := prog_3_method_10_code
def yX1_goOn : MethodName := ⟨RX1, "goOn", "(I)I"⟩
abbrev cX1_emit : ByteArray := prog_3_method_11_code
def yX1_emit : MethodName := ⟨RX1, "emit", "(II)V"⟩
abbrev cX1_passOn : ByteArray := prog_3_method_12_code
def yX1_passOn : MethodName := ⟨RX1, "passOn", "(LWatermarkJoin$Stream;JIII)V"⟩
abbrev cX1_comeToJoin : ByteArray := prog_3_method_13_code
def yX1_comeToJoin : MethodName := ⟨RX1, "comeToJoin", "(LWatermarkJoin$Stream;IJIII)V"⟩
abbrev cX1_reckon : ByteArray := prog_3_method_14_code
def yX1_reckon : MethodName := ⟨RX1, "reckon", "()V"⟩
abbrev cX1_goalOf : ByteArray := prog_3_method_15_code
def yX1_goalOf : MethodName := ⟨RX1, "goalOf", "(LWatermarkJoin$Stream;)J"⟩
abbrev cX1_closeSums : ByteArray := prog_3_method_16_code
def yX1_closeSums : MethodName := ⟨RX1, "closeSums", "(LWatermarkJoin$Stream;)V"⟩
abbrev cX1_write : ByteArray := prog_3_method_17_code
def yX1_write : MethodName := ⟨RX1, "write", "(LWatermarkJoin$Bytes;)V"⟩
def RX2 : String := "WatermarkJoin$Join"
def TX2 : u_T := fun k => match k with
  | 0 => ("WatermarkJoin$Join", "first", "LWatermarkJoin$Stream;", true)
  | 1 => ("WatermarkJoin$Join", "second", "LWatermarkJoin$Stream;", true)
  | 2 => ("WatermarkJoin$Join", "from", "J", true)
  | 3 => ("WatermarkJoin$Join", "to", "J", true)
  | 4 => ("WatermarkJoin$Join", "counts", "[I", true)
  | 5 => ("WatermarkJoin$Join", "times", "[[J", true)
  | 6 => ("WatermarkJoin$Join", "keys", "[[I", true)
  | _ => ("WatermarkJoin$Join", "weights", "[[I", true)
def tyX2 : Nat → FieldType := fun k => match k with
  | 0 => .object "WatermarkJoin$Stream"
  | 1 => .object "WatermarkJoin$Stream"
  | 2 => .long
  | 3 => .long
  | 4 => .array .int
  | 5 => .array (.array .long)
  | 6 => .array (.array .int)
  | _ => .array (.array .int)
theorem nmX2 : ∀ a, a < 8 → ∀ b, b < 8 → a ≠ b → (TX2 a).2.1 ≠ (TX2 b).2.1 := by decide +kernel
theorem tyX2_ok : ∀ k, k < 8 → parseFieldDescriptor (TX2 k).2.2.1 = some (tyX2 k) := by decide +kernel
abbrev cX2_init : ByteArray := prog_4_method_1_code
def yX2_init : MethodName := ⟨RX2, "<init>", "(LWatermarkJoin$Stream;LWatermarkJoin$Stream;JJ)V"⟩
abbrev cX2_meets : ByteArray := prog_4_method_2_code
def yX2_meets : MethodName := ⟨RX2, "meets", "(IJII)Z"⟩
abbrev cX2_isFar : ByteArray := prog_4_method_3_code
def yX2_isFar : MethodName := ⟨RX2, "isFar", "(IJ)Z"⟩
abbrev cX2_keep : ByteArray := prog_4_method_4_code
def yX2_keep : MethodName := ⟨RX2, "keep", "(IJII)I"⟩
abbrev cX2_dropFirst : ByteArray := prog_4_method_5_code
def yX2_dropFirst : MethodName := ⟨RX2, "dropFirst", "(I)V"⟩
abbrev cX2_put : ByteArray := prog_4_method_6_code
def yX2_put : MethodName := ⟨RX2, "put", "(IIJII)V"⟩
abbrev cX2_dropFar : ByteArray := prog_4_method_7_code
def yX2_dropFar : MethodName := ⟨RX2, "dropFar", "()V"⟩
def RX3 : String := "WatermarkJoin$Notes"
def TX3 : u_T := fun k => match k with
  | 0 => ("WatermarkJoin$Notes", "values", "[J", true)
  | 1 => ("WatermarkJoin$Notes", "room", "I", true)
  | _ => ("WatermarkJoin$Notes", "count", "I", false)
def tyX3 : Nat → FieldType := fun k => match k with
  | 0 => .array .long
  | 1 => .int
  | _ => .int
theorem nmX3 : ∀ a, a < 3 → ∀ b, b < 3 → a ≠ b → (TX3 a).2.1 ≠ (TX3 b).2.1 := by decide +kernel
theorem tyX3_ok : ∀ k, k < 3 → parseFieldDescriptor (TX3 k).2.2.1 = some (tyX3 k) := by decide +kernel
abbrev cX3_init : ByteArray := prog_5_method_1_code
def yX3_init : MethodName := ⟨RX3, "<init>", "(I)V"⟩
abbrev cX3_clear : ByteArray := prog_5_method_2_code
def yX3_clear : MethodName := ⟨RX3, "clear", "()V"⟩
abbrev cX3_note : ByteArray := prog_5_method_3_code
def yX3_note : MethodName := ⟨RX3, "note", "(IJII)V"⟩
abbrev cX3_has : ByteArray := prog_5_method_4_code
def yX3_has : MethodName := ⟨RX3, "has", "(II)Z"⟩
abbrev cX3_get : ByteArray := prog_5_method_5_code
def yX3_get : MethodName := ⟨RX3, "get", "(II)J"⟩
def RX4 : String := "WatermarkJoin$Scanner"
def TX4 : u_T := fun k => match k with
  | 0 => ("WatermarkJoin$Scanner", "text", "LWatermarkJoin$Bytes;", true)
  | 1 => ("WatermarkJoin$Scanner", "next", "I", false)
  | 2 => ("WatermarkJoin$Scanner", "kind", "I", false)
  | 3 => ("WatermarkJoin$Scanner", "place", "I", false)
  | _ => ("WatermarkJoin$Scanner", "value", "J", false)
def tyX4 : Nat → FieldType := fun k => match k with
  | 0 => .object "WatermarkJoin$Bytes"
  | 1 => .int
  | 2 => .int
  | 3 => .int
  | _ => .long
theorem nmX4 : ∀ a, a < 5 → ∀ b, b < 5 → a ≠ b → (TX4 a).2.1 ≠ (TX4 b).2.1 := by decide +kernel
theorem tyX4_ok : ∀ k, k < 5 → parseFieldDescriptor (TX4 k).2.2.1 = some (tyX4 k) := by decide +kernel
abbrev cX4_init : ByteArray := prog_6_method_1_code
def yX4_init : MethodName := ⟨RX4, "<init>", "(LWatermarkJoin$Bytes;)V"⟩
abbrev cX4_advance : ByteArray := prog_6_method_2_code
def yX4_advance : MethodName := ⟨RX4, "advance", "()V"⟩
abbrev cX4_scanRun : ByteArray := prog_6_method_3_code
def yX4_scanRun : MethodName := ⟨RX4, "scanRun", "(II)I"⟩
abbrev cX4_isKeyword : ByteArray := prog_6_method_4_code
def yX4_isKeyword : MethodName := ⟨RX4, "isKeyword", "()Z"⟩
abbrev cX4_isBlank : ByteArray := prog_6_method_5_code
def yX4_isBlank : MethodName := ⟨RX4, "isBlank", "(I)Z"⟩
def RX5 : String := "WatermarkJoin$Source"
def TX5 : u_T := fun k => match k with
  | 0 => ("WatermarkJoin$Source", "parts", "I", true)
  | 1 => ("WatermarkJoin$Source", "lag", "J", true)
  | 2 => ("WatermarkJoin$Source", "after", "I", true)
  | 3 => ("WatermarkJoin$Source", "group", "I", true)
  | 4 => ("WatermarkJoin$Source", "states", "[I", true)
  | 5 => ("WatermarkJoin$Source", "promises", "[J", true)
  | 6 => ("WatermarkJoin$Source", "heard", "[I", true)
  | _ => ("WatermarkJoin$Source", "falls", "[Z", true)
def tyX5 : Nat → FieldType := fun k => match k with
  | 0 => .int
  | 1 => .long
  | 2 => .int
  | 3 => .int
  | 4 => .array .int
  | 5 => .array .long
  | 6 => .array .int
  | _ => .array .boolean
theorem nmX5 : ∀ a, a < 8 → ∀ b, b < 8 → a ≠ b → (TX5 a).2.1 ≠ (TX5 b).2.1 := by decide +kernel
theorem tyX5_ok : ∀ k, k < 8 → parseFieldDescriptor (TX5 k).2.2.1 = some (tyX5 k) := by decide +kernel
abbrev cX5_init : ByteArray := prog_7_method_1_code
def yX5_init : MethodName := ⟨RX5, "<init>", "(IJII)V"⟩
abbrev cX5_hear : ByteArray := prog_7_method_2_code
def yX5_hear : MethodName := ⟨RX5, "hear", "(II)V"⟩
abbrev cX5_raise : ByteArray := prog_7_method_3_code
def yX5_raise : MethodName := ⟨RX5, "raise", "(IJ)Z"⟩
abbrev cX5_finish : ByteArray := prog_7_method_4_code
def yX5_finish : MethodName := ⟨RX5, "finish", "(I)V"⟩
abbrev cX5_countIn : ByteArray := prog_7_method_5_code
def yX5_countIn : MethodName := ⟨RX5, "countIn", "(I)I"⟩
abbrev cX5_leastActive : ByteArray := prog_7_method_6_code
def yX5_leastActive : MethodName := ⟨RX5, "leastActive", "()J"⟩
abbrev cX5_goal : ByteArray := prog_7_method_7_code
def yX5_goal : MethodName := ⟨RX5, "goal", "()J"⟩
abbrev cX5_isSilent : ByteArray := prog_7_method_8_code
def yX5_isSilent : MethodName := ⟨RX5, "isSilent", "(II)Z"⟩
def RX6 : String := "WatermarkJoin$Stream"
def TX6 : u_T := fun k => match k with
  | 0 => ("WatermarkJoin$Stream", "number", "I", true)
  | 1 => ("WatermarkJoin$Stream", "name", "J", true)
  | 2 => ("WatermarkJoin$Stream", "kind", "J", true)
  | 3 => ("WatermarkJoin$Stream", "inputs", "[LWatermarkJoin$Stream;", true)
  | 4 => ("WatermarkJoin$Stream", "inputCount", "I", false)
  | 5 => ("WatermarkJoin$Stream", "taker", "LWatermarkJoin$Stream;", false)
  | 6 => ("WatermarkJoin$Stream", "watermark", "J", false)
  | 7 => ("WatermarkJoin$Stream", "idle", "Z", false)
  | 8 => ("WatermarkJoin$Stream", "delay", "J", false)
  | 9 => ("WatermarkJoin$Stream", "source", "LWatermarkJoin$Source;", false)
  | 10 => ("WatermarkJoin$Stream", "join", "LWatermarkJoin$Join;", false)
  | _ => ("WatermarkJoin$Stream", "window", "LWatermarkJoin$Window;", false)
def tyX6 : Nat → FieldType := fun k => match k with
  | 0 => .int
  | 1 => .long
  | 2 => .long
  | 3 => .array (.object "WatermarkJoin$Stream")
  | 4 => .int
  | 5 => .object "WatermarkJoin$Stream"
  | 6 => .long
  | 7 => .boolean
  | 8 => .long
  | 9 => .object "WatermarkJoin$Source"
  | 10 => .object "WatermarkJoin$Join"
  | _ => .object "WatermarkJoin$Window"
theorem nmX6 : ∀ a, a < 12 → ∀ b, b < 12 → a ≠ b → (TX6 a).2.1 ≠ (TX6 b).2.1 := by decide +kernel
theorem tyX6_ok : ∀ k, k < 12 → parseFieldDescriptor (TX6 k).2.2.1 = some (tyX6 k) := by decide +kernel
abbrev cX6_init : ByteArray := prog_8_method_1_code
def yX6_init : MethodName := ⟨RX6, "<init>", "(IJJ)V"⟩
abbrev cX6_addInput : ByteArray := prog_8_method_2_code
def yX6_addInput : MethodName := ⟨RX6, "addInput", "(LWatermarkJoin$Stream;)V"⟩
abbrev cX6_leastOfInputs : ByteArray := prog_8_method_3_code
def yX6_leastOfInputs : MethodName := ⟨RX6, "leastOfInputs", "()J"⟩
abbrev cX6_write : ByteArray := prog_8_method_4_code
def yX6_write : MethodName := ⟨RX6, "write", "(LWatermarkJoin$Bytes;)V"⟩
def RX7 : String := "WatermarkJoin$TextReader"
def TX7 : u_T := fun k => match k with
  | 0 => ("WatermarkJoin$TextReader", "scanner", "LWatermarkJoin$Scanner;", true)
  | 1 => ("WatermarkJoin$TextReader", "graph", "LWatermarkJoin$Graph;", true)
  | 2 => ("WatermarkJoin$TextReader", "fault", "I", false)
  | 3 => ("WatermarkJoin$TextReader", "place", "I", false)
  | 4 => ("WatermarkJoin$TextReader", "joins", "I", false)
  | 5 => ("WatermarkJoin$TextReader", "windows", "I", false)
  | _ => ("WatermarkJoin$TextReader", "number", "J", false)
def tyX7 : Nat → FieldType := fun k => match k with
  | 0 => .object "WatermarkJoin$Scanner"
  | 1 => .object "WatermarkJoin$Graph"
  | 2 => .int
  | 3 => .int
  | 4 => .int
  | 5 => .int
  | _ => .long
theorem nmX7 : ∀ a, a < 7 → ∀ b, b < 7 → a ≠ b → (TX7 a).2.1 ≠ (TX7 b).2.1 := by decide +kernel
theorem tyX7_ok : ∀ k, k < 7 → parseFieldDescriptor (TX7 k).2.2.1 = some (tyX7 k) := by decide +kernel
abbrev cX7_init : ByteArray := prog_9_method_1_code
def yX7_init : MethodName := ⟨RX7, "<init>", "(LWatermarkJoin$Scanner;LWatermarkJoin$Graph;)V"⟩
abbrev cX7_readText : ByteArray := prog_9_method_2_code
def yX7_readText : MethodName := ⟨RX7, "readText", "()Z"⟩
abbrev cX7_readAlign : ByteArray := prog_9_method_3_code
def yX7_readAlign : MethodName := ⟨RX7, "readAlign", "()Z"⟩
abbrev cX7_readBeginning : ByteArray := prog_9_method_4_code
def yX7_readBeginning : MethodName := ⟨RX7, "readBeginning", "(Z)LWatermarkJoin$Stream;"⟩
abbrev cX7_readKind : ByteArray := prog_9_method_5_code
def yX7_readKind : MethodName := ⟨RX7, "readKind", "(LWatermarkJoin$Stream;)Z"⟩
abbrev cX7_readSource : ByteArray := prog_9_method_6_code
def yX7_readSource : MethodName := ⟨RX7, "readSource", "(LWatermarkJoin$Stream;)Z"⟩
abbrev cX7_readUnion : ByteArray := prog_9_method_7_code
def yX7_readUnion : MethodName := ⟨RX7, "readUnion", "(LWatermarkJoin$Stream;)Z"⟩
abbrev cX7_readDelay : ByteArray := prog_9_method_8_code
def yX7_readDelay : MethodName := ⟨RX7, "readDelay", "(LWatermarkJoin$Stream;)Z"⟩
abbrev cX7_readJoin : ByteArray := prog_9_method_9_code
def yX7_readJoin : MethodName := ⟨RX7, "readJoin", "(LWatermarkJoin$Stream;)Z"⟩
abbrev cX7_readWindow : ByteArray := prog_9_method_10_code
def yX7_readWindow : MethodName := ⟨RX7, "readWindow", "(LWatermarkJoin$Stream;)Z"⟩
abbrev cX7_readInput : ByteArray := prog_9_method_11_code
def yX7_readInput : MethodName := ⟨RX7, "readInput", "(LWatermarkJoin$Stream;)Z"⟩
abbrev cX7_readSignedNumber : ByteArray := prog_9_method_12_code
def yX7_readSignedNumber : MethodName := ⟨RX7, "readSignedNumber", "(J)Z"⟩
abbrev cX7_readNumber : ByteArray := prog_9_method_13_code
def yX7_readNumber : MethodName := ⟨RX7, "readNumber", "(JJ)Z"⟩
abbrev cX7_isNumber : ByteArray := prog_9_method_14_code
def yX7_isNumber : MethodName := ⟨RX7, "isNumber", "(JJ)Z"⟩
abbrev cX7_readKeyword : ByteArray := prog_9_method_15_code
def yX7_readKeyword : MethodName := ⟨RX7, "readKeyword", "(J)Z"⟩
abbrev cX7_readSign : ByteArray := prog_9_method_16_code
def yX7_readSign : MethodName := ⟨RX7, "readSign", "(I)Z"⟩
abbrev cX7_isKeyword : ByteArray := prog_9_method_17_code
def yX7_isKeyword : MethodName := ⟨RX7, "isKeyword", "(J)Z"⟩
abbrev cX7_isSign : ByteArray := prog_9_method_18_code
def yX7_isSign : MethodName := ⟨RX7, "isSign", "(I)Z"⟩
abbrev cX7_refuseToken : ByteArray := prog_9_method_19_code
def yX7_refuseToken : MethodName := ⟨RX7, "refuseToken", "()Z"⟩
abbrev cX7_refuse : ByteArray := prog_9_method_20_code
def yX7_refuse : MethodName := ⟨RX7, "refuse", "(I)Z"⟩
def RX8 : String := "WatermarkJoin$Tickets"
def TX8 : u_T := fun k => match k with
  | 0 => ("WatermarkJoin$Tickets", "holders", "[I", true)
  | 1 => ("WatermarkJoin$Tickets", "times", "[J", true)
  | 2 => ("WatermarkJoin$Tickets", "held", "[Z", true)
  | _ => ("WatermarkJoin$Tickets", "given", "I", false)
def tyX8 : Nat → FieldType := fun k => match k with
  | 0 => .array .int
  | 1 => .array .long
  | 2 => .array .boolean
  | _ => .int
theorem nmX8 : ∀ a, a < 4 → ∀ b, b < 4 → a ≠ b → (TX8 a).2.1 ≠ (TX8 b).2.1 := by decide +kernel
theorem tyX8_ok : ∀ k, k < 4 → parseFieldDescriptor (TX8 k).2.2.1 = some (tyX8 k) := by decide +kernel
abbrev cX8_init : ByteArray := prog_10_method_1_code
def yX8_init : MethodName := ⟨RX8, "<init>", "()V"⟩
abbrev cX8_give : ByteArray := prog_10_method_2_code
def yX8_give : MethodName := ⟨RX8, "give", "(IJ)I"⟩
abbrev cX8_isHeld : ByteArray := prog_10_method_3_code
def yX8_isHeld : MethodName := ⟨RX8, "isHeld", "(I)Z"⟩
abbrev cX8_countAll : ByteArray := prog_10_method_4_code
def yX8_countAll : MethodName := ⟨RX8, "countAll", "()I"⟩
abbrev cX8_countIn : ByteArray := prog_10_method_5_code
def yX8_countIn : MethodName := ⟨RX8, "countIn", "(I)I"⟩
abbrev cX8_leastIn : ByteArray := prog_10_method_6_code
def yX8_leastIn : MethodName := ⟨RX8, "leastIn", "(I)J"⟩
def RX9 : String := "WatermarkJoin$Window"
def TX9 : u_T := fun k => match k with
  | 0 => ("WatermarkJoin$Window", "size", "J", true)
  | 1 => ("WatermarkJoin$Window", "step", "J", true)
  | 2 => ("WatermarkJoin$Window", "beginnings", "[J", true)
  | 3 => ("WatermarkJoin$Window", "keys", "[I", true)
  | 4 => ("WatermarkJoin$Window", "sums", "[I", true)
  | _ => ("WatermarkJoin$Window", "count", "I", false)
def tyX9 : Nat → FieldType := fun k => match k with
  | 0 => .long
  | 1 => .long
  | 2 => .array .long
  | 3 => .array .int
  | 4 => .array .int
  | _ => .int
theorem nmX9 : ∀ a, a < 6 → ∀ b, b < 6 → a ≠ b → (TX9 a).2.1 ≠ (TX9 b).2.1 := by decide +kernel
theorem tyX9_ok : ∀ k, k < 6 → parseFieldDescriptor (TX9 k).2.2.1 = some (tyX9 k) := by decide +kernel
abbrev cX9_init : ByteArray := prog_11_method_1_code
def yX9_init : MethodName := ⟨RX9, "<init>", "(JJ)V"⟩
abbrev cX9_add : ByteArray := prog_11_method_2_code
def yX9_add : MethodName := ⟨RX9, "add", "(JII)I"⟩
abbrev cX9_addTo : ByteArray := prog_11_method_3_code
def yX9_addTo : MethodName := ⟨RX9, "addTo", "(JII)Z"⟩
abbrev cX9_isAhead : ByteArray := prog_11_method_4_code
def yX9_isAhead : MethodName := ⟨RX9, "isAhead", "(IJI)Z"⟩
abbrev cX9_put : ByteArray := prog_11_method_5_code
def yX9_put : MethodName := ⟨RX9, "put", "(IJII)V"⟩
abbrev cX9_lastTime : ByteArray := prog_11_method_6_code
def yX9_lastTime : MethodName := ⟨RX9, "lastTime", "(I)J"⟩
abbrev cX9_dropFirst : ByteArray := prog_11_method_7_code
def yX9_dropFirst : MethodName := ⟨RX9, "dropFirst", "()V"⟩
def RX10 : String := "WatermarkJoin"
def TX10 : u_T := fun k => match k with
  | 0 => ("WatermarkJoin", "tape", "LWatermarkJoin$Bytes;", true)
  | 1 => ("WatermarkJoin", "page", "LWatermarkJoin$Bytes;", true)
  | 2 => ("WatermarkJoin", "outs", "LWatermarkJoin$Notes;", true)
  | 3 => ("WatermarkJoin", "lates", "LWatermarkJoin$Notes;", true)
  | 4 => ("WatermarkJoin", "graph", "LWatermarkJoin$Graph;", false)
  | _ => ("WatermarkJoin", "fault", "I", false)
def tyX10 : Nat → FieldType := fun k => match k with
  | 0 => .object "WatermarkJoin$Bytes"
  | 1 => .object "WatermarkJoin$Bytes"
  | 2 => .object "WatermarkJoin$Notes"
  | 3 => .object "WatermarkJoin$Notes"
  | 4 => .object "WatermarkJoin$Graph"
  | _ => .int
theorem nmX10 : ∀ a, a < 6 → ∀ b, b < 6 → a ≠ b → (TX10 a).2.1 ≠ (TX10 b).2.1 := by decide +kernel
theorem tyX10_ok : ∀ k, k < 6 → parseFieldDescriptor (TX10 k).2.2.1 = some (tyX10 k) := by decide +kernel
abbrev cX10_init : ByteArray := prog_1_method_1_code
def yX10_init : MethodName := ⟨RX10, "<init>", "()V"⟩
abbrev cX10_feed : ByteArray := prog_1_method_2_code
def yX10_feed : MethodName := ⟨RX10, "feed", "(JI)I"⟩
abbrev cX10_build : ByteArray := prog_1_method_3_code
def yX10_build : MethodName := ⟨RX10, "build", "()I"⟩
abbrev cX10_fault : ByteArray := prog_1_method_4_code
def yX10_fault : MethodName := ⟨RX10, "fault", "()I"⟩
abbrev cX10_row : ByteArray := prog_1_method_5_code
def yX10_row : MethodName := ⟨RX10, "row", "(IIJI)I"⟩
abbrev cX10_mark : ByteArray := prog_1_method_6_code
def yX10_mark : MethodName := ⟨RX10, "mark", "(IIJ)I"⟩
abbrev cX10_end : ByteArray := prog_1_method_7_code
def yX10_end : MethodName := ⟨RX10, "end", "(II)I"⟩
abbrev cX10_idle : ByteArray := prog_1_method_8_code
def yX10_idle : MethodName := ⟨RX10, "idle", "(IIZ)I"⟩
abbrev cX10_turn : ByteArray := prog_1_method_9_code
def yX10_turn : MethodName := ⟨RX10, "turn", "(I)I"⟩
abbrev cX10_hold : ByteArray := prog_1_method_10_code
def yX10_hold : MethodName := ⟨RX10, "hold", "(IJ)I"⟩
abbrev cX10_release : ByteArray := prog_1_method_11_code
def yX10_release : MethodName := ⟨RX10, "release", "(IZI)I"⟩
abbrev cX10_watermark : ByteArray := prog_1_method_12_code
def yX10_watermark : MethodName := ⟨RX10, "watermark", "(I)J"⟩
abbrev cX10_isIdle : ByteArray := prog_1_method_13_code
def yX10_isIdle : MethodName := ⟨RX10, "isIdle", "(I)Z"⟩
abbrev cX10_promise : ByteArray := prog_1_method_14_code
def yX10_promise : MethodName := ⟨RX10, "promise", "(II)J"⟩
abbrev cX10_part : ByteArray := prog_1_method_15_code
def yX10_part : MethodName := ⟨RX10, "part", "(II)I"⟩
abbrev cX10_kept : ByteArray := prog_1_method_16_code
def yX10_kept : MethodName := ⟨RX10, "kept", "(II)I"⟩
abbrev cX10_out : ByteArray := prog_1_method_17_code
def yX10_out : MethodName := ⟨RX10, "out", "(II)J"⟩
abbrev cX10_late : ByteArray := prog_1_method_18_code
def yX10_late : MethodName := ⟨RX10, "late", "(II)J"⟩
abbrev cX10_told : ByteArray := prog_1_method_19_code
def yX10_told : MethodName := ⟨RX10, "told", "(I)I"⟩
abbrev cX10_print : ByteArray := prog_1_method_20_code
def yX10_print : MethodName := ⟨RX10, "print", "()I"⟩
abbrev cX10_letter : ByteArray := prog_1_method_21_code
def yX10_letter : MethodName := ⟨RX10, "letter", "(I)I"⟩
abbrev cX10_streamOrNull : ByteArray := prog_1_method_22_code
def yX10_streamOrNull : MethodName := ⟨RX10, "streamOrNull", "(I)LWatermarkJoin$Stream;"⟩
abbrev cX10_streamOrThrow : ByteArray := prog_1_method_23_code
def yX10_streamOrThrow : MethodName := ⟨RX10, "streamOrThrow", "(I)LWatermarkJoin$Stream;"⟩
abbrev cX10_sourceWith : ByteArray := prog_1_method_24_code
def yX10_sourceWith : MethodName := ⟨RX10, "sourceWith", "(II)LWatermarkJoin$Stream;"⟩
abbrev cX10_isTime : ByteArray := prog_1_method_25_code
def yX10_isTime : MethodName := ⟨RX10, "isTime", "(J)Z"⟩
abbrev cX10_isKey : ByteArray := prog_1_method_26_code
def yX10_isKey : MethodName := ⟨RX10, "isKey", "(I)Z"⟩
abbrev cX10_together : ByteArray := prog_1_method_27_code
def yX10_together : MethodName := ⟨RX10, "together", "(JJ)J"⟩
def RX11 : String := "WatermarkJoinModel"
def TX11 : u_T := fun k => match k with
  | 0 => ("WatermarkJoinModel", "code", "I", false)
  | 1 => ("WatermarkJoinModel", "tape", "[B", true)
  | 2 => ("WatermarkJoinModel", "taped", "I", false)
  | 3 => ("WatermarkJoinModel", "pos", "I", false)
  | 4 => ("WatermarkJoinModel", "token", "I", false)
  | 5 => ("WatermarkJoinModel", "place", "I", false)
  | 6 => ("WatermarkJoinModel", "amount", "J", false)
  | 7 => ("WatermarkJoinModel", "keyword", "I", false)
  | 8 => ("WatermarkJoinModel", "faultNumber", "I", false)
  | 9 => ("WatermarkJoinModel", "faultPlace", "I", false)
  | 10 => ("WatermarkJoinModel", "lastFault", "I", false)
  | 11 => ("WatermarkJoinModel", "kind", "[I", true)
  | 12 => ("WatermarkJoinModel", "names", "[J", true)
  | 13 => ("WatermarkJoinModel", "nameSize", "[I", true)
  | 14 => ("WatermarkJoinModel", "parts", "[I", true)
  | 15 => ("WatermarkJoinModel", "hasLag", "[Z", true)
  | 16 => ("WatermarkJoinModel", "one", "[J", true)
  | 17 => ("WatermarkJoinModel", "two", "[J", true)
  | 18 => ("WatermarkJoinModel", "after", "[I", true)
  | 19 => ("WatermarkJoinModel", "group", "[I", true)
  | 20 => ("WatermarkJoinModel", "inputs", "[I", true)
  | 21 => ("WatermarkJoinModel", "input", "[I", true)
  | 22 => ("WatermarkJoinModel", "taker", "[I", true)
  | 23 => ("WatermarkJoinModel", "isAligned", "[Z", true)
  | 24 => ("WatermarkJoinModel", "span", "[J", true)
  | 25 => ("WatermarkJoinModel", "count", "[I", true)
  | 26 => ("WatermarkJoinModel", "joins", "I", false)
  | 27 => ("WatermarkJoinModel", "windows", "I", false)
  | 28 => ("WatermarkJoinModel", "isBuilt", "Z", false)
  | 29 => ("WatermarkJoinModel", "mark", "[J", true)
  | 30 => ("WatermarkJoinModel", "isIdle", "[Z", true)
  | 31 => ("WatermarkJoinModel", "partState", "[I", true)
  | 32 => ("WatermarkJoinModel", "promise", "[J", true)
  | 33 => ("WatermarkJoinModel", "heard", "[I", true)
  | 34 => ("WatermarkJoinModel", "now", "I", false)
  | 35 => ("WatermarkJoinModel", "outs", "I", false)
  | 36 => ("WatermarkJoinModel", "outRows", "[J", true)
  | 37 => ("WatermarkJoinModel", "lates", "I", false)
  | 38 => ("WatermarkJoinModel", "lateRows", "[J", true)
  | 39 => ("WatermarkJoinModel", "lost", "I", false)
  | 40 => ("WatermarkJoinModel", "open", "[I", true)
  | 41 => ("WatermarkJoinModel", "openBegin", "[J", true)
  | 42 => ("WatermarkJoinModel", "openKey", "[I", true)
  | 43 => ("WatermarkJoinModel", "openSum", "[I", true)
  | 44 => ("WatermarkJoinModel", "kept", "[I", true)
  | 45 => ("WatermarkJoinModel", "keptTime", "[J", true)
  | 46 => ("WatermarkJoinModel", "keptKey", "[I", true)
  | 47 => ("WatermarkJoinModel", "keptWeight", "[I", true)
  | 48 => ("WatermarkJoinModel", "tickets", "I", false)
  | 49 => ("WatermarkJoinModel", "ticketStream", "[I", true)
  | 50 => ("WatermarkJoinModel", "ticketTime", "[J", true)
  | 51 => ("WatermarkJoinModel", "isHeld", "[Z", true)
  | 52 => ("WatermarkJoinModel", "hasGoal", "Z", false)
  | 53 => ("WatermarkJoinModel", "goal", "J", false)
  | 54 => ("WatermarkJoinModel", "sleeps", "[Z", true)
  | 55 => ("WatermarkJoinModel", "written", "[B", true)
  | _ => ("WatermarkJoinModel", "size", "I", false)
def tyX11 : Nat → FieldType := fun k => match k with
  | 0 => .int
  | 1 => .array .byte
  | 2 => .int
  | 3 => .int
  | 4 => .int
  | 5 => .int
  | 6 => .long
  | 7 => .int
  | 8 => .int
  | 9 => .int
  | 10 => .int
  | 11 => .array .int
  | 12 => .array .long
  | 13 => .array .int
  | 14 => .array .int
  | 15 => .array .boolean
  | 16 => .array .long
  | 17 => .array .long
  | 18 => .array .int
  | 19 => .array .int
  | 20 => .array .int
  | 21 => .array .int
  | 22 => .array .int
  | 23 => .array .boolean
  | 24 => .array .long
  | 25 => .array .int
  | 26 => .int
  | 27 => .int
  | 28 => .boolean
  | 29 => .array .long
  | 30 => .array .boolean
  | 31 => .array .int
  | 32 => .array .long
  | 33 => .array .int
  | 34 => .int
  | 35 => .int
  | 36 => .array .long
  | 37 => .int
  | 38 => .array .long
  | 39 => .int
  | 40 => .array .int
  | 41 => .array .long
  | 42 => .array .int
  | 43 => .array .int
  | 44 => .array .int
  | 45 => .array .long
  | 46 => .array .int
  | 47 => .array .int
  | 48 => .int
  | 49 => .array .int
  | 50 => .array .long
  | 51 => .array .boolean
  | 52 => .boolean
  | 53 => .long
  | 54 => .array .boolean
  | 55 => .array .byte
  | _ => .int
theorem nmX11 : ∀ a, a < 57 → ∀ b, b < 57 → a ≠ b → (TX11 a).2.1 ≠ (TX11 b).2.1 := by decide +kernel
theorem tyX11_ok : ∀ k, k < 57 → parseFieldDescriptor (TX11 k).2.2.1 = some (tyX11 k) := by decide +kernel
abbrev cX11_init : ByteArray := prog_13_method_1_code
def yX11_init : MethodName := ⟨RX11, "<init>", "()V"⟩
abbrev cX11_thrown : ByteArray := prog_13_method_2_code
def yX11_thrown : MethodName := ⟨RX11, "thrown", "()I"⟩
abbrev cX11_feed : ByteArray := prog_13_method_3_code
def yX11_feed : MethodName := ⟨RX11, "feed", "(JI)I"⟩
abbrev cX11_byteAt : ByteArray := prog_13_method_4_code
def yX11_byteAt : MethodName := ⟨RX11, "byteAt", "(I)I"⟩
abbrev cX11_isLetter : ByteArray := prog_13_method_5_code
def yX11_isLetter : MethodName := ⟨RX11, "isLetter", "(I)Z"⟩
abbrev cX11_isDigit : ByteArray := prog_13_method_6_code
def yX11_isDigit : MethodName := ⟨RX11, "isDigit", "(I)Z"⟩
abbrev cX11_next : ByteArray := prog_13_method_7_code
def yX11_next : MethodName := ⟨RX11, "next", "()V"⟩
abbrev cX11_findKeyword : ByteArray := prog_13_method_8_code
def yX11_findKeyword : MethodName := ⟨RX11, "findKeyword", "(I)V"⟩
abbrev cX11_fault : ByteArray := prog_13_method_9_code
def yX11_fault : MethodName := ⟨RX11, "fault", "(I)V"⟩
abbrev cX11_misplaced : ByteArray := prog_13_method_10_code
def yX11_misplaced : MethodName := ⟨RX11, "misplaced", "()V"⟩
abbrev cX11_good : ByteArray := prog_13_method_11_code
def yX11_good : MethodName := ⟨RX11, "good", "()Z"⟩
abbrev cX11_isName : ByteArray := prog_13_method_12_code
def yX11_isName : MethodName := ⟨RX11, "isName", "()Z"⟩
abbrev cX11_isKeyword : ByteArray := prog_13_method_13_code
def yX11_isKeyword : MethodName := ⟨RX11, "isKeyword", "(I)Z"⟩
abbrev cX11_takeKeyword : ByteArray := prog_13_method_14_code
def yX11_takeKeyword : MethodName := ⟨RX11, "takeKeyword", "(I)V"⟩
abbrev cX11_takeSign : ByteArray := prog_13_method_15_code
def yX11_takeSign : MethodName := ⟨RX11, "takeSign", "(I)V"⟩
abbrev cX11_takeNumber : ByteArray := prog_13_method_16_code
def yX11_takeNumber : MethodName := ⟨RX11, "takeNumber", "(JJ)J"⟩
abbrev cX11_findName : ByteArray := prog_13_method_17_code
def yX11_findName : MethodName := ⟨RX11, "findName", "(J)I"⟩
abbrev cX11_statement : ByteArray := prog_13_method_18_code
def yX11_statement : MethodName := ⟨RX11, "statement", "()V"⟩
abbrev cX11_body : ByteArray := prog_13_method_19_code
def yX11_body : MethodName := ⟨RX11, "body", "(I)V"⟩
abbrev cX11_source : ByteArray := prog_13_method_20_code
def yX11_source : MethodName := ⟨RX11, "source", "(I)V"⟩
abbrev cX11_takeInput : ByteArray := prog_13_method_21_code
def yX11_takeInput : MethodName := ⟨RX11, "takeInput", "(I)V"⟩
abbrev cX11_join : ByteArray := prog_13_method_22_code
def yX11_join : MethodName := ⟨RX11, "join", "(I)V"⟩
abbrev cX11_takeSigned : ByteArray := prog_13_method_23_code
def yX11_takeSigned : MethodName := ⟨RX11, "takeSigned", "(J)J"⟩
abbrev cX11_window : ByteArray := prog_13_method_24_code
def yX11_window : MethodName := ⟨RX11, "window", "(I)V"⟩
abbrev cX11_align : ByteArray := prog_13_method_25_code
def yX11_align : MethodName := ⟨RX11, "align", "()V"⟩
abbrev cX11_build : ByteArray := prog_13_method_26_code
def yX11_build : MethodName := ⟨RX11, "build", "()I"⟩
abbrev cX11_stand : ByteArray := prog_13_method_27_code
def yX11_stand : MethodName := ⟨RX11, "stand", "()V"⟩
abbrev cX11_fault_ : ByteArray := prog_13_method_28_code
def yX11_fault_ : MethodName := ⟨RX11, "fault", "()I"⟩
abbrev cX11_plus : ByteArray := prog_13_method_29_code
def yX11_plus : MethodName := ⟨RX11, "plus", "(JJ)J"⟩
abbrev cX11_kindOf : ByteArray := prog_13_method_30_code
def yX11_kindOf : MethodName := ⟨RX11, "kindOf", "(I)I"⟩
abbrev cX11_inputOf : ByteArray := prog_13_method_31_code
def yX11_inputOf : MethodName := ⟨RX11, "inputOf", "(II)I"⟩
abbrev cX11_note : ByteArray := prog_13_method_32_code
def yX11_note : MethodName := ⟨RX11, "note", "([JIIIJII)V"⟩
abbrev cX11_late : ByteArray := prog_13_method_33_code
def yX11_late : MethodName := ⟨RX11, "late", "(IJII)V"⟩
abbrev cX11_pass : ByteArray := prog_13_method_34_code
def yX11_pass : MethodName := ⟨RX11, "pass", "(IJII)V"⟩
abbrev cX11_put : ByteArray := prog_13_method_35_code
def yX11_put : MethodName := ⟨RX11, "put", "(IJII)V"⟩
abbrev cX11_isFar : ByteArray := prog_13_method_36_code
def yX11_isFar : MethodName := ⟨RX11, "isFar", "(IIJ)Z"⟩
abbrev cX11_meet : ByteArray := prog_13_method_37_code
def yX11_meet : MethodName := ⟨RX11, "meet", "(IIJII)V"⟩
abbrev cX11_drop : ByteArray := prog_13_method_38_code
def yX11_drop : MethodName := ⟨RX11, "drop", "(II)V"⟩
abbrev cX11_least : ByteArray := prog_13_method_39_code
def yX11_least : MethodName := ⟨RX11, "least", "(J)V"⟩
abbrev cX11_findGoal : ByteArray := prog_13_method_40_code
def yX11_findGoal : MethodName := ⟨RX11, "findGoal", "(I)V"⟩
abbrev cX11_sourceGoal : ByteArray := prog_13_method_41_code
def yX11_sourceGoal : MethodName := ⟨RX11, "sourceGoal", "(I)V"⟩
abbrev cX11_holdGoal : ByteArray := prog_13_method_42_code
def yX11_holdGoal : MethodName := ⟨RX11, "holdGoal", "(I)V"⟩
abbrev cX11_reckon : ByteArray := prog_13_method_43_code
def yX11_reckon : MethodName := ⟨RX11, "reckon", "()V"⟩
abbrev cX11_close : ByteArray := prog_13_method_44_code
def yX11_close : MethodName := ⟨RX11, "close", "(I)V"⟩
abbrev cX11_isStream : ByteArray := prog_13_method_45_code
def yX11_isStream : MethodName := ⟨RX11, "isStream", "(I)Z"⟩
abbrev cX11_isPart : ByteArray := prog_13_method_46_code
def yX11_isPart : MethodName := ⟨RX11, "isPart", "(II)Z"⟩
abbrev cX11_isTime : ByteArray := prog_13_method_47_code
def yX11_isTime : MethodName := ⟨RX11, "isTime", "(J)Z"⟩
abbrev cX11_isStopped : ByteArray := prog_13_method_48_code
def yX11_isStopped : MethodName := ⟨RX11, "isStopped", "(II)Z"⟩
abbrev cX11_hear : ByteArray := prog_13_method_49_code
def yX11_hear : MethodName := ⟨RX11, "hear", "(II)V"⟩
abbrev cX11_row : ByteArray := prog_13_method_50_code
def yX11_row : MethodName := ⟨RX11, "row", "(IIJI)I"⟩
abbrev cX11_mark : ByteArray := prog_13_method_51_code
def yX11_mark : MethodName := ⟨RX11, "mark", "(IIJ)I"⟩
abbrev cX11_end : ByteArray := prog_13_method_52_code
def yX11_end : MethodName := ⟨RX11, "end", "(II)I"⟩
abbrev cX11_idle : ByteArray := prog_13_method_53_code
def yX11_idle : MethodName := ⟨RX11, "idle", "(IIZ)I"⟩
abbrev cX11_turn : ByteArray := prog_13_method_54_code
def yX11_turn : MethodName := ⟨RX11, "turn", "(I)I"⟩
abbrev cX11_hold : ByteArray := prog_13_method_55_code
def yX11_hold : MethodName := ⟨RX11, "hold", "(IJ)I"⟩
abbrev cX11_release : ByteArray := prog_13_method_56_code
def yX11_release : MethodName := ⟨RX11, "release", "(IZI)I"⟩
abbrev cX11_mustBe : ByteArray := prog_13_method_57_code
def yX11_mustBe : MethodName := ⟨RX11, "mustBe", "(I)Z"⟩
abbrev cX11_watermark : ByteArray := prog_13_method_58_code
def yX11_watermark : MethodName := ⟨RX11, "watermark", "(I)J"⟩
abbrev cX11_isIdle : ByteArray := prog_13_method_59_code
def yX11_isIdle : MethodName := ⟨RX11, "isIdle", "(I)Z"⟩
abbrev cX11_promise : ByteArray := prog_13_method_60_code
def yX11_promise : MethodName := ⟨RX11, "promise", "(II)J"⟩
abbrev cX11_part : ByteArray := prog_13_method_61_code
def yX11_part : MethodName := ⟨RX11, "part", "(II)I"⟩
abbrev cX11_kept : ByteArray := prog_13_method_62_code
def yX11_kept : MethodName := ⟨RX11, "kept", "(II)I"⟩
abbrev cX11_heldIn : ByteArray := prog_13_method_63_code
def yX11_heldIn : MethodName := ⟨RX11, "heldIn", "(I)I"⟩
abbrev cX11_noted : ByteArray := prog_13_method_64_code
def yX11_noted : MethodName := ⟨RX11, "noted", "([JIIII)J"⟩
abbrev cX11_out : ByteArray := prog_13_method_65_code
def yX11_out : MethodName := ⟨RX11, "out", "(II)J"⟩
abbrev cX11_late_ : ByteArray := prog_13_method_66_code
def yX11_late_ : MethodName := ⟨RX11, "late", "(II)J"⟩
abbrev cX11_partsThat : ByteArray := prog_13_method_67_code
def yX11_partsThat : MethodName := ⟨RX11, "partsThat", "(Z)I"⟩
abbrev cX11_told : ByteArray := prog_13_method_68_code
def yX11_told : MethodName := ⟨RX11, "told", "(I)I"⟩
abbrev cX11_say : ByteArray := prog_13_method_69_code
def yX11_say : MethodName := ⟨RX11, "say", "(I)V"⟩
abbrev cX11_sayAll : ByteArray := prog_13_method_70_code
def yX11_sayAll : MethodName := ⟨RX11, "sayAll", "(Ljava/lang/String;)V"⟩
abbrev cX11_sayNumber : ByteArray := prog_13_method_71_code
def yX11_sayNumber : MethodName := ⟨RX11, "sayNumber", "(J)V"⟩
abbrev cX11_wordOf : ByteArray := prog_13_method_72_code
def yX11_wordOf : MethodName := ⟨RX11, "wordOf", "(I)Ljava/lang/String;"⟩
abbrev cX11_print : ByteArray := prog_13_method_73_code
def yX11_print : MethodName := ⟨RX11, "print", "()I"⟩
abbrev cX11_letter : ByteArray := prog_13_method_74_code
def yX11_letter : MethodName := ⟨RX11, "letter", "(I)I"⟩
def RJ11 : String := "java/lang/Character"
def TJ11 : u_T := fun k => match k with
  | _ => ("", "", "", false)
def tyJ11 : Nat → FieldType := fun k => match k with
  | _ => .int
theorem nmJ11 : ∀ a, a < 0 → ∀ b, b < 0 → a ≠ b → (TJ11 a).2.1 ≠ (TJ11 b).2.1 := by decide +kernel
theorem tyJ11_ok : ∀ k, k < 0 → parseFieldDescriptor (TJ11 k).2.2.1 = some (tyJ11 k) := by decide +kernel
abbrev cJ11_isValidCodePoint_9a6ad : ByteArray := prog_14_method_11_code
def yJ11_isValidCodePoint_9a6ad : MethodName := ⟨RJ11, "isValidCodePoint", "(I)Z"⟩
abbrev cJ11_highSurrogate_5068e : ByteArray := prog_14_method_28_code
def yJ11_highSurrogate_5068e : MethodName := ⟨RJ11, "highSurrogate", "(I)C"⟩
abbrev cJ11_lowSurrogate_5068e : ByteArray := prog_14_method_29_code
def yJ11_lowSurrogate_5068e : MethodName := ⟨RJ11, "lowSurrogate", "(I)C"⟩
def RJ9 : String := "java/lang/Math"
def TJ9 : u_T := fun k => match k with
  | _ => ("", "", "", false)
def tyJ9 : Nat → FieldType := fun k => match k with
  | _ => .int
theorem nmJ9 : ∀ a, a < 0 → ∀ b, b < 0 → a ≠ b → (TJ9 a).2.1 ≠ (TJ9 b).2.1 := by decide +kernel
theorem tyJ9_ok : ∀ k, k < 0 → parseFieldDescriptor (TJ9 k).2.2.1 = some (tyJ9 k) := by decide +kernel
abbrev cJ9_floorDiv_f86c9 : ByteArray := prog_18_method_49_code
def yJ9_floorDiv_f86c9 : MethodName := ⟨RJ9, "floorDiv", "(JJ)J"⟩
abbrev cJ9_max_7cf53 : ByteArray := prog_18_method_65_code
def yJ9_max_7cf53 : MethodName := ⟨RJ9, "max", "(II)I"⟩
abbrev cJ9_max_f86c9 : ByteArray := prog_18_method_66_code
def yJ9_max_f86c9 : MethodName := ⟨RJ9, "max", "(JJ)J"⟩
abbrev cJ9_min_7cf53 : ByteArray := prog_18_method_69_code
def yJ9_min_7cf53 : MethodName := ⟨RJ9, "min", "(II)I"⟩
abbrev cJ9_min_f86c9 : ByteArray := prog_18_method_70_code
def yJ9_min_f86c9 : MethodName := ⟨RJ9, "min", "(JJ)J"⟩
def RJ0 : String := "java/lang/String"
def TJ0 : u_T := fun k => match k with
  | _ => ("", "", "", false)
def tyJ0 : Nat → FieldType := fun k => match k with
  | _ => .int
theorem nmJ0 : ∀ a, a < 0 → ∀ b, b < 0 → a ≠ b → (TJ0 a).2.1 ≠ (TJ0 b).2.1 := by decide +kernel
theorem tyJ0_ok : ∀ k, k < 0 → parseFieldDescriptor (TJ0 k).2.2.1 = some (tyJ0 k) := by decide +kernel
abbrev cJ0_length_8abf5 : ByteArray := prog_20_method_54_code
def yJ0_length_8abf5 : MethodName := ⟨RJ0, "length", "()I"⟩
abbrev cJ0_charAt_5068e : ByteArray := prog_20_method_56_code
def yJ0_charAt_5068e : MethodName := ⟨RJ0, "charAt", "(I)C"⟩
abbrev cJ0_indexOf_7cf53 : ByteArray := prog_20_method_80_code
def yJ0_indexOf_7cf53 : MethodName := ⟨RJ0, "indexOf", "(II)I"⟩
abbrev cJ0_coder_7d493 : ByteArray := prog_20_method_152_code
def yJ0_coder_7d493 : MethodName := ⟨RJ0, "coder", "()B"⟩
abbrev cJ0_isLatin1_aae02 : ByteArray := prog_20_method_154_code
def yJ0_isLatin1_aae02 : MethodName := ⟨RJ0, "isLatin1", "()Z"⟩
abbrev cJ0_checkIndex_df160 : ByteArray := prog_20_method_155_code
def yJ0_checkIndex_df160 : MethodName := ⟨RJ0, "checkIndex", "(II)V"⟩
abbrev cJ0_checkBoundsBeginEnd_23922 : ByteArray := prog_20_method_158_code
def yJ0_checkBoundsBeginEnd_23922 : MethodName := ⟨RJ0, "checkBoundsBeginEnd", "(III)V"⟩
def RJ1 : String := "java/lang/StringLatin1"
def TJ1 : u_T := fun k => match k with
  | _ => ("", "", "", false)
def tyJ1 : Nat → FieldType := fun k => match k with
  | _ => .int
theorem nmJ1 : ∀ a, a < 0 → ∀ b, b < 0 → a ≠ b → (TJ1 a).2.1 ≠ (TJ1 b).2.1 := by decide +kernel
theorem tyJ1_ok : ∀ k, k < 0 → parseFieldDescriptor (TJ1 k).2.2.1 = some (tyJ1 k) := by decide +kernel
abbrev cJ1_charAt_3b067 : ByteArray := prog_21_method_2_code
def yJ1_charAt_3b067 : MethodName := ⟨RJ1, "charAt", "([BI)C"⟩
abbrev cJ1_canEncode_9a6ad : ByteArray := prog_21_method_4_code
def yJ1_canEncode_9a6ad : MethodName := ⟨RJ1, "canEncode", "(I)Z"⟩
abbrev cJ1_indexOf_4cfef : ByteArray := prog_21_method_22_code
def yJ1_indexOf_4cfef : MethodName := ⟨RJ1, "indexOf", "([BIII)I"⟩
abbrev cJ1_indexOfChar_4cfef : ByteArray := prog_21_method_23_code
def yJ1_indexOfChar_4cfef : MethodName := ⟨RJ1, "indexOfChar", "([BIII)I"⟩
def RJ2 : String := "java/lang/StringUTF16"
def TJ2 : u_T := fun k => match k with
  | _ => ("", "", "", false)
def tyJ2 : Nat → FieldType := fun k => match k with
  | _ => .int
theorem nmJ2 : ∀ a, a < 0 → ∀ b, b < 0 → a ≠ b → (TJ2 a).2.1 ≠ (TJ2 b).2.1 := by decide +kernel
theorem tyJ2_ok : ∀ k, k < 0 → parseFieldDescriptor (TJ2 k).2.2.1 = some (tyJ2 k) := by decide +kernel
abbrev cJ2_getChar_3b067 : ByteArray := prog_22_method_5_code
def yJ2_getChar_3b067 : MethodName := ⟨RJ2, "getChar", "([BI)C"⟩
abbrev cJ2_length_9d52b : ByteArray := prog_22_method_6_code
def yJ2_length_9d52b : MethodName := ⟨RJ2, "length", "([B)I"⟩
abbrev cJ2_indexOf_4cfef : ByteArray := prog_22_method_40_code
def yJ2_indexOf_4cfef : MethodName := ⟨RJ2, "indexOf", "([BIII)I"⟩
abbrev cJ2_indexOfChar_4cfef : ByteArray := prog_22_method_47_code
def yJ2_indexOfChar_4cfef : MethodName := ⟨RJ2, "indexOfChar", "([BIII)I"⟩
abbrev cJ2_indexOfCharUnsafe_4cfef : ByteArray := prog_22_method_48_code
def yJ2_indexOfCharUnsafe_4cfef : MethodName := ⟨RJ2, "indexOfCharUnsafe", "([BIII)I"⟩
abbrev cJ2_indexOfSupplementary_4cfef : ByteArray := prog_22_method_49_code
def yJ2_indexOfSupplementary_4cfef : MethodName := ⟨RJ2, "indexOfSupplementary", "([BIII)I"⟩
abbrev cJ2_charAt_3b067 : ByteArray := prog_22_method_83_code
def yJ2_charAt_3b067 : MethodName := ⟨RJ2, "charAt", "([BI)C"⟩
abbrev cJ2_checkIndex_2214a : ByteArray := prog_22_method_91_code
def yJ2_checkIndex_2214a : MethodName := ⟨RJ2, "checkIndex", "(I[B)V"⟩
abbrev cJ2_checkBoundsBeginEnd_d044e : ByteArray := prog_22_method_93_code
def yJ2_checkBoundsBeginEnd_d044e : MethodName := ⟨RJ2, "checkBoundsBeginEnd", "(II[B)V"⟩
def RJ10 : String := "java/lang/System"
def TJ10 : u_T := fun k => match k with
  | _ => ("", "", "", false)
def tyJ10 : Nat → FieldType := fun k => match k with
  | _ => .int
theorem nmJ10 : ∀ a, a < 0 → ∀ b, b < 0 → a ≠ b → (TJ10 a).2.1 ≠ (TJ10 b).2.1 := by decide +kernel
theorem tyJ10_ok : ∀ k, k < 0 → parseFieldDescriptor (TJ10 k).2.2.1 = some (tyJ10 k) := by decide +kernel
def RJ3 : String := "jdk/internal/util/Preconditions"
def TJ3 : u_T := fun k => match k with
  | _ => ("", "", "", false)
def tyJ3 : Nat → FieldType := fun k => match k with
  | _ => .int
theorem nmJ3 : ∀ a, a < 0 → ∀ b, b < 0 → a ≠ b → (TJ3 a).2.1 ≠ (TJ3 b).2.1 := by decide +kernel
theorem tyJ3_ok : ∀ k, k < 0 → parseFieldDescriptor (TJ3 k).2.2.1 = some (tyJ3 k) := by decide +kernel
abbrev cJ3_checkIndex_8e157 : ByteArray := prog_25_method_11_code
def yJ3_checkIndex_8e157 : MethodName := ⟨RJ3, "checkIndex", "(IILjava/util/function/BiFunction;)I"⟩
abbrev cJ3_checkFromToIndex_8c36e : ByteArray := prog_25_method_12_code
def yJ3_checkFromToIndex_8c36e : MethodName := ⟨RJ3, "checkFromToIndex", "(IIILjava/util/function/BiFunction;)I"⟩
def RL : String := "WatermarkJoinLaw"
abbrev cL_watermark : ByteArray := method_3_code
def yL_watermark : MethodName := ⟨RL, "watermark", "(LWatermarkJoin;I[J)I"⟩
abbrev cL_isIdle : ByteArray := method_4_code
def yL_isIdle : MethodName := ⟨RL, "isIdle", "(LWatermarkJoin;I[J)I"⟩
abbrev cL_promise : ByteArray := method_5_code
def yL_promise : MethodName := ⟨RL, "promise", "(LWatermarkJoin;II[J)I"⟩
abbrev cL_kept : ByteArray := method_6_code
def yL_kept : MethodName := ⟨RL, "kept", "(LWatermarkJoin;II[J)I"⟩
abbrev cL_out : ByteArray := method_7_code
def yL_out : MethodName := ⟨RL, "out", "(LWatermarkJoin;II[J)I"⟩
abbrev cL_late : ByteArray := method_8_code
def yL_late : MethodName := ⟨RL, "late", "(LWatermarkJoin;II[J)I"⟩
abbrev cL_law : ByteArray := code
def yL_law : MethodName := ⟨RL, "law", "([I)Z"⟩
theorem dX0_init_0 : decode cX0_init 0 = .ok (.aload_n 0, 1) := by decide +kernel
theorem dX0_init_1 : decode cX0_init 1 = .ok (.invokespecial 3, 3) := by decide +kernel
theorem dX0_init_4 : decode cX0_init 4 = .ok (.aload_n 0, 1) := by decide +kernel
theorem dX0_init_5 : decode cX0_init 5 = .ok (.iload_n 1, 1) := by decide +kernel
theorem dX0_init_6 : decode cX0_init 6 = .ok (.newarray .byte, 2) := by decide +kernel
theorem dX0_init_8 : decode cX0_init 8 = .ok (.putfield 9, 3) := by decide +kernel
theorem dX0_init_11 : decode cX0_init 11 = .ok (.return_, 1) := by decide +kernel
theorem dX0_clear_0 : decode cX0_clear 0 = .ok (.aload_n 0, 1) := by decide +kernel
theorem dX0_clear_1 : decode cX0_clear 1 = .ok (.iconst 0, 1) := by decide +kernel
theorem dX0_clear_2 : decode cX0_clear 2 = .ok (.putfield 15, 3) := by decide +kernel
theorem dX0_clear_5 : decode cX0_clear 5 = .ok (.return_, 1) := by decide +kernel
theorem dX0_add_0 : decode cX0_add 0 = .ok (.aload_n 0, 1) := by decide +kernel
theorem dX0_add_1 : decode cX0_add 1 = .ok (.getfield 15, 3) := by decide +kernel
theorem dX0_add_4 : decode cX0_add 4 = .ok (.aload_n 0, 1) := by decide +kernel
theorem dX0_add_5 : decode cX0_add 5 = .ok (.getfield 9, 3) := by decide +kernel
theorem dX0_add_8 : decode cX0_add 8 = .ok (.arraylength, 1) := by decide +kernel
theorem dX0_add_9 : decode cX0_add 9 = .ok (.if_icmp .ge 24, 3) := by decide +kernel
theorem dX0_add_12 : decode cX0_add 12 = .ok (.aload_n 0, 1) := by decide +kernel
theorem dX0_add_13 : decode cX0_add 13 = .ok (.getfield 9, 3) := by decide +kernel
theorem dX0_add_16 : decode cX0_add 16 = .ok (.aload_n 0, 1) := by decide +kernel
theorem dX0_add_17 : decode cX0_add 17 = .ok (.getfield 15, 3) := by decide +kernel
theorem dX0_add_20 : decode cX0_add 20 = .ok (.iload_n 1, 1) := by decide +kernel
theorem dX0_add_21 : decode cX0_add 21 = .ok (.i2b, 1) := by decide +kernel
theorem dX0_add_22 : decode cX0_add 22 = .ok (.bastore, 1) := by decide +kernel
theorem dX0_add_23 : decode cX0_add 23 = .ok (.aload_n 0, 1) := by decide +kernel
theorem dX0_add_24 : decode cX0_add 24 = .ok (.dup, 1) := by decide +kernel
theorem dX0_add_25 : decode cX0_add 25 = .ok (.getfield 15, 3) := by decide +kernel
theorem dX0_add_28 : decode cX0_add 28 = .ok (.iconst 1, 1) := by decide +kernel
theorem dX0_add_29 : decode cX0_add 29 = .ok (.iadd, 1) := by decide +kernel
theorem dX0_add_30 : decode cX0_add 30 = .ok (.putfield 15, 3) := by decide +kernel
theorem dX0_add_33 : decode cX0_add 33 = .ok (.return_, 1) := by decide +kernel
theorem dX0_at_0 : decode cX0_at 0 = .ok (.iload_n 1, 1) := by decide +kernel
theorem dX0_at_1 : decode cX0_at 1 = .ok (.ifCond .lt 24, 3) := by decide +kernel
theorem dX0_at_4 : decode cX0_at 4 = .ok (.iload_n 1, 1) := by decide +kernel
theorem dX0_at_5 : decode cX0_at 5 = .ok (.aload_n 0, 1) := by decide +kernel
theorem dX0_at_6 : decode cX0_at 6 = .ok (.getfield 15, 3) := by decide +kernel
theorem dX0_at_9 : decode cX0_at 9 = .ok (.if_icmp .ge 16, 3) := by decide +kernel
theorem dX0_at_12 : decode cX0_at 12 = .ok (.aload_n 0, 1) := by decide +kernel
theorem dX0_at_13 : decode cX0_at 13 = .ok (.getfield 9, 3) := by decide +kernel
theorem dX0_at_16 : decode cX0_at 16 = .ok (.iload_n 1, 1) := by decide +kernel
theorem dX0_at_17 : decode cX0_at 17 = .ok (.baload, 1) := by decide +kernel
theorem dX0_at_18 : decode cX0_at 18 = .ok (.sipush 255, 3) := by decide +kernel
theorem dX0_at_21 : decode cX0_at 21 = .ok (.iand, 1) := by decide +kernel
theorem dX0_at_22 : decode cX0_at 22 = .ok (.goto 4, 3) := by decide +kernel
theorem dX0_at_25 : decode cX0_at 25 = .ok (.iconst (-1), 1) := by decide +kernel
theorem dX0_at_26 : decode cX0_at 26 = .ok (.ireturn, 1) := by decide +kernel
theorem dX0_addWord_0 : decode cX0_addWord 0 = .ok (.bipush 56, 2) := by decide +kernel
theorem dX0_addWord_2 : decode cX0_addWord 2 = .ok (.istore_n 3, 1) := by decide +kernel
theorem dX0_addWord_3 : decode cX0_addWord 3 = .ok (.iload_n 3, 1) := by decide +kernel
theorem dX0_addWord_4 : decode cX0_addWord 4 = .ok (.ifCond .lt 30, 3) := by decide +kernel
theorem dX0_addWord_7 : decode cX0_addWord 7 = .ok (.lload_n 1, 1) := by decide +kernel
theorem dX0_addWord_8 : decode cX0_addWord 8 = .ok (.iload_n 3, 1) := by decide +kernel
theorem dX0_addWord_9 : decode cX0_addWord 9 = .ok (.lushr, 1) := by decide +kernel
theorem dX0_addWord_10 : decode cX0_addWord 10 = .ok (.l2i, 1) := by decide +kernel
theorem dX0_addWord_11 : decode cX0_addWord 11 = .ok (.sipush 255, 3) := by decide +kernel
theorem dX0_addWord_14 : decode cX0_addWord 14 = .ok (.iand, 1) := by decide +kernel
theorem dX0_addWord_15 : decode cX0_addWord 15 = .ok (.istore 4, 2) := by decide +kernel
theorem dX0_addWord_17 : decode cX0_addWord 17 = .ok (.iload 4, 2) := by decide +kernel
theorem dX0_addWord_19 : decode cX0_addWord 19 = .ok (.ifCond .eq 9, 3) := by decide +kernel
theorem dX0_addWord_22 : decode cX0_addWord 22 = .ok (.aload_n 0, 1) := by decide +kernel
theorem dX0_addWord_23 : decode cX0_addWord 23 = .ok (.iload 4, 2) := by decide +kernel
theorem dX0_addWord_25 : decode cX0_addWord 25 = .ok (.invokevirtual 19, 3) := by decide +kernel
theorem dX0_addWord_28 : decode cX0_addWord 28 = .ok (.iinc 3 (-8), 3) := by decide +kernel
theorem dX0_addWord_31 : decode cX0_addWord 31 = .ok (.goto (-28), 3) := by decide +kernel
theorem dX0_addWord_34 : decode cX0_addWord 34 = .ok (.return_, 1) := by decide +kernel
theorem dX0_addNumber_0 : decode cX0_addNumber 0 = .ok (.lload_n 1, 1) := by decide +kernel
theorem dX0_addNumber_1 : decode cX0_addNumber 1 = .ok (.lconst 0, 1) := by decide +kernel
theorem dX0_addNumber_2 : decode cX0_addNumber 2 = .ok (.lcmp, 1) := by decide +kernel
theorem dX0_addNumber_3 : decode cX0_addNumber 3 = .ok (.ifCond .ge 9, 3) := by decide +kernel
theorem dX0_addNumber_6 : decode cX0_addNumber 6 = .ok (.aload_n 0, 1) := by decide +kernel
theorem dX0_addNumber_7 : decode cX0_addNumber 7 = .ok (.bipush 45, 2) := by decide +kernel
theorem dX0_addNumber_9 : decode cX0_addNumber 9 = .ok (.invokevirtual 19, 3) := by decide +kernel
theorem dX0_addNumber_12 : decode cX0_addNumber 12 = .ok (.lload_n 1, 1) := by decide +kernel
theorem dX0_addNumber_13 : decode cX0_addNumber 13 = .ok (.lconst 0, 1) := by decide +kernel
theorem dX0_addNumber_14 : decode cX0_addNumber 14 = .ok (.lcmp, 1) := by decide +kernel
theorem dX0_addNumber_15 : decode cX0_addNumber 15 = .ok (.ifCond .ge 8, 3) := by decide +kernel
theorem dX0_addNumber_18 : decode cX0_addNumber 18 = .ok (.lload_n 1, 1) := by decide +kernel
theorem dX0_addNumber_19 : decode cX0_addNumber 19 = .ok (.lneg, 1) := by decide +kernel
theorem dX0_addNumber_20 : decode cX0_addNumber 20 = .ok (.goto 4, 3) := by decide +kernel
theorem dX0_addNumber_23 : decode cX0_addNumber 23 = .ok (.lload_n 1, 1) := by decide +kernel
theorem dX0_addNumber_24 : decode cX0_addNumber 24 = .ok (.lstore_n 3, 1) := by decide +kernel
theorem dX0_addNumber_25 : decode cX0_addNumber 25 = .ok (.iconst 1, 1) := by decide +kernel
theorem dX0_addNumber_26 : decode cX0_addNumber 26 = .ok (.istore 5, 2) := by decide +kernel
theorem dX0_addNumber_28 : decode cX0_addNumber 28 = .ok (.lload_n 3, 1) := by decide +kernel
theorem dX0_addNumber_29 : decode cX0_addNumber 29 = .ok (.ldc2_w 23, 3) := by decide +kernel
theorem dX0_addNumber_32 : decode cX0_addNumber 32 = .ok (.ldiv, 1) := by decide +kernel
theorem dX0_addNumber_33 : decode cX0_addNumber 33 = .ok (.lstore 6, 2) := by decide +kernel
theorem dX0_addNumber_35 : decode cX0_addNumber 35 = .ok (.lload 6, 2) := by decide +kernel
theorem dX0_addNumber_37 : decode cX0_addNumber 37 = .ok (.lconst 0, 1) := by decide +kernel
theorem dX0_addNumber_38 : decode cX0_addNumber 38 = .ok (.lcmp, 1) := by decide +kernel
theorem dX0_addNumber_39 : decode cX0_addNumber 39 = .ok (.ifCond .le 24, 3) := by decide +kernel
theorem dX0_addNumber_42 : decode cX0_addNumber 42 = .ok (.iload 5, 2) := by decide +kernel
theorem dX0_addNumber_44 : decode cX0_addNumber 44 = .ok (.bipush 19, 2) := by decide +kernel
theorem dX0_addNumber_46 : decode cX0_addNumber 46 = .ok (.if_icmp .ge 17, 3) := by decide +kernel
theorem dX0_addNumber_49 : decode cX0_addNumber 49 = .ok (.iinc 5 1, 3) := by decide +kernel
theorem dX0_addNumber_52 : decode cX0_addNumber 52 = .ok (.lload 6, 2) := by decide +kernel
theorem dX0_addNumber_54 : decode cX0_addNumber 54 = .ok (.ldc2_w 23, 3) := by decide +kernel
theorem dX0_addNumber_57 : decode cX0_addNumber 57 = .ok (.ldiv, 1) := by decide +kernel
theorem dX0_addNumber_58 : decode cX0_addNumber 58 = .ok (.lstore 6, 2) := by decide +kernel
theorem dX0_addNumber_60 : decode cX0_addNumber 60 = .ok (.goto (-25), 3) := by decide +kernel
theorem dX0_addNumber_63 : decode cX0_addNumber 63 = .ok (.iload 5, 2) := by decide +kernel
theorem dX0_addNumber_65 : decode cX0_addNumber 65 = .ok (.aload_n 0, 1) := by decide +kernel
theorem dX0_addNumber_66 : decode cX0_addNumber 66 = .ok (.getfield 9, 3) := by decide +kernel
theorem dX0_addNumber_69 : decode cX0_addNumber 69 = .ok (.arraylength, 1) := by decide +kernel
theorem dX0_addNumber_70 : decode cX0_addNumber 70 = .ok (.aload_n 0, 1) := by decide +kernel
theorem dX0_addNumber_71 : decode cX0_addNumber 71 = .ok (.getfield 15, 3) := by decide +kernel
theorem dX0_addNumber_74 : decode cX0_addNumber 74 = .ok (.isub, 1) := by decide +kernel
theorem dX0_addNumber_75 : decode cX0_addNumber 75 = .ok (.if_icmp .le 4, 3) := by decide +kernel
theorem dX0_addNumber_78 : decode cX0_addNumber 78 = .ok (.return_, 1) := by decide +kernel
theorem dX0_addNumber_79 : decode cX0_addNumber 79 = .ok (.aload_n 0, 1) := by decide +kernel
theorem dX0_addNumber_80 : decode cX0_addNumber 80 = .ok (.getfield 15, 3) := by decide +kernel
theorem dX0_addNumber_83 : decode cX0_addNumber 83 = .ok (.iload 5, 2) := by decide +kernel
theorem dX0_addNumber_85 : decode cX0_addNumber 85 = .ok (.iadd, 1) := by decide +kernel
theorem dX0_addNumber_86 : decode cX0_addNumber 86 = .ok (.iconst 1, 1) := by decide +kernel
theorem dX0_addNumber_87 : decode cX0_addNumber 87 = .ok (.isub, 1) := by decide +kernel
theorem dX0_addNumber_88 : decode cX0_addNumber 88 = .ok (.istore 6, 2) := by decide +kernel
theorem dX0_addNumber_90 : decode cX0_addNumber 90 = .ok (.iload 6, 2) := by decide +kernel
theorem dX0_addNumber_92 : decode cX0_addNumber 92 = .ok (.aload_n 0, 1) := by decide +kernel
theorem dX0_addNumber_93 : decode cX0_addNumber 93 = .ok (.getfield 15, 3) := by decide +kernel
theorem dX0_addNumber_96 : decode cX0_addNumber 96 = .ok (.if_icmp .lt 33, 3) := by decide +kernel
theorem dX0_addNumber_99 : decode cX0_addNumber 99 = .ok (.aload_n 0, 1) := by decide +kernel
theorem dX0_addNumber_100 : decode cX0_addNumber 100 = .ok (.getfield 9, 3) := by decide +kernel
theorem dX0_addNumber_103 : decode cX0_addNumber 103 = .ok (.iload 6, 2) := by decide +kernel
theorem dX0_addNumber_105 : decode cX0_addNumber 105 = .ok (.ldc2_w 25, 3) := by decide +kernel
theorem dX0_addNumber_108 : decode cX0_addNumber 108 = .ok (.lload_n 3, 1) := by decide +kernel
theorem dX0_addNumber_109 : decode cX0_addNumber 109 = .ok (.ldc2_w 23, 3) := by decide +kernel
theorem dX0_addNumber_112 : decode cX0_addNumber 112 = .ok (.lrem, 1) := by decide +kernel
theorem dX0_addNumber_113 : decode cX0_addNumber 113 = .ok (.ladd, 1) := by decide +kernel
theorem dX0_addNumber_114 : decode cX0_addNumber 114 = .ok (.l2i, 1) := by decide +kernel
theorem dX0_addNumber_115 : decode cX0_addNumber 115 = .ok (.i2b, 1) := by decide +kernel
theorem dX0_addNumber_116 : decode cX0_addNumber 116 = .ok (.bastore, 1) := by decide +kernel
theorem dX0_addNumber_117 : decode cX0_addNumber 117 = .ok (.lload_n 3, 1) := by decide +kernel
theorem dX0_addNumber_118 : decode cX0_addNumber 118 = .ok (.ldc2_w 23, 3) := by decide +kernel
theorem dX0_addNumber_121 : decode cX0_addNumber 121 = .ok (.ldiv, 1) := by decide +kernel
theorem dX0_addNumber_122 : decode cX0_addNumber 122 = .ok (.lstore_n 3, 1) := by decide +kernel
theorem dX0_addNumber_123 : decode cX0_addNumber 123 = .ok (.iinc 6 (-1), 3) := by decide +kernel
theorem dX0_addNumber_126 : decode cX0_addNumber 126 = .ok (.goto (-36), 3) := by decide +kernel
theorem dX0_addNumber_129 : decode cX0_addNumber 129 = .ok (.aload_n 0, 1) := by decide +kernel
theorem dX0_addNumber_130 : decode cX0_addNumber 130 = .ok (.dup, 1) := by decide +kernel
theorem dX0_addNumber_131 : decode cX0_addNumber 131 = .ok (.getfield 15, 3) := by decide +kernel
theorem dX0_addNumber_134 : decode cX0_addNumber 134 = .ok (.iload 5, 2) := by decide +kernel
theorem dX0_addNumber_136 : decode cX0_addNumber 136 = .ok (.iadd, 1) := by decide +kernel
theorem dX0_addNumber_137 : decode cX0_addNumber 137 = .ok (.putfield 15, 3) := by decide +kernel
theorem dX0_addNumber_140 : decode cX0_addNumber 140 = .ok (.return_, 1) := by decide +kernel
theorem dX0_addTime_0 : decode cX0_addTime 0 = .ok (.lload_n 1, 1) := by decide +kernel
theorem dX0_addTime_1 : decode cX0_addTime 1 = .ok (.ldc2_w 27, 3) := by decide +kernel
theorem dX0_addTime_4 : decode cX0_addTime 4 = .ok (.lcmp, 1) := by decide +kernel
theorem dX0_addTime_5 : decode cX0_addTime 5 = .ok (.ifCond .ne 13, 3) := by decide +kernel
theorem dX0_addTime_8 : decode cX0_addTime 8 = .ok (.aload_n 0, 1) := by decide +kernel
theorem dX0_addTime_9 : decode cX0_addTime 9 = .ok (.ldc2_w 29, 3) := by decide +kernel
theorem dX0_addTime_12 : decode cX0_addTime 12 = .ok (.invokevirtual 31, 3) := by decide +kernel
theorem dX0_addTime_15 : decode cX0_addTime 15 = .ok (.goto 26, 3) := by decide +kernel
theorem dX0_addTime_18 : decode cX0_addTime 18 = .ok (.lload_n 1, 1) := by decide +kernel
theorem dX0_addTime_19 : decode cX0_addTime 19 = .ok (.ldc2_w 35, 3) := by decide +kernel
theorem dX0_addTime_22 : decode cX0_addTime 22 = .ok (.lcmp, 1) := by decide +kernel
theorem dX0_addTime_23 : decode cX0_addTime 23 = .ok (.ifCond .ne 13, 3) := by decide +kernel
theorem dX0_addTime_26 : decode cX0_addTime 26 = .ok (.aload_n 0, 1) := by decide +kernel
theorem dX0_addTime_27 : decode cX0_addTime 27 = .ok (.ldc2_w 37, 3) := by decide +kernel
theorem dX0_addTime_30 : decode cX0_addTime 30 = .ok (.invokevirtual 31, 3) := by decide +kernel
theorem dX0_addTime_33 : decode cX0_addTime 33 = .ok (.goto 8, 3) := by decide +kernel
theorem dX0_addTime_36 : decode cX0_addTime 36 = .ok (.aload_n 0, 1) := by decide +kernel
theorem dX0_addTime_37 : decode cX0_addTime 37 = .ok (.lload_n 1, 1) := by decide +kernel
theorem dX0_addTime_38 : decode cX0_addTime 38 = .ok (.invokevirtual 39, 3) := by decide +kernel
theorem dX0_addTime_41 : decode cX0_addTime 41 = .ok (.return_, 1) := by decide +kernel
theorem dX1_init_0 : decode cX1_init 0 = .ok (.aload_n 0, 1) := by decide +kernel
theorem dX1_init_1 : decode cX1_init 1 = .ok (.invokespecial 3, 3) := by decide +kernel
theorem dX1_init_4 : decode cX1_init 4 = .ok (.aload_n 0, 1) := by decide +kernel
theorem dX1_init_5 : decode cX1_init 5 = .ok (.aload_n 1, 1) := by decide +kernel
theorem dX1_init_6 : decode cX1_init 6 = .ok (.putfield 9, 3) := by decide +kernel
theorem dX1_init_9 : decode cX1_init 9 = .ok (.aload_n 0, 1) := by decide +kernel
theorem dX1_init_10 : decode cX1_init 10 = .ok (.aload_n 2, 1) := by decide +kernel
theorem dX1_init_11 : decode cX1_init 11 = .ok (.putfield 15, 3) := by decide +kernel
theorem dX1_init_14 : decode cX1_init 14 = .ok (.aload_n 0, 1) := by decide +kernel
theorem dX1_init_15 : decode cX1_init 15 = .ok (.bipush 12, 2) := by decide +kernel
theorem dX1_init_17 : decode cX1_init 17 = .ok (.anewarray 18, 3) := by decide +kernel
theorem dX1_init_20 : decode cX1_init 20 = .ok (.putfield 20, 3) := by decide +kernel
theorem dX1_init_23 : decode cX1_init 23 = .ok (.aload_n 0, 1) := by decide +kernel
theorem dX1_init_24 : decode cX1_init 24 = .ok (.iconst 4, 1) := by decide +kernel
theorem dX1_init_25 : decode cX1_init 25 = .ok (.newarray .long, 2) := by decide +kernel
theorem dX1_init_27 : decode cX1_init 27 = .ok (.putfield 24, 3) := by decide +kernel
theorem dX1_init_30 : decode cX1_init 30 = .ok (.iconst 0, 1) := by decide +kernel
theorem dX1_init_31 : decode cX1_init 31 = .ok (.istore_n 3, 1) := by decide +kernel
theorem dX1_init_32 : decode cX1_init 32 = .ok (.iload_n 3, 1) := by decide +kernel
theorem dX1_init_33 : decode cX1_init 33 = .ok (.iconst 4, 1) := by decide +kernel
theorem dX1_init_34 : decode cX1_init 34 = .ok (.if_icmp .ge 18, 3) := by decide +kernel
theorem dX1_init_37 : decode cX1_init 37 = .ok (.aload_n 0, 1) := by decide +kernel
theorem dX1_init_38 : decode cX1_init 38 = .ok (.getfield 24, 3) := by decide +kernel
theorem dX1_init_41 : decode cX1_init 41 = .ok (.iload_n 3, 1) := by decide +kernel
theorem dX1_init_42 : decode cX1_init 42 = .ok (.ldc2_w 28, 3) := by decide +kernel
theorem dX1_init_45 : decode cX1_init 45 = .ok (.lastore, 1) := by decide +kernel
theorem dX1_init_46 : decode cX1_init 46 = .ok (.iinc 3 1, 3) := by decide +kernel
theorem dX1_init_49 : decode cX1_init 49 = .ok (.goto (-17), 3) := by decide +kernel
theorem dX1_init_52 : decode cX1_init 52 = .ok (.aload_n 0, 1) := by decide +kernel
theorem dX1_init_53 : decode cX1_init 53 = .ok (.new 30, 3) := by decide +kernel
theorem dX1_init_56 : decode cX1_init 56 = .ok (.dup, 1) := by decide +kernel
theorem dX1_init_57 : decode cX1_init 57 = .ok (.invokespecial 32, 3) := by decide +kernel
theorem dX1_init_60 : decode cX1_init 60 = .ok (.putfield 33, 3) := by decide +kernel
theorem dX1_init_63 : decode cX1_init 63 = .ok (.return_, 1) := by decide +kernel
theorem dX1_add_0 : decode cX1_add 0 = .ok (.aload_n 0, 1) := by decide +kernel
theorem dX1_add_1 : decode cX1_add 1 = .ok (.getfield 37, 3) := by decide +kernel
theorem dX1_add_4 : decode cX1_add 4 = .ok (.aload_n 0, 1) := by decide +kernel
theorem dX1_add_5 : decode cX1_add 5 = .ok (.getfield 20, 3) := by decide +kernel
theorem dX1_add_8 : decode cX1_add 8 = .ok (.arraylength, 1) := by decide +kernel
theorem dX1_add_9 : decode cX1_add 9 = .ok (.if_icmp .ge 23, 3) := by decide +kernel
theorem dX1_add_12 : decode cX1_add 12 = .ok (.aload_n 0, 1) := by decide +kernel
theorem dX1_add_13 : decode cX1_add 13 = .ok (.getfield 20, 3) := by decide +kernel
theorem dX1_add_16 : decode cX1_add 16 = .ok (.aload_n 0, 1) := by decide +kernel
theorem dX1_add_17 : decode cX1_add 17 = .ok (.getfield 37, 3) := by decide +kernel
theorem dX1_add_20 : decode cX1_add 20 = .ok (.aload_n 1, 1) := by decide +kernel
theorem dX1_add_21 : decode cX1_add 21 = .ok (.aastore, 1) := by decide +kernel
theorem dX1_add_22 : decode cX1_add 22 = .ok (.aload_n 0, 1) := by decide +kernel
theorem dX1_add_23 : decode cX1_add 23 = .ok (.dup, 1) := by decide +kernel
theorem dX1_add_24 : decode cX1_add 24 = .ok (.getfield 37, 3) := by decide +kernel
theorem dX1_add_27 : decode cX1_add 27 = .ok (.iconst 1, 1) := by decide +kernel
theorem dX1_add_28 : decode cX1_add 28 = .ok (.iadd, 1) := by decide +kernel
theorem dX1_add_29 : decode cX1_add 29 = .ok (.putfield 37, 3) := by decide +kernel
theorem dX1_add_32 : decode cX1_add 32 = .ok (.return_, 1) := by decide +kernel
theorem dX1_named_0 : decode cX1_named 0 = .ok (.iconst 0, 1) := by decide +kernel
theorem dX1_named_1 : decode cX1_named 1 = .ok (.istore_n 3, 1) := by decide +kernel
theorem dX1_named_2 : decode cX1_named 2 = .ok (.iload_n 3, 1) := by decide +kernel
theorem dX1_named_3 : decode cX1_named 3 = .ok (.aload_n 0, 1) := by decide +kernel
theorem dX1_named_4 : decode cX1_named 4 = .ok (.getfield 37, 3) := by decide +kernel
theorem dX1_named_7 : decode cX1_named 7 = .ok (.if_icmp .ge 30, 3) := by decide +kernel
theorem dX1_named_10 : decode cX1_named 10 = .ok (.aload_n 0, 1) := by decide +kernel
theorem dX1_named_11 : decode cX1_named 11 = .ok (.getfield 20, 3) := by decide +kernel
theorem dX1_named_14 : decode cX1_named 14 = .ok (.iload_n 3, 1) := by decide +kernel
theorem dX1_named_15 : decode cX1_named 15 = .ok (.aaload, 1) := by decide +kernel
theorem dX1_named_16 : decode cX1_named 16 = .ok (.getfield 41, 3) := by decide +kernel
theorem dX1_named_19 : decode cX1_named 19 = .ok (.lload_n 1, 1) := by decide +kernel
theorem dX1_named_20 : decode cX1_named 20 = .ok (.lcmp, 1) := by decide +kernel
theorem dX1_named_21 : decode cX1_named 21 = .ok (.ifCond .ne 10, 3) := by decide +kernel
theorem dX1_named_24 : decode cX1_named 24 = .ok (.aload_n 0, 1) := by decide +kernel
theorem dX1_named_25 : decode cX1_named 25 = .ok (.getfield 20, 3) := by decide +kernel
theorem dX1_named_28 : decode cX1_named 28 = .ok (.iload_n 3, 1) := by decide +kernel
theorem dX1_named_29 : decode cX1_named 29 = .ok (.aaload, 1) := by decide +kernel
theorem dX1_named_30 : decode cX1_named 30 = .ok (.areturn, 1) := by decide +kernel
theorem dX1_named_31 : decode cX1_named 31 = .ok (.iinc 3 1, 3) := by decide +kernel
theorem dX1_named_34 : decode cX1_named 34 = .ok (.goto (-32), 3) := by decide +kernel
theorem dX1_named_37 : decode cX1_named 37 = .ok (.aconst_null, 1) := by decide +kernel
theorem dX1_named_38 : decode cX1_named 38 = .ok (.areturn, 1) := by decide +kernel
theorem dX1_isAligned_0 : decode cX1_isAligned 0 = .ok (.iload_n 1, 1) := by decide +kernel
theorem dX1_isAligned_1 : decode cX1_isAligned 1 = .ok (.ifCond .lt 29, 3) := by decide +kernel
theorem dX1_isAligned_4 : decode cX1_isAligned 4 = .ok (.iload_n 1, 1) := by decide +kernel
theorem dX1_isAligned_5 : decode cX1_isAligned 5 = .ok (.aload_n 0, 1) := by decide +kernel
theorem dX1_isAligned_6 : decode cX1_isAligned 6 = .ok (.getfield 24, 3) := by decide +kernel
theorem dX1_isAligned_9 : decode cX1_isAligned 9 = .ok (.arraylength, 1) := by decide +kernel
theorem dX1_isAligned_10 : decode cX1_isAligned 10 = .ok (.if_icmp .ge 20, 3) := by decide +kernel
theorem dX1_isAligned_13 : decode cX1_isAligned 13 = .ok (.aload_n 0, 1) := by decide +kernel
theorem dX1_isAligned_14 : decode cX1_isAligned 14 = .ok (.getfield 24, 3) := by decide +kernel
theorem dX1_isAligned_17 : decode cX1_isAligned 17 = .ok (.iload_n 1, 1) := by decide +kernel
theorem dX1_isAligned_18 : decode cX1_isAligned 18 = .ok (.laload, 1) := by decide +kernel
theorem dX1_isAligned_19 : decode cX1_isAligned 19 = .ok (.ldc2_w 28, 3) := by decide +kernel
theorem dX1_isAligned_22 : decode cX1_isAligned 22 = .ok (.lcmp, 1) := by decide +kernel
theorem dX1_isAligned_23 : decode cX1_isAligned 23 = .ok (.ifCond .eq 7, 3) := by decide +kernel
theorem dX1_isAligned_26 : decode cX1_isAligned 26 = .ok (.iconst 1, 1) := by decide +kernel
theorem dX1_isAligned_27 : decode cX1_isAligned 27 = .ok (.goto 4, 3) := by decide +kernel
theorem dX1_isAligned_30 : decode cX1_isAligned 30 = .ok (.iconst 0, 1) := by decide +kernel
theorem dX1_isAligned_31 : decode cX1_isAligned 31 = .ok (.ireturn, 1) := by decide +kernel
theorem dX1_isStopped_0 : decode cX1_isStopped 0 = .ok (.aload_n 1, 1) := by decide +kernel
theorem dX1_isStopped_1 : decode cX1_isStopped 1 = .ok (.getfield 45, 3) := by decide +kernel
theorem dX1_isStopped_4 : decode cX1_isStopped 4 = .ok (.iload_n 2, 1) := by decide +kernel
theorem dX1_isStopped_5 : decode cX1_isStopped 5 = .ok (.iaload, 1) := by decide +kernel
theorem dX1_isStopped_6 : decode cX1_isStopped 6 = .ok (.ifCond .ne 14, 3) := by decide +kernel
theorem dX1_isStopped_9 : decode cX1_isStopped 9 = .ok (.aload_n 0, 1) := by decide +kernel
theorem dX1_isStopped_10 : decode cX1_isStopped 10 = .ok (.aload_n 1, 1) := by decide +kernel
theorem dX1_isStopped_11 : decode cX1_isStopped 11 = .ok (.getfield 51, 3) := by decide +kernel
theorem dX1_isStopped_14 : decode cX1_isStopped 14 = .ok (.invokevirtual 54, 3) := by decide +kernel
theorem dX1_isStopped_17 : decode cX1_isStopped 17 = .ok (.ifCond .ne 5, 3) := by decide +kernel
theorem dX1_isStopped_20 : decode cX1_isStopped 20 = .ok (.iconst 0, 1) := by decide +kernel
theorem dX1_isStopped_21 : decode cX1_isStopped 21 = .ok (.ireturn, 1) := by decide +kernel
theorem dX1_isStopped_22 : decode cX1_isStopped 22 = .ok (.ldc2_w 58, 3) := by decide +kernel
theorem dX1_isStopped_25 : decode cX1_isStopped 25 = .ok (.lstore_n 3, 1) := by decide +kernel
theorem dX1_isStopped_26 : decode cX1_isStopped 26 = .ok (.iconst 0, 1) := by decide +kernel
theorem dX1_isStopped_27 : decode cX1_isStopped 27 = .ok (.istore 5, 2) := by decide +kernel
theorem dX1_isStopped_29 : decode cX1_isStopped 29 = .ok (.iload 5, 2) := by decide +kernel
theorem dX1_isStopped_31 : decode cX1_isStopped 31 = .ok (.aload_n 0, 1) := by decide +kernel
theorem dX1_isStopped_32 : decode cX1_isStopped 32 = .ok (.getfield 37, 3) := by decide +kernel
theorem dX1_isStopped_35 : decode cX1_isStopped 35 = .ok (.if_icmp .ge 48, 3) := by decide +kernel
theorem dX1_isStopped_38 : decode cX1_isStopped 38 = .ok (.aload_n 0, 1) := by decide +kernel
theorem dX1_isStopped_39 : decode cX1_isStopped 39 = .ok (.getfield 20, 3) := by decide +kernel
theorem dX1_isStopped_42 : decode cX1_isStopped 42 = .ok (.iload 5, 2) := by decide +kernel
theorem dX1_isStopped_44 : decode cX1_isStopped 44 = .ok (.aaload, 1) := by decide +kernel
theorem dX1_isStopped_45 : decode cX1_isStopped 45 = .ok (.getfield 60, 3) := by decide +kernel
theorem dX1_isStopped_48 : decode cX1_isStopped 48 = .ok (.astore 6, 2) := by decide +kernel
theorem dX1_isStopped_50 : decode cX1_isStopped 50 = .ok (.aload 6, 2) := by decide +kernel
theorem dX1_isStopped_52 : decode cX1_isStopped 52 = .ok (.ifnull 25, 3) := by decide +kernel
theorem dX1_isStopped_55 : decode cX1_isStopped 55 = .ok (.aload 6, 2) := by decide +kernel
theorem dX1_isStopped_57 : decode cX1_isStopped 57 = .ok (.getfield 51, 3) := by decide +kernel
theorem dX1_isStopped_60 : decode cX1_isStopped 60 = .ok (.aload_n 1, 1) := by decide +kernel
theorem dX1_isStopped_61 : decode cX1_isStopped 61 = .ok (.getfield 51, 3) := by decide +kernel
theorem dX1_isStopped_64 : decode cX1_isStopped 64 = .ok (.if_icmp .ne 13, 3) := by decide +kernel
theorem dX1_isStopped_67 : decode cX1_isStopped 67 = .ok (.lload_n 3, 1) := by decide +kernel
theorem dX1_isStopped_68 : decode cX1_isStopped 68 = .ok (.aload 6, 2) := by decide +kernel
theorem dX1_isStopped_70 : decode cX1_isStopped 70 = .ok (.invokevirtual 64, 3) := by decide +kernel
theorem dX1_isStopped_73 : decode cX1_isStopped 73 = .ok (.invokestatic 68, 3) := by decide +kernel
theorem dX1_isStopped_76 : decode cX1_isStopped 76 = .ok (.lstore_n 3, 1) := by decide +kernel
theorem dX1_isStopped_77 : decode cX1_isStopped 77 = .ok (.iinc 5 1, 3) := by decide +kernel
theorem dX1_isStopped_80 : decode cX1_isStopped 80 = .ok (.goto (-51), 3) := by decide +kernel
theorem dX1_isStopped_83 : decode cX1_isStopped 83 = .ok (.aload_n 1, 1) := by decide +kernel
theorem dX1_isStopped_84 : decode cX1_isStopped 84 = .ok (.getfield 74, 3) := by decide +kernel
theorem dX1_isStopped_87 : decode cX1_isStopped 87 = .ok (.iload_n 2, 1) := by decide +kernel
theorem dX1_isStopped_88 : decode cX1_isStopped 88 = .ok (.laload, 1) := by decide +kernel
theorem dX1_isStopped_89 : decode cX1_isStopped 89 = .ok (.lload_n 3, 1) := by decide +kernel
theorem dX1_isStopped_90 : decode cX1_isStopped 90 = .ok (.aload_n 0, 1) := by decide +kernel
theorem dX1_isStopped_91 : decode cX1_isStopped 91 = .ok (.getfield 24, 3) := by decide +kernel
theorem dX1_isStopped_94 : decode cX1_isStopped 94 = .ok (.aload_n 1, 1) := by decide +kernel
theorem dX1_isStopped_95 : decode cX1_isStopped 95 = .ok (.getfield 51, 3) := by decide +kernel
theorem dX1_isStopped_98 : decode cX1_isStopped 98 = .ok (.laload, 1) := by decide +kernel
theorem dX1_isStopped_99 : decode cX1_isStopped 99 = .ok (.invokestatic 77, 3) := by decide +kernel
theorem dX1_isStopped_102 : decode cX1_isStopped 102 = .ok (.lcmp, 1) := by decide +kernel
theorem dX1_isStopped_103 : decode cX1_isStopped 103 = .ok (.ifCond .le 7, 3) := by decide +kernel
theorem dX1_isStopped_106 : decode cX1_isStopped 106 = .ok (.iconst 1, 1) := by decide +kernel
theorem dX1_isStopped_107 : decode cX1_isStopped 107 = .ok (.goto 4, 3) := by decide +kernel
theorem dX1_isStopped_110 : decode cX1_isStopped 110 = .ok (.iconst 0, 1) := by decide +kernel
theorem dX1_isStopped_111 : decode cX1_isStopped 111 = .ok (.ireturn, 1) := by decide +kernel
theorem dX1_refusalOf_0 : decode cX1_refusalOf 0 = .ok (.aload_n 1, 1) := by decide +kernel
theorem dX1_refusalOf_1 : decode cX1_refusalOf 1 = .ok (.getfield 45, 3) := by decide +kernel
theorem dX1_refusalOf_4 : decode cX1_refusalOf 4 = .ok (.iload_n 2, 1) := by decide +kernel
theorem dX1_refusalOf_5 : decode cX1_refusalOf 5 = .ok (.iaload, 1) := by decide +kernel
theorem dX1_refusalOf_6 : decode cX1_refusalOf 6 = .ok (.iconst 2, 1) := by decide +kernel
theorem dX1_refusalOf_7 : decode cX1_refusalOf 7 = .ok (.if_icmp .ne 6, 3) := by decide +kernel
theorem dX1_refusalOf_10 : decode cX1_refusalOf 10 = .ok (.bipush (-2), 2) := by decide +kernel
theorem dX1_refusalOf_12 : decode cX1_refusalOf 12 = .ok (.ireturn, 1) := by decide +kernel
theorem dX1_refusalOf_13 : decode cX1_refusalOf 13 = .ok (.aload_n 0, 1) := by decide +kernel
theorem dX1_refusalOf_14 : decode cX1_refusalOf 14 = .ok (.aload_n 1, 1) := by decide +kernel
theorem dX1_refusalOf_15 : decode cX1_refusalOf 15 = .ok (.iload_n 2, 1) := by decide +kernel
theorem dX1_refusalOf_16 : decode cX1_refusalOf 16 = .ok (.invokevirtual 80, 3) := by decide +kernel
theorem dX1_refusalOf_19 : decode cX1_refusalOf 19 = .ok (.ifCond .eq 8, 3) := by decide +kernel
theorem dX1_refusalOf_22 : decode cX1_refusalOf 22 = .ok (.bipush (-3), 2) := by decide +kernel
theorem dX1_refusalOf_24 : decode cX1_refusalOf 24 = .ok (.goto 4, 3) := by decide +kernel
theorem dX1_refusalOf_27 : decode cX1_refusalOf 27 = .ok (.iconst 0, 1) := by decide +kernel
theorem dX1_refusalOf_28 : decode cX1_refusalOf 28 = .ok (.ireturn, 1) := by decide +kernel
theorem dX1_countIdleParts_0 : decode cX1_countIdleParts 0 = .ok (.iconst 0, 1) := by decide +kernel
theorem dX1_countIdleParts_1 : decode cX1_countIdleParts 1 = .ok (.istore_n 1, 1) := by decide +kernel
theorem dX1_countIdleParts_2 : decode cX1_countIdleParts 2 = .ok (.iconst 0, 1) := by decide +kernel
theorem dX1_countIdleParts_3 : decode cX1_countIdleParts 3 = .ok (.istore_n 2, 1) := by decide +kernel
theorem dX1_countIdleParts_4 : decode cX1_countIdleParts 4 = .ok (.iload_n 2, 1) := by decide +kernel
theorem dX1_countIdleParts_5 : decode cX1_countIdleParts 5 = .ok (.aload_n 0, 1) := by decide +kernel
theorem dX1_countIdleParts_6 : decode cX1_countIdleParts 6 = .ok (.getfield 37, 3) := by decide +kernel
theorem dX1_countIdleParts_9 : decode cX1_countIdleParts 9 = .ok (.if_icmp .ge 37, 3) := by decide +kernel
theorem dX1_countIdleParts_12 : decode cX1_countIdleParts 12 = .ok (.aload_n 0, 1) := by decide +kernel
theorem dX1_countIdleParts_13 : decode cX1_countIdleParts 13 = .ok (.getfield 20, 3) := by decide +kernel
theorem dX1_countIdleParts_16 : decode cX1_countIdleParts 16 = .ok (.iload_n 2, 1) := by decide +kernel
theorem dX1_countIdleParts_17 : decode cX1_countIdleParts 17 = .ok (.aaload, 1) := by decide +kernel
theorem dX1_countIdleParts_18 : decode cX1_countIdleParts 18 = .ok (.getfield 60, 3) := by decide +kernel
theorem dX1_countIdleParts_21 : decode cX1_countIdleParts 21 = .ok (.ifnull 19, 3) := by decide +kernel
theorem dX1_countIdleParts_24 : decode cX1_countIdleParts 24 = .ok (.iload_n 1, 1) := by decide +kernel
theorem dX1_countIdleParts_25 : decode cX1_countIdleParts 25 = .ok (.aload_n 0, 1) := by decide +kernel
theorem dX1_countIdleParts_26 : decode cX1_countIdleParts 26 = .ok (.getfield 20, 3) := by decide +kernel
theorem dX1_countIdleParts_29 : decode cX1_countIdleParts 29 = .ok (.iload_n 2, 1) := by decide +kernel
theorem dX1_countIdleParts_30 : decode cX1_countIdleParts 30 = .ok (.aaload, 1) := by decide +kernel
theorem dX1_countIdleParts_31 : decode cX1_countIdleParts 31 = .ok (.getfield 60, 3) := by decide +kernel
theorem dX1_countIdleParts_34 : decode cX1_countIdleParts 34 = .ok (.iconst 1, 1) := by decide +kernel
theorem dX1_countIdleParts_35 : decode cX1_countIdleParts 35 = .ok (.invokevirtual 84, 3) := by decide +kernel
theorem dX1_countIdleParts_38 : decode cX1_countIdleParts 38 = .ok (.iadd, 1) := by decide +kernel
theorem dX1_countIdleParts_39 : decode cX1_countIdleParts 39 = .ok (.istore_n 1, 1) := by decide +kernel
theorem dX1_countIdleParts_40 : decode cX1_countIdleParts 40 = .ok (.iinc 2 1, 3) := by decide +kernel
theorem dX1_countIdleParts_43 : decode cX1_countIdleParts 43 = .ok (.goto (-39), 3) := by decide +kernel
theorem dX1_countIdleParts_46 : decode cX1_countIdleParts 46 = .ok (.iload_n 1, 1) := by decide +kernel
theorem dX1_countIdleParts_47 : decode cX1_countIdleParts 47 = .ok (.ireturn, 1) := by decide +kernel
theorem dX1_countStoppedParts_0 : decode cX1_countStoppedParts 0 = .ok (.iconst 0, 1) := by decide +kernel
theorem dX1_countStoppedParts_1 : decode cX1_countStoppedParts 1 = .ok (.istore_n 1, 1) := by decide +kernel
theorem dX1_countStoppedParts_2 : decode cX1_countStoppedParts 2 = .ok (.iconst 0, 1) := by decide +kernel
theorem dX1_countStoppedParts_3 : decode cX1_countStoppedParts 3 = .ok (.istore_n 2, 1) := by decide +kernel
theorem dX1_countStoppedParts_4 : decode cX1_countStoppedParts 4 = .ok (.iload_n 2, 1) := by decide +kernel
theorem dX1_countStoppedParts_5 : decode cX1_countStoppedParts 5 = .ok (.aload_n 0, 1) := by decide +kernel
theorem dX1_countStoppedParts_6 : decode cX1_countStoppedParts 6 = .ok (.getfield 37, 3) := by decide +kernel
theorem dX1_countStoppedParts_9 : decode cX1_countStoppedParts 9 = .ok (.if_icmp .ge 54, 3) := by decide +kernel
theorem dX1_countStoppedParts_12 : decode cX1_countStoppedParts 12 = .ok (.aload_n 0, 1) := by decide +kernel
theorem dX1_countStoppedParts_13 : decode cX1_countStoppedParts 13 = .ok (.getfield 20, 3) := by decide +kernel
theorem dX1_countStoppedParts_16 : decode cX1_countStoppedParts 16 = .ok (.iload_n 2, 1) := by decide +kernel
theorem dX1_countStoppedParts_17 : decode cX1_countStoppedParts 17 = .ok (.aaload, 1) := by decide +kernel
theorem dX1_countStoppedParts_18 : decode cX1_countStoppedParts 18 = .ok (.getfield 60, 3) := by decide +kernel
theorem dX1_countStoppedParts_21 : decode cX1_countStoppedParts 21 = .ok (.astore_n 3, 1) := by decide +kernel
theorem dX1_countStoppedParts_22 : decode cX1_countStoppedParts 22 = .ok (.iconst 0, 1) := by decide +kernel
theorem dX1_countStoppedParts_23 : decode cX1_countStoppedParts 23 = .ok (.istore 4, 2) := by decide +kernel
theorem dX1_countStoppedParts_25 : decode cX1_countStoppedParts 25 = .ok (.aload_n 3, 1) := by decide +kernel
theorem dX1_countStoppedParts_26 : decode cX1_countStoppedParts 26 = .ok (.ifnull 31, 3) := by decide +kernel
theorem dX1_countStoppedParts_29 : decode cX1_countStoppedParts 29 = .ok (.iload 4, 2) := by decide +kernel
theorem dX1_countStoppedParts_31 : decode cX1_countStoppedParts 31 = .ok (.aload_n 3, 1) := by decide +kernel
theorem dX1_countStoppedParts_32 : decode cX1_countStoppedParts 32 = .ok (.getfield 88, 3) := by decide +kernel
theorem dX1_countStoppedParts_35 : decode cX1_countStoppedParts 35 = .ok (.if_icmp .ge 22, 3) := by decide +kernel
theorem dX1_countStoppedParts_38 : decode cX1_countStoppedParts 38 = .ok (.aload_n 0, 1) := by decide +kernel
theorem dX1_countStoppedParts_39 : decode cX1_countStoppedParts 39 = .ok (.aload_n 3, 1) := by decide +kernel
theorem dX1_countStoppedParts_40 : decode cX1_countStoppedParts 40 = .ok (.iload 4, 2) := by decide +kernel
theorem dX1_countStoppedParts_42 : decode cX1_countStoppedParts 42 = .ok (.invokevirtual 80, 3) := by decide +kernel
theorem dX1_countStoppedParts_45 : decode cX1_countStoppedParts 45 = .ok (.ifCond .eq 6, 3) := by decide +kernel
theorem dX1_countStoppedParts_48 : decode cX1_countStoppedParts 48 = .ok (.iinc 1 1, 3) := by decide +kernel
theorem dX1_countStoppedParts_51 : decode cX1_countStoppedParts 51 = .ok (.iinc 4 1, 3) := by decide +kernel
theorem dX1_countStoppedParts_54 : decode cX1_countStoppedParts 54 = .ok (.goto (-29), 3) := by decide +kernel
theorem dX1_countStoppedParts_57 : decode cX1_countStoppedParts 57 = .ok (.iinc 2 1, 3) := by decide +kernel
theorem dX1_countStoppedParts_60 : decode cX1_countStoppedParts 60 = .ok (.goto (-56), 3) := by decide +kernel
theorem dX1_countStoppedParts_63 : decode cX1_countStoppedParts 63 = .ok (.iload_n 1, 1) := by decide +kernel
theorem dX1_countStoppedParts_64 : decode cX1_countStoppedParts 64 = .ok (.ireturn, 1) := by decide +kernel
theorem dX1_takeRow_0 : decode cX1_takeRow 0 = .ok (.aload_n 1, 1) := by decide +kernel
theorem dX1_takeRow_1 : decode cX1_takeRow 1 = .ok (.getfield 60, 3) := by decide +kernel
theorem dX1_takeRow_4 : decode cX1_takeRow 4 = .ok (.astore 6, 2) := by decide +kernel
theorem dX1_takeRow_6 : decode cX1_takeRow 6 = .ok (.aload 6, 2) := by decide +kernel
theorem dX1_takeRow_8 : decode cX1_takeRow 8 = .ok (.iload_n 2, 1) := by decide +kernel
theorem dX1_takeRow_9 : decode cX1_takeRow 9 = .ok (.aload_n 0, 1) := by decide +kernel
theorem dX1_takeRow_10 : decode cX1_takeRow 10 = .ok (.getfield 91, 3) := by decide +kernel
theorem dX1_takeRow_13 : decode cX1_takeRow 13 = .ok (.invokevirtual 94, 3) := by decide +kernel
theorem dX1_takeRow_16 : decode cX1_takeRow 16 = .ok (.lload_n 3, 1) := by decide +kernel
theorem dX1_takeRow_17 : decode cX1_takeRow 17 = .ok (.aload 6, 2) := by decide +kernel
theorem dX1_takeRow_19 : decode cX1_takeRow 19 = .ok (.getfield 74, 3) := by decide +kernel
theorem dX1_takeRow_22 : decode cX1_takeRow 22 = .ok (.iload_n 2, 1) := by decide +kernel
theorem dX1_takeRow_23 : decode cX1_takeRow 23 = .ok (.laload, 1) := by decide +kernel
theorem dX1_takeRow_24 : decode cX1_takeRow 24 = .ok (.lcmp, 1) := by decide +kernel
theorem dX1_takeRow_25 : decode cX1_takeRow 25 = .ok (.ifCond .le 12, 3) := by decide +kernel
theorem dX1_takeRow_28 : decode cX1_takeRow 28 = .ok (.lload_n 3, 1) := by decide +kernel
theorem dX1_takeRow_29 : decode cX1_takeRow 29 = .ok (.aload_n 1, 1) := by decide +kernel
theorem dX1_takeRow_30 : decode cX1_takeRow 30 = .ok (.getfield 98, 3) := by decide +kernel
theorem dX1_takeRow_33 : decode cX1_takeRow 33 = .ok (.lcmp, 1) := by decide +kernel
theorem dX1_takeRow_34 : decode cX1_takeRow 34 = .ok (.ifCond .gt 20, 3) := by decide +kernel
theorem dX1_takeRow_37 : decode cX1_takeRow 37 = .ok (.aload_n 0, 1) := by decide +kernel
theorem dX1_takeRow_38 : decode cX1_takeRow 38 = .ok (.getfield 15, 3) := by decide +kernel
theorem dX1_takeRow_41 : decode cX1_takeRow 41 = .ok (.aload_n 1, 1) := by decide +kernel
theorem dX1_takeRow_42 : decode cX1_takeRow 42 = .ok (.getfield 101, 3) := by decide +kernel
theorem dX1_takeRow_45 : decode cX1_takeRow 45 = .ok (.lload_n 3, 1) := by decide +kernel
theorem dX1_takeRow_46 : decode cX1_takeRow 46 = .ok (.iload 5, 2) := by decide +kernel
theorem dX1_takeRow_48 : decode cX1_takeRow 48 = .ok (.iconst 1, 1) := by decide +kernel
theorem dX1_takeRow_49 : decode cX1_takeRow 49 = .ok (.invokevirtual 104, 3) := by decide +kernel
theorem dX1_takeRow_52 : decode cX1_takeRow 52 = .ok (.iconst 0, 1) := by decide +kernel
theorem dX1_takeRow_53 : decode cX1_takeRow 53 = .ok (.ireturn, 1) := by decide +kernel
theorem dX1_takeRow_54 : decode cX1_takeRow 54 = .ok (.aload_n 0, 1) := by decide +kernel
theorem dX1_takeRow_55 : decode cX1_takeRow 55 = .ok (.aload_n 1, 1) := by decide +kernel
theorem dX1_takeRow_56 : decode cX1_takeRow 56 = .ok (.lload_n 3, 1) := by decide +kernel
theorem dX1_takeRow_57 : decode cX1_takeRow 57 = .ok (.iload 5, 2) := by decide +kernel
theorem dX1_takeRow_59 : decode cX1_takeRow 59 = .ok (.iconst 1, 1) := by decide +kernel
theorem dX1_takeRow_60 : decode cX1_takeRow 60 = .ok (.iconst 0, 1) := by decide +kernel
theorem dX1_takeRow_61 : decode cX1_takeRow 61 = .ok (.invokevirtual 110, 3) := by decide +kernel
theorem dX1_takeRow_64 : decode cX1_takeRow 64 = .ok (.aload 6, 2) := by decide +kernel
theorem dX1_takeRow_66 : decode cX1_takeRow 66 = .ok (.getfield 114, 3) := by decide +kernel
theorem dX1_takeRow_69 : decode cX1_takeRow 69 = .ok (.ldc2_w 28, 3) := by decide +kernel
theorem dX1_takeRow_72 : decode cX1_takeRow 72 = .ok (.lcmp, 1) := by decide +kernel
theorem dX1_takeRow_73 : decode cX1_takeRow 73 = .ok (.ifCond .eq 22, 3) := by decide +kernel
theorem dX1_takeRow_76 : decode cX1_takeRow 76 = .ok (.aload 6, 2) := by decide +kernel
theorem dX1_takeRow_78 : decode cX1_takeRow 78 = .ok (.iload_n 2, 1) := by decide +kernel
theorem dX1_takeRow_79 : decode cX1_takeRow 79 = .ok (.lload_n 3, 1) := by decide +kernel
theorem dX1_takeRow_80 : decode cX1_takeRow 80 = .ok (.aload 6, 2) := by decide +kernel
theorem dX1_takeRow_82 : decode cX1_takeRow 82 = .ok (.getfield 114, 3) := by decide +kernel
theorem dX1_takeRow_85 : decode cX1_takeRow 85 = .ok (.lneg, 1) := by decide +kernel
theorem dX1_takeRow_86 : decode cX1_takeRow 86 = .ok (.lconst 1, 1) := by decide +kernel
theorem dX1_takeRow_87 : decode cX1_takeRow 87 = .ok (.lsub, 1) := by decide +kernel
theorem dX1_takeRow_88 : decode cX1_takeRow 88 = .ok (.invokestatic 77, 3) := by decide +kernel
theorem dX1_takeRow_91 : decode cX1_takeRow 91 = .ok (.invokevirtual 117, 3) := by decide +kernel
theorem dX1_takeRow_94 : decode cX1_takeRow 94 = .ok (.pop, 1) := by decide +kernel
theorem dX1_takeRow_95 : decode cX1_takeRow 95 = .ok (.iconst 1, 1) := by decide +kernel
theorem dX1_takeRow_96 : decode cX1_takeRow 96 = .ok (.ireturn, 1) := by decide +kernel
theorem dX1_goOn_0 : decode cX1_goOn 0 = .ok (.aload_n 0, 1) := by decide +kernel
theorem dX1_goOn_1 : decode cX1_goOn 1 = .ok (.dup, 1) := by decide +kernel
theorem dX1_goOn_2 : decode cX1_goOn 2 = .ok (.getfield 91, 3) := by decide +kernel
theorem dX1_goOn_5 : decode cX1_goOn 5 = .ok (.iload_n 1, 1) := by decide +kernel
theorem dX1_goOn_6 : decode cX1_goOn 6 = .ok (.iadd, 1) := by decide +kernel
theorem dX1_goOn_7 : decode cX1_goOn 7 = .ok (.putfield 91, 3) := by decide +kernel
theorem dX1_goOn_10 : decode cX1_goOn 10 = .ok (.iconst 0, 1) := by decide +kernel
theorem dX1_goOn_11 : decode cX1_goOn 11 = .ok (.istore_n 2, 1) := by decide +kernel
theorem dX1_goOn_12 : decode cX1_goOn 12 = .ok (.iload_n 2, 1) := by decide +kernel
theorem dX1_goOn_13 : decode cX1_goOn 13 = .ok (.aload_n 0, 1) := by decide +kernel
theorem dX1_goOn_14 : decode cX1_goOn 14 = .ok (.getfield 37, 3) := by decide +kernel
theorem dX1_goOn_17 : decode cX1_goOn 17 = .ok (.if_icmp .ge 76, 3) := by decide +kernel
theorem dX1_goOn_20 : decode cX1_goOn 20 = .ok (.aload_n 0, 1) := by decide +kernel
theorem dX1_goOn_21 : decode cX1_goOn 21 = .ok (.getfield 20, 3) := by decide +kernel
theorem dX1_goOn_24 : decode cX1_goOn 24 = .ok (.iload_n 2, 1) := by decide +kernel
theorem dX1_goOn_25 : decode cX1_goOn 25 = .ok (.aaload, 1) := by decide +kernel
theorem dX1_goOn_26 : decode cX1_goOn 26 = .ok (.getfield 60, 3) := by decide +kernel
theorem dX1_goOn_29 : decode cX1_goOn 29 = .ok (.astore_n 3, 1) := by decide +kernel
theorem dX1_goOn_30 : decode cX1_goOn 30 = .ok (.iconst 0, 1) := by decide +kernel
theorem dX1_goOn_31 : decode cX1_goOn 31 = .ok (.istore 4, 2) := by decide +kernel
theorem dX1_goOn_33 : decode cX1_goOn 33 = .ok (.aload_n 3, 1) := by decide +kernel
theorem dX1_goOn_34 : decode cX1_goOn 34 = .ok (.ifnull 53, 3) := by decide +kernel
theorem dX1_goOn_37 : decode cX1_goOn 37 = .ok (.iload 4, 2) := by decide +kernel
theorem dX1_goOn_39 : decode cX1_goOn 39 = .ok (.aload_n 3, 1) := by decide +kernel
theorem dX1_goOn_40 : decode cX1_goOn 40 = .ok (.getfield 88, 3) := by decide +kernel
theorem dX1_goOn_43 : decode cX1_goOn 43 = .ok (.if_icmp .ge 44, 3) := by decide +kernel
theorem dX1_goOn_46 : decode cX1_goOn 46 = .ok (.aload_n 3, 1) := by decide +kernel
theorem dX1_goOn_47 : decode cX1_goOn 47 = .ok (.getfield 121, 3) := by decide +kernel
theorem dX1_goOn_50 : decode cX1_goOn 50 = .ok (.iload 4, 2) := by decide +kernel
theorem dX1_goOn_52 : decode cX1_goOn 52 = .ok (.aload_n 3, 1) := by decide +kernel
theorem dX1_goOn_53 : decode cX1_goOn 53 = .ok (.iload 4, 2) := by decide +kernel
theorem dX1_goOn_55 : decode cX1_goOn 55 = .ok (.aload_n 0, 1) := by decide +kernel
theorem dX1_goOn_56 : decode cX1_goOn 56 = .ok (.getfield 91, 3) := by decide +kernel
theorem dX1_goOn_59 : decode cX1_goOn 59 = .ok (.invokevirtual 125, 3) := by decide +kernel
theorem dX1_goOn_62 : decode cX1_goOn 62 = .ok (.ifCond .eq 17, 3) := by decide +kernel
theorem dX1_goOn_65 : decode cX1_goOn 65 = .ok (.aload_n 0, 1) := by decide +kernel
theorem dX1_goOn_66 : decode cX1_goOn 66 = .ok (.aload_n 3, 1) := by decide +kernel
theorem dX1_goOn_67 : decode cX1_goOn 67 = .ok (.iload 4, 2) := by decide +kernel
theorem dX1_goOn_69 : decode cX1_goOn 69 = .ok (.invokevirtual 80, 3) := by decide +kernel
theorem dX1_goOn_72 : decode cX1_goOn 72 = .ok (.ifCond .ne 7, 3) := by decide +kernel
theorem dX1_goOn_75 : decode cX1_goOn 75 = .ok (.iconst 1, 1) := by decide +kernel
theorem dX1_goOn_76 : decode cX1_goOn 76 = .ok (.goto 4, 3) := by decide +kernel
theorem dX1_goOn_79 : decode cX1_goOn 79 = .ok (.iconst 0, 1) := by decide +kernel
theorem dX1_goOn_80 : decode cX1_goOn 80 = .ok (.bastore, 1) := by decide +kernel
theorem dX1_goOn_81 : decode cX1_goOn 81 = .ok (.iinc 4 1, 3) := by decide +kernel
theorem dX1_goOn_84 : decode cX1_goOn 84 = .ok (.goto (-51), 3) := by decide +kernel
theorem dX1_goOn_87 : decode cX1_goOn 87 = .ok (.iinc 2 1, 3) := by decide +kernel
theorem dX1_goOn_90 : decode cX1_goOn 90 = .ok (.goto (-78), 3) := by decide +kernel
theorem dX1_goOn_93 : decode cX1_goOn 93 = .ok (.iconst 0, 1) := by decide +kernel
theorem dX1_goOn_94 : decode cX1_goOn 94 = .ok (.istore_n 2, 1) := by decide +kernel
theorem dX1_goOn_95 : decode cX1_goOn 95 = .ok (.iconst 0, 1) := by decide +kernel
theorem dX1_goOn_96 : decode cX1_goOn 96 = .ok (.istore_n 3, 1) := by decide +kernel
theorem dX1_goOn_97 : decode cX1_goOn 97 = .ok (.iload_n 3, 1) := by decide +kernel
theorem dX1_goOn_98 : decode cX1_goOn 98 = .ok (.aload_n 0, 1) := by decide +kernel
theorem dX1_goOn_99 : decode cX1_goOn 99 = .ok (.getfield 37, 3) := by decide +kernel
theorem dX1_goOn_102 : decode cX1_goOn 102 = .ok (.if_icmp .ge 67, 3) := by decide +kernel
theorem dX1_goOn_105 : decode cX1_goOn 105 = .ok (.aload_n 0, 1) := by decide +kernel
theorem dX1_goOn_106 : decode cX1_goOn 106 = .ok (.getfield 20, 3) := by decide +kernel
theorem dX1_goOn_109 : decode cX1_goOn 109 = .ok (.iload_n 3, 1) := by decide +kernel
theorem dX1_goOn_110 : decode cX1_goOn 110 = .ok (.aaload, 1) := by decide +kernel
theorem dX1_goOn_111 : decode cX1_goOn 111 = .ok (.getfield 60, 3) := by decide +kernel
theorem dX1_goOn_114 : decode cX1_goOn 114 = .ok (.astore 4, 2) := by decide +kernel
theorem dX1_goOn_116 : decode cX1_goOn 116 = .ok (.iconst 0, 1) := by decide +kernel
theorem dX1_goOn_117 : decode cX1_goOn 117 = .ok (.istore 5, 2) := by decide +kernel
theorem dX1_goOn_119 : decode cX1_goOn 119 = .ok (.aload 4, 2) := by decide +kernel
theorem dX1_goOn_121 : decode cX1_goOn 121 = .ok (.ifnull 42, 3) := by decide +kernel
theorem dX1_goOn_124 : decode cX1_goOn 124 = .ok (.iload 5, 2) := by decide +kernel
theorem dX1_goOn_126 : decode cX1_goOn 126 = .ok (.aload 4, 2) := by decide +kernel
theorem dX1_goOn_128 : decode cX1_goOn 128 = .ok (.getfield 88, 3) := by decide +kernel
theorem dX1_goOn_131 : decode cX1_goOn 131 = .ok (.if_icmp .ge 32, 3) := by decide +kernel
theorem dX1_goOn_134 : decode cX1_goOn 134 = .ok (.aload 4, 2) := by decide +kernel
theorem dX1_goOn_136 : decode cX1_goOn 136 = .ok (.getfield 121, 3) := by decide +kernel
theorem dX1_goOn_139 : decode cX1_goOn 139 = .ok (.iload 5, 2) := by decide +kernel
theorem dX1_goOn_141 : decode cX1_goOn 141 = .ok (.baload, 1) := by decide +kernel
theorem dX1_goOn_142 : decode cX1_goOn 142 = .ok (.ifCond .eq 15, 3) := by decide +kernel
theorem dX1_goOn_145 : decode cX1_goOn 145 = .ok (.aload 4, 2) := by decide +kernel
theorem dX1_goOn_147 : decode cX1_goOn 147 = .ok (.getfield 45, 3) := by decide +kernel
theorem dX1_goOn_150 : decode cX1_goOn 150 = .ok (.iload 5, 2) := by decide +kernel
theorem dX1_goOn_152 : decode cX1_goOn 152 = .ok (.iconst 1, 1) := by decide +kernel
theorem dX1_goOn_153 : decode cX1_goOn 153 = .ok (.iastore, 1) := by decide +kernel
theorem dX1_goOn_154 : decode cX1_goOn 154 = .ok (.iinc 2 1, 3) := by decide +kernel
theorem dX1_goOn_157 : decode cX1_goOn 157 = .ok (.iinc 5 1, 3) := by decide +kernel
theorem dX1_goOn_160 : decode cX1_goOn 160 = .ok (.goto (-41), 3) := by decide +kernel
theorem dX1_goOn_163 : decode cX1_goOn 163 = .ok (.iinc 3 1, 3) := by decide +kernel
theorem dX1_goOn_166 : decode cX1_goOn 166 = .ok (.goto (-69), 3) := by decide +kernel
theorem dX1_goOn_169 : decode cX1_goOn 169 = .ok (.iload_n 2, 1) := by decide +kernel
theorem dX1_goOn_170 : decode cX1_goOn 170 = .ok (.ireturn, 1) := by decide +kernel
theorem dX1_emit_0 : decode cX1_emit 0 = .ok (.aload_n 0, 1) := by decide +kernel
theorem dX1_emit_1 : decode cX1_emit 1 = .ok (.aload_n 0, 1) := by decide +kernel
theorem dX1_emit_2 : decode cX1_emit 2 = .ok (.getfield 20, 3) := by decide +kernel
theorem dX1_emit_5 : decode cX1_emit 5 = .ok (.aload_n 0, 1) := by decide +kernel
theorem dX1_emit_6 : decode cX1_emit 6 = .ok (.getfield 33, 3) := by decide +kernel
theorem dX1_emit_9 : decode cX1_emit 9 = .ok (.getfield 129, 3) := by decide +kernel
theorem dX1_emit_12 : decode cX1_emit 12 = .ok (.iload_n 1, 1) := by decide +kernel
theorem dX1_emit_13 : decode cX1_emit 13 = .ok (.iaload, 1) := by decide +kernel
theorem dX1_emit_14 : decode cX1_emit 14 = .ok (.aaload, 1) := by decide +kernel
theorem dX1_emit_15 : decode cX1_emit 15 = .ok (.aload_n 0, 1) := by decide +kernel
theorem dX1_emit_16 : decode cX1_emit 16 = .ok (.getfield 33, 3) := by decide +kernel
theorem dX1_emit_19 : decode cX1_emit 19 = .ok (.getfield 132, 3) := by decide +kernel
theorem dX1_emit_22 : decode cX1_emit 22 = .ok (.iload_n 1, 1) := by decide +kernel
theorem dX1_emit_23 : decode cX1_emit 23 = .ok (.laload, 1) := by decide +kernel
theorem dX1_emit_24 : decode cX1_emit 24 = .ok (.iload_n 2, 1) := by decide +kernel
theorem dX1_emit_25 : decode cX1_emit 25 = .ok (.iconst 1, 1) := by decide +kernel
theorem dX1_emit_26 : decode cX1_emit 26 = .ok (.iconst 0, 1) := by decide +kernel
theorem dX1_emit_27 : decode cX1_emit 27 = .ok (.invokevirtual 110, 3) := by decide +kernel
theorem dX1_emit_30 : decode cX1_emit 30 = .ok (.return_, 1) := by decide +kernel
theorem dX1_passOn_0 : decode cX1_passOn 0 = .ok (.aload_n 1, 1) := by decide +kernel
theorem dX1_passOn_1 : decode cX1_passOn 1 = .ok (.getfield 135, 3) := by decide +kernel
theorem dX1_passOn_4 : decode cX1_passOn 4 = .ok (.astore 7, 2) := by decide +kernel
theorem dX1_passOn_6 : decode cX1_passOn 6 = .ok (.aload 7, 2) := by decide +kernel
theorem dX1_passOn_8 : decode cX1_passOn 8 = .ok (.ifnonnull 20, 3) := by decide +kernel
theorem dX1_passOn_11 : decode cX1_passOn 11 = .ok (.aload_n 0, 1) := by decide +kernel
theorem dX1_passOn_12 : decode cX1_passOn 12 = .ok (.getfield 9, 3) := by decide +kernel
theorem dX1_passOn_15 : decode cX1_passOn 15 = .ok (.aload_n 1, 1) := by decide +kernel
theorem dX1_passOn_16 : decode cX1_passOn 16 = .ok (.getfield 101, 3) := by decide +kernel
theorem dX1_passOn_19 : decode cX1_passOn 19 = .ok (.lload_n 2, 1) := by decide +kernel
theorem dX1_passOn_20 : decode cX1_passOn 20 = .ok (.iload 4, 2) := by decide +kernel
theorem dX1_passOn_22 : decode cX1_passOn 22 = .ok (.iload 5, 2) := by decide +kernel
theorem dX1_passOn_24 : decode cX1_passOn 24 = .ok (.invokevirtual 104, 3) := by decide +kernel
theorem dX1_passOn_27 : decode cX1_passOn 27 = .ok (.return_, 1) := by decide +kernel
theorem dX1_passOn_28 : decode cX1_passOn 28 = .ok (.iload 6, 2) := by decide +kernel
theorem dX1_passOn_30 : decode cX1_passOn 30 = .ok (.bipush 12, 2) := by decide +kernel
theorem dX1_passOn_32 : decode cX1_passOn 32 = .ok (.if_icmp .lt 4, 3) := by decide +kernel
theorem dX1_passOn_35 : decode cX1_passOn 35 = .ok (.return_, 1) := by decide +kernel
theorem dX1_passOn_36 : decode cX1_passOn 36 = .ok (.lload_n 2, 1) := by decide +kernel
theorem dX1_passOn_37 : decode cX1_passOn 37 = .ok (.aload 7, 2) := by decide +kernel
theorem dX1_passOn_39 : decode cX1_passOn 39 = .ok (.getfield 139, 3) := by decide +kernel
theorem dX1_passOn_42 : decode cX1_passOn 42 = .ok (.invokestatic 77, 3) := by decide +kernel
theorem dX1_passOn_45 : decode cX1_passOn 45 = .ok (.lstore 8, 2) := by decide +kernel
theorem dX1_passOn_47 : decode cX1_passOn 47 = .ok (.lload 8, 2) := by decide +kernel
theorem dX1_passOn_49 : decode cX1_passOn 49 = .ok (.aload 7, 2) := by decide +kernel
theorem dX1_passOn_51 : decode cX1_passOn 51 = .ok (.getfield 98, 3) := by decide +kernel
theorem dX1_passOn_54 : decode cX1_passOn 54 = .ok (.lcmp, 1) := by decide +kernel
theorem dX1_passOn_55 : decode cX1_passOn 55 = .ok (.ifCond .gt 24, 3) := by decide +kernel
theorem dX1_passOn_58 : decode cX1_passOn 58 = .ok (.aload_n 0, 1) := by decide +kernel
theorem dX1_passOn_59 : decode cX1_passOn 59 = .ok (.getfield 15, 3) := by decide +kernel
theorem dX1_passOn_62 : decode cX1_passOn 62 = .ok (.aload 7, 2) := by decide +kernel
theorem dX1_passOn_64 : decode cX1_passOn 64 = .ok (.getfield 101, 3) := by decide +kernel
theorem dX1_passOn_67 : decode cX1_passOn 67 = .ok (.lload 8, 2) := by decide +kernel
theorem dX1_passOn_69 : decode cX1_passOn 69 = .ok (.iload 4, 2) := by decide +kernel
theorem dX1_passOn_71 : decode cX1_passOn 71 = .ok (.iload 5, 2) := by decide +kernel
theorem dX1_passOn_73 : decode cX1_passOn 73 = .ok (.invokevirtual 104, 3) := by decide +kernel
theorem dX1_passOn_76 : decode cX1_passOn 76 = .ok (.goto 94, 3) := by decide +kernel
theorem dX1_passOn_79 : decode cX1_passOn 79 = .ok (.aload 7, 2) := by decide +kernel
theorem dX1_passOn_81 : decode cX1_passOn 81 = .ok (.getfield 142, 3) := by decide +kernel
theorem dX1_passOn_84 : decode cX1_passOn 84 = .ok (.ifnull 29, 3) := by decide +kernel
theorem dX1_passOn_87 : decode cX1_passOn 87 = .ok (.aload_n 0, 1) := by decide +kernel
theorem dX1_passOn_88 : decode cX1_passOn 88 = .ok (.dup, 1) := by decide +kernel
theorem dX1_passOn_89 : decode cX1_passOn 89 = .ok (.getfield 146, 3) := by decide +kernel
theorem dX1_passOn_92 : decode cX1_passOn 92 = .ok (.aload 7, 2) := by decide +kernel
theorem dX1_passOn_94 : decode cX1_passOn 94 = .ok (.getfield 142, 3) := by decide +kernel
theorem dX1_passOn_97 : decode cX1_passOn 97 = .ok (.lload 8, 2) := by decide +kernel
theorem dX1_passOn_99 : decode cX1_passOn 99 = .ok (.iload 4, 2) := by decide +kernel
theorem dX1_passOn_101 : decode cX1_passOn 101 = .ok (.iload 5, 2) := by decide +kernel
theorem dX1_passOn_103 : decode cX1_passOn 103 = .ok (.invokevirtual 149, 3) := by decide +kernel
theorem dX1_passOn_106 : decode cX1_passOn 106 = .ok (.iadd, 1) := by decide +kernel
theorem dX1_passOn_107 : decode cX1_passOn 107 = .ok (.putfield 146, 3) := by decide +kernel
theorem dX1_passOn_110 : decode cX1_passOn 110 = .ok (.goto 60, 3) := by decide +kernel
theorem dX1_passOn_113 : decode cX1_passOn 113 = .ok (.aload 7, 2) := by decide +kernel
theorem dX1_passOn_115 : decode cX1_passOn 115 = .ok (.getfield 155, 3) := by decide +kernel
theorem dX1_passOn_118 : decode cX1_passOn 118 = .ok (.ifnull 36, 3) := by decide +kernel
theorem dX1_passOn_121 : decode cX1_passOn 121 = .ok (.aload_n 0, 1) := by decide +kernel
theorem dX1_passOn_122 : decode cX1_passOn 122 = .ok (.aload 7, 2) := by decide +kernel
theorem dX1_passOn_124 : decode cX1_passOn 124 = .ok (.aload_n 1, 1) := by decide +kernel
theorem dX1_passOn_125 : decode cX1_passOn 125 = .ok (.aload 7, 2) := by decide +kernel
theorem dX1_passOn_127 : decode cX1_passOn 127 = .ok (.getfield 159, 3) := by decide +kernel
theorem dX1_passOn_130 : decode cX1_passOn 130 = .ok (.iconst 0, 1) := by decide +kernel
theorem dX1_passOn_131 : decode cX1_passOn 131 = .ok (.aaload, 1) := by decide +kernel
theorem dX1_passOn_132 : decode cX1_passOn 132 = .ok (.if_acmp .ne 7, 3) := by decide +kernel
theorem dX1_passOn_135 : decode cX1_passOn 135 = .ok (.iconst 0, 1) := by decide +kernel
theorem dX1_passOn_136 : decode cX1_passOn 136 = .ok (.goto 4, 3) := by decide +kernel
theorem dX1_passOn_139 : decode cX1_passOn 139 = .ok (.iconst 1, 1) := by decide +kernel
theorem dX1_passOn_140 : decode cX1_passOn 140 = .ok (.lload 8, 2) := by decide +kernel
theorem dX1_passOn_142 : decode cX1_passOn 142 = .ok (.iload 4, 2) := by decide +kernel
theorem dX1_passOn_144 : decode cX1_passOn 144 = .ok (.iload 5, 2) := by decide +kernel
theorem dX1_passOn_146 : decode cX1_passOn 146 = .ok (.iload 6, 2) := by decide +kernel
theorem dX1_passOn_148 : decode cX1_passOn 148 = .ok (.invokevirtual 162, 3) := by decide +kernel
theorem dX1_passOn_151 : decode cX1_passOn 151 = .ok (.goto 19, 3) := by decide +kernel
theorem dX1_passOn_154 : decode cX1_passOn 154 = .ok (.aload_n 0, 1) := by decide +kernel
theorem dX1_passOn_155 : decode cX1_passOn 155 = .ok (.aload 7, 2) := by decide +kernel
theorem dX1_passOn_157 : decode cX1_passOn 157 = .ok (.lload 8, 2) := by decide +kernel
theorem dX1_passOn_159 : decode cX1_passOn 159 = .ok (.iload 4, 2) := by decide +kernel
theorem dX1_passOn_161 : decode cX1_passOn 161 = .ok (.iload 5, 2) := by decide +kernel
theorem dX1_passOn_163 : decode cX1_passOn 163 = .ok (.iload 6, 2) := by decide +kernel
theorem dX1_passOn_165 : decode cX1_passOn 165 = .ok (.iconst 1, 1) := by decide +kernel
theorem dX1_passOn_166 : decode cX1_passOn 166 = .ok (.iadd, 1) := by decide +kernel
theorem dX1_passOn_167 : decode cX1_passOn 167 = .ok (.invokevirtual 110, 3) := by decide +kernel
theorem dX1_passOn_170 : decode cX1_passOn 170 = .ok (.return_, 1) := by decide +kernel
theorem dX1_comeToJoin_0 : decode cX1_comeToJoin 0 = .ok (.aload_n 1, 1) := by decide +kernel
theorem dX1_comeToJoin_1 : decode cX1_comeToJoin 1 = .ok (.getfield 155, 3) := by decide +kernel
theorem dX1_comeToJoin_4 : decode cX1_comeToJoin 4 = .ok (.astore 8, 2) := by decide +kernel
theorem dX1_comeToJoin_6 : decode cX1_comeToJoin 6 = .ok (.iconst 1, 1) := by decide +kernel
theorem dX1_comeToJoin_7 : decode cX1_comeToJoin 7 = .ok (.iload_n 2, 1) := by decide +kernel
theorem dX1_comeToJoin_8 : decode cX1_comeToJoin 8 = .ok (.isub, 1) := by decide +kernel
theorem dX1_comeToJoin_9 : decode cX1_comeToJoin 9 = .ok (.istore 9, 2) := by decide +kernel
theorem dX1_comeToJoin_11 : decode cX1_comeToJoin 11 = .ok (.iconst 0, 1) := by decide +kernel
theorem dX1_comeToJoin_12 : decode cX1_comeToJoin 12 = .ok (.istore 10, 2) := by decide +kernel
theorem dX1_comeToJoin_14 : decode cX1_comeToJoin 14 = .ok (.iload 10, 2) := by decide +kernel
theorem dX1_comeToJoin_16 : decode cX1_comeToJoin 16 = .ok (.aload 8, 2) := by decide +kernel
theorem dX1_comeToJoin_18 : decode cX1_comeToJoin 18 = .ok (.getfield 166, 3) := by decide +kernel
theorem dX1_comeToJoin_21 : decode cX1_comeToJoin 21 = .ok (.iload 9, 2) := by decide +kernel
theorem dX1_comeToJoin_23 : decode cX1_comeToJoin 23 = .ok (.iaload, 1) := by decide +kernel
theorem dX1_comeToJoin_24 : decode cX1_comeToJoin 24 = .ok (.if_icmp .ge 67, 3) := by decide +kernel
theorem dX1_comeToJoin_27 : decode cX1_comeToJoin 27 = .ok (.aload 8, 2) := by decide +kernel
theorem dX1_comeToJoin_29 : decode cX1_comeToJoin 29 = .ok (.iload_n 2, 1) := by decide +kernel
theorem dX1_comeToJoin_30 : decode cX1_comeToJoin 30 = .ok (.lload_n 3, 1) := by decide +kernel
theorem dX1_comeToJoin_31 : decode cX1_comeToJoin 31 = .ok (.iload 5, 2) := by decide +kernel
theorem dX1_comeToJoin_33 : decode cX1_comeToJoin 33 = .ok (.iload 10, 2) := by decide +kernel
theorem dX1_comeToJoin_35 : decode cX1_comeToJoin 35 = .ok (.invokevirtual 171, 3) := by decide +kernel
theorem dX1_comeToJoin_38 : decode cX1_comeToJoin 38 = .ok (.ifCond .eq 47, 3) := by decide +kernel
theorem dX1_comeToJoin_41 : decode cX1_comeToJoin 41 = .ok (.lload_n 3, 1) := by decide +kernel
theorem dX1_comeToJoin_42 : decode cX1_comeToJoin 42 = .ok (.aload 8, 2) := by decide +kernel
theorem dX1_comeToJoin_44 : decode cX1_comeToJoin 44 = .ok (.getfield 175, 3) := by decide +kernel
theorem dX1_comeToJoin_47 : decode cX1_comeToJoin 47 = .ok (.iload 9, 2) := by decide +kernel
theorem dX1_comeToJoin_49 : decode cX1_comeToJoin 49 = .ok (.aaload, 1) := by decide +kernel
theorem dX1_comeToJoin_50 : decode cX1_comeToJoin 50 = .ok (.iload 10, 2) := by decide +kernel
theorem dX1_comeToJoin_52 : decode cX1_comeToJoin 52 = .ok (.laload, 1) := by decide +kernel
theorem dX1_comeToJoin_53 : decode cX1_comeToJoin 53 = .ok (.invokestatic 178, 3) := by decide +kernel
theorem dX1_comeToJoin_56 : decode cX1_comeToJoin 56 = .ok (.lstore 11, 2) := by decide +kernel
theorem dX1_comeToJoin_58 : decode cX1_comeToJoin 58 = .ok (.aload_n 0, 1) := by decide +kernel
theorem dX1_comeToJoin_59 : decode cX1_comeToJoin 59 = .ok (.aload_n 1, 1) := by decide +kernel
theorem dX1_comeToJoin_60 : decode cX1_comeToJoin 60 = .ok (.lload 11, 2) := by decide +kernel
theorem dX1_comeToJoin_62 : decode cX1_comeToJoin 62 = .ok (.iload 5, 2) := by decide +kernel
theorem dX1_comeToJoin_64 : decode cX1_comeToJoin 64 = .ok (.iload 6, 2) := by decide +kernel
theorem dX1_comeToJoin_66 : decode cX1_comeToJoin 66 = .ok (.aload 8, 2) := by decide +kernel
theorem dX1_comeToJoin_68 : decode cX1_comeToJoin 68 = .ok (.getfield 181, 3) := by decide +kernel
theorem dX1_comeToJoin_71 : decode cX1_comeToJoin 71 = .ok (.iload 9, 2) := by decide +kernel
theorem dX1_comeToJoin_73 : decode cX1_comeToJoin 73 = .ok (.aaload, 1) := by decide +kernel
theorem dX1_comeToJoin_74 : decode cX1_comeToJoin 74 = .ok (.iload 10, 2) := by decide +kernel
theorem dX1_comeToJoin_76 : decode cX1_comeToJoin 76 = .ok (.iaload, 1) := by decide +kernel
theorem dX1_comeToJoin_77 : decode cX1_comeToJoin 77 = .ok (.imul, 1) := by decide +kernel
theorem dX1_comeToJoin_78 : decode cX1_comeToJoin 78 = .ok (.iload 7, 2) := by decide +kernel
theorem dX1_comeToJoin_80 : decode cX1_comeToJoin 80 = .ok (.iconst 1, 1) := by decide +kernel
theorem dX1_comeToJoin_81 : decode cX1_comeToJoin 81 = .ok (.iadd, 1) := by decide +kernel
theorem dX1_comeToJoin_82 : decode cX1_comeToJoin 82 = .ok (.invokevirtual 110, 3) := by decide +kernel
theorem dX1_comeToJoin_85 : decode cX1_comeToJoin 85 = .ok (.iinc 10 1, 3) := by decide +kernel
theorem dX1_comeToJoin_88 : decode cX1_comeToJoin 88 = .ok (.goto (-74), 3) := by decide +kernel
theorem dX1_comeToJoin_91 : decode cX1_comeToJoin 91 = .ok (.aload 8, 2) := by decide +kernel
theorem dX1_comeToJoin_93 : decode cX1_comeToJoin 93 = .ok (.iload_n 2, 1) := by decide +kernel
theorem dX1_comeToJoin_94 : decode cX1_comeToJoin 94 = .ok (.lload_n 3, 1) := by decide +kernel
theorem dX1_comeToJoin_95 : decode cX1_comeToJoin 95 = .ok (.invokevirtual 185, 3) := by decide +kernel
theorem dX1_comeToJoin_98 : decode cX1_comeToJoin 98 = .ok (.ifCond .ne 23, 3) := by decide +kernel
theorem dX1_comeToJoin_101 : decode cX1_comeToJoin 101 = .ok (.aload_n 0, 1) := by decide +kernel
theorem dX1_comeToJoin_102 : decode cX1_comeToJoin 102 = .ok (.dup, 1) := by decide +kernel
theorem dX1_comeToJoin_103 : decode cX1_comeToJoin 103 = .ok (.getfield 146, 3) := by decide +kernel
theorem dX1_comeToJoin_106 : decode cX1_comeToJoin 106 = .ok (.aload 8, 2) := by decide +kernel
theorem dX1_comeToJoin_108 : decode cX1_comeToJoin 108 = .ok (.iload_n 2, 1) := by decide +kernel
theorem dX1_comeToJoin_109 : decode cX1_comeToJoin 109 = .ok (.lload_n 3, 1) := by decide +kernel
theorem dX1_comeToJoin_110 : decode cX1_comeToJoin 110 = .ok (.iload 5, 2) := by decide +kernel
theorem dX1_comeToJoin_112 : decode cX1_comeToJoin 112 = .ok (.iload 6, 2) := by decide +kernel
theorem dX1_comeToJoin_114 : decode cX1_comeToJoin 114 = .ok (.invokevirtual 188, 3) := by decide +kernel
theorem dX1_comeToJoin_117 : decode cX1_comeToJoin 117 = .ok (.iadd, 1) := by decide +kernel
theorem dX1_comeToJoin_118 : decode cX1_comeToJoin 118 = .ok (.putfield 146, 3) := by decide +kernel
theorem dX1_comeToJoin_121 : decode cX1_comeToJoin 121 = .ok (.return_, 1) := by decide +kernel
theorem dX1_reckon_0 : decode cX1_reckon 0 = .ok (.iconst 0, 1) := by decide +kernel
theorem dX1_reckon_1 : decode cX1_reckon 1 = .ok (.istore_n 1, 1) := by decide +kernel
theorem dX1_reckon_2 : decode cX1_reckon 2 = .ok (.iload_n 1, 1) := by decide +kernel
theorem dX1_reckon_3 : decode cX1_reckon 3 = .ok (.aload_n 0, 1) := by decide +kernel
theorem dX1_reckon_4 : decode cX1_reckon 4 = .ok (.getfield 37, 3) := by decide +kernel
theorem dX1_reckon_7 : decode cX1_reckon 7 = .ok (.if_icmp .ge 79, 3) := by decide +kernel
theorem dX1_reckon_10 : decode cX1_reckon 10 = .ok (.aload_n 0, 1) := by decide +kernel
theorem dX1_reckon_11 : decode cX1_reckon 11 = .ok (.getfield 20, 3) := by decide +kernel
theorem dX1_reckon_14 : decode cX1_reckon 14 = .ok (.iload_n 1, 1) := by decide +kernel
theorem dX1_reckon_15 : decode cX1_reckon 15 = .ok (.aaload, 1) := by decide +kernel
theorem dX1_reckon_16 : decode cX1_reckon 16 = .ok (.astore_n 2, 1) := by decide +kernel
theorem dX1_reckon_17 : decode cX1_reckon 17 = .ok (.aload_n 0, 1) := by decide +kernel
theorem dX1_reckon_18 : decode cX1_reckon 18 = .ok (.aload_n 2, 1) := by decide +kernel
theorem dX1_reckon_19 : decode cX1_reckon 19 = .ok (.invokevirtual 192, 3) := by decide +kernel
theorem dX1_reckon_22 : decode cX1_reckon 22 = .ok (.lstore_n 3, 1) := by decide +kernel
theorem dX1_reckon_23 : decode cX1_reckon 23 = .ok (.aload_n 2, 1) := by decide +kernel
theorem dX1_reckon_24 : decode cX1_reckon 24 = .ok (.lload_n 3, 1) := by decide +kernel
theorem dX1_reckon_25 : decode cX1_reckon 25 = .ok (.ldc2_w 196, 3) := by decide +kernel
theorem dX1_reckon_28 : decode cX1_reckon 28 = .ok (.lcmp, 1) := by decide +kernel
theorem dX1_reckon_29 : decode cX1_reckon 29 = .ok (.ifCond .ne 7, 3) := by decide +kernel
theorem dX1_reckon_32 : decode cX1_reckon 32 = .ok (.iconst 1, 1) := by decide +kernel
theorem dX1_reckon_33 : decode cX1_reckon 33 = .ok (.goto 4, 3) := by decide +kernel
theorem dX1_reckon_36 : decode cX1_reckon 36 = .ok (.iconst 0, 1) := by decide +kernel
theorem dX1_reckon_37 : decode cX1_reckon 37 = .ok (.putfield 198, 3) := by decide +kernel
theorem dX1_reckon_40 : decode cX1_reckon 40 = .ok (.lload_n 3, 1) := by decide +kernel
theorem dX1_reckon_41 : decode cX1_reckon 41 = .ok (.aload_n 2, 1) := by decide +kernel
theorem dX1_reckon_42 : decode cX1_reckon 42 = .ok (.getfield 98, 3) := by decide +kernel
theorem dX1_reckon_45 : decode cX1_reckon 45 = .ok (.lcmp, 1) := by decide +kernel
theorem dX1_reckon_46 : decode cX1_reckon 46 = .ok (.ifCond .le 8, 3) := by decide +kernel
theorem dX1_reckon_49 : decode cX1_reckon 49 = .ok (.aload_n 2, 1) := by decide +kernel
theorem dX1_reckon_50 : decode cX1_reckon 50 = .ok (.lload_n 3, 1) := by decide +kernel
theorem dX1_reckon_51 : decode cX1_reckon 51 = .ok (.putfield 98, 3) := by decide +kernel
theorem dX1_reckon_54 : decode cX1_reckon 54 = .ok (.aload_n 2, 1) := by decide +kernel
theorem dX1_reckon_55 : decode cX1_reckon 55 = .ok (.getfield 142, 3) := by decide +kernel
theorem dX1_reckon_58 : decode cX1_reckon 58 = .ok (.ifnull 8, 3) := by decide +kernel
theorem dX1_reckon_61 : decode cX1_reckon 61 = .ok (.aload_n 0, 1) := by decide +kernel
theorem dX1_reckon_62 : decode cX1_reckon 62 = .ok (.aload_n 2, 1) := by decide +kernel
theorem dX1_reckon_63 : decode cX1_reckon 63 = .ok (.invokevirtual 202, 3) := by decide +kernel
theorem dX1_reckon_66 : decode cX1_reckon 66 = .ok (.aload_n 2, 1) := by decide +kernel
theorem dX1_reckon_67 : decode cX1_reckon 67 = .ok (.getfield 155, 3) := by decide +kernel
theorem dX1_reckon_70 : decode cX1_reckon 70 = .ok (.ifnull 10, 3) := by decide +kernel
theorem dX1_reckon_73 : decode cX1_reckon 73 = .ok (.aload_n 2, 1) := by decide +kernel
theorem dX1_reckon_74 : decode cX1_reckon 74 = .ok (.getfield 155, 3) := by decide +kernel
theorem dX1_reckon_77 : decode cX1_reckon 77 = .ok (.invokevirtual 206, 3) := by decide +kernel
theorem dX1_reckon_80 : decode cX1_reckon 80 = .ok (.iinc 1 1, 3) := by decide +kernel
theorem dX1_reckon_83 : decode cX1_reckon 83 = .ok (.goto (-81), 3) := by decide +kernel
theorem dX1_reckon_86 : decode cX1_reckon 86 = .ok (.return_, 1) := by decide +kernel
theorem dX1_goalOf_0 : decode cX1_goalOf 0 = .ok (.aload_n 1, 1) := by decide +kernel
theorem dX1_goalOf_1 : decode cX1_goalOf 1 = .ok (.getfield 60, 3) := by decide +kernel
theorem dX1_goalOf_4 : decode cX1_goalOf 4 = .ok (.ifnull 11, 3) := by decide +kernel
theorem dX1_goalOf_7 : decode cX1_goalOf 7 = .ok (.aload_n 1, 1) := by decide +kernel
theorem dX1_goalOf_8 : decode cX1_goalOf 8 = .ok (.getfield 60, 3) := by decide +kernel
theorem dX1_goalOf_11 : decode cX1_goalOf 11 = .ok (.invokevirtual 209, 3) := by decide +kernel
theorem dX1_goalOf_14 : decode cX1_goalOf 14 = .ok (.lreturn, 1) := by decide +kernel
theorem dX1_goalOf_15 : decode cX1_goalOf 15 = .ok (.aload_n 1, 1) := by decide +kernel
theorem dX1_goalOf_16 : decode cX1_goalOf 16 = .ok (.getfield 212, 3) := by decide +kernel
theorem dX1_goalOf_19 : decode cX1_goalOf 19 = .ok (.ldc2_w 215, 3) := by decide +kernel
theorem dX1_goalOf_22 : decode cX1_goalOf 22 = .ok (.lcmp, 1) := by decide +kernel
theorem dX1_goalOf_23 : decode cX1_goalOf 23 = .ok (.ifCond .eq 14, 3) := by decide +kernel
theorem dX1_goalOf_26 : decode cX1_goalOf 26 = .ok (.aload_n 1, 1) := by decide +kernel
theorem dX1_goalOf_27 : decode cX1_goalOf 27 = .ok (.getfield 212, 3) := by decide +kernel
theorem dX1_goalOf_30 : decode cX1_goalOf 30 = .ok (.ldc2_w 217, 3) := by decide +kernel
theorem dX1_goalOf_33 : decode cX1_goalOf 33 = .ok (.lcmp, 1) := by decide +kernel
theorem dX1_goalOf_34 : decode cX1_goalOf 34 = .ok (.ifCond .ne 8, 3) := by decide +kernel
theorem dX1_goalOf_37 : decode cX1_goalOf 37 = .ok (.aload_n 1, 1) := by decide +kernel
theorem dX1_goalOf_38 : decode cX1_goalOf 38 = .ok (.invokevirtual 219, 3) := by decide +kernel
theorem dX1_goalOf_41 : decode cX1_goalOf 41 = .ok (.lreturn, 1) := by decide +kernel
theorem dX1_goalOf_42 : decode cX1_goalOf 42 = .ok (.aload_n 1, 1) := by decide +kernel
theorem dX1_goalOf_43 : decode cX1_goalOf 43 = .ok (.getfield 159, 3) := by decide +kernel
theorem dX1_goalOf_46 : decode cX1_goalOf 46 = .ok (.iconst 0, 1) := by decide +kernel
theorem dX1_goalOf_47 : decode cX1_goalOf 47 = .ok (.aaload, 1) := by decide +kernel
theorem dX1_goalOf_48 : decode cX1_goalOf 48 = .ok (.astore_n 2, 1) := by decide +kernel
theorem dX1_goalOf_49 : decode cX1_goalOf 49 = .ok (.aload_n 1, 1) := by decide +kernel
theorem dX1_goalOf_50 : decode cX1_goalOf 50 = .ok (.getfield 212, 3) := by decide +kernel
theorem dX1_goalOf_53 : decode cX1_goalOf 53 = .ok (.ldc2_w 222, 3) := by decide +kernel
theorem dX1_goalOf_56 : decode cX1_goalOf 56 = .ok (.lcmp, 1) := by decide +kernel
theorem dX1_goalOf_57 : decode cX1_goalOf 57 = .ok (.ifCond .ne 54, 3) := by decide +kernel
theorem dX1_goalOf_60 : decode cX1_goalOf 60 = .ok (.aload_n 0, 1) := by decide +kernel
theorem dX1_goalOf_61 : decode cX1_goalOf 61 = .ok (.getfield 33, 3) := by decide +kernel
theorem dX1_goalOf_64 : decode cX1_goalOf 64 = .ok (.aload_n 1, 1) := by decide +kernel
theorem dX1_goalOf_65 : decode cX1_goalOf 65 = .ok (.getfield 101, 3) := by decide +kernel
theorem dX1_goalOf_68 : decode cX1_goalOf 68 = .ok (.invokevirtual 224, 3) := by decide +kernel
theorem dX1_goalOf_71 : decode cX1_goalOf 71 = .ok (.ifCond .le 40, 3) := by decide +kernel
theorem dX1_goalOf_74 : decode cX1_goalOf 74 = .ok (.aload_n 2, 1) := by decide +kernel
theorem dX1_goalOf_75 : decode cX1_goalOf 75 = .ok (.getfield 198, 3) := by decide +kernel
theorem dX1_goalOf_78 : decode cX1_goalOf 78 = .ok (.ifCond .eq 10, 3) := by decide +kernel
theorem dX1_goalOf_81 : decode cX1_goalOf 81 = .ok (.aload_n 1, 1) := by decide +kernel
theorem dX1_goalOf_82 : decode cX1_goalOf 82 = .ok (.getfield 98, 3) := by decide +kernel
theorem dX1_goalOf_85 : decode cX1_goalOf 85 = .ok (.goto 7, 3) := by decide +kernel
theorem dX1_goalOf_88 : decode cX1_goalOf 88 = .ok (.aload_n 2, 1) := by decide +kernel
theorem dX1_goalOf_89 : decode cX1_goalOf 89 = .ok (.getfield 98, 3) := by decide +kernel
theorem dX1_goalOf_92 : decode cX1_goalOf 92 = .ok (.lstore_n 3, 1) := by decide +kernel
theorem dX1_goalOf_93 : decode cX1_goalOf 93 = .ok (.lload_n 3, 1) := by decide +kernel
theorem dX1_goalOf_94 : decode cX1_goalOf 94 = .ok (.aload_n 0, 1) := by decide +kernel
theorem dX1_goalOf_95 : decode cX1_goalOf 95 = .ok (.getfield 33, 3) := by decide +kernel
theorem dX1_goalOf_98 : decode cX1_goalOf 98 = .ok (.aload_n 1, 1) := by decide +kernel
theorem dX1_goalOf_99 : decode cX1_goalOf 99 = .ok (.getfield 101, 3) := by decide +kernel
theorem dX1_goalOf_102 : decode cX1_goalOf 102 = .ok (.invokevirtual 225, 3) := by decide +kernel
theorem dX1_goalOf_105 : decode cX1_goalOf 105 = .ok (.lconst 1, 1) := by decide +kernel
theorem dX1_goalOf_106 : decode cX1_goalOf 106 = .ok (.lsub, 1) := by decide +kernel
theorem dX1_goalOf_107 : decode cX1_goalOf 107 = .ok (.invokestatic 68, 3) := by decide +kernel
theorem dX1_goalOf_110 : decode cX1_goalOf 110 = .ok (.lreturn, 1) := by decide +kernel
theorem dX1_goalOf_111 : decode cX1_goalOf 111 = .ok (.aload_n 2, 1) := by decide +kernel
theorem dX1_goalOf_112 : decode cX1_goalOf 112 = .ok (.getfield 198, 3) := by decide +kernel
theorem dX1_goalOf_115 : decode cX1_goalOf 115 = .ok (.ifCond .eq 9, 3) := by decide +kernel
theorem dX1_goalOf_118 : decode cX1_goalOf 118 = .ok (.ldc2_w 196, 3) := by decide +kernel
theorem dX1_goalOf_121 : decode cX1_goalOf 121 = .ok (.goto 14, 3) := by decide +kernel
theorem dX1_goalOf_124 : decode cX1_goalOf 124 = .ok (.aload_n 2, 1) := by decide +kernel
theorem dX1_goalOf_125 : decode cX1_goalOf 125 = .ok (.getfield 98, 3) := by decide +kernel
theorem dX1_goalOf_128 : decode cX1_goalOf 128 = .ok (.aload_n 1, 1) := by decide +kernel
theorem dX1_goalOf_129 : decode cX1_goalOf 129 = .ok (.getfield 139, 3) := by decide +kernel
theorem dX1_goalOf_132 : decode cX1_goalOf 132 = .ok (.invokestatic 77, 3) := by decide +kernel
theorem dX1_goalOf_135 : decode cX1_goalOf 135 = .ok (.lreturn, 1) := by decide +kernel
theorem dX1_closeSums_0 : decode cX1_closeSums 0 = .ok (.aload_n 1, 1) := by decide +kernel
theorem dX1_closeSums_1 : decode cX1_closeSums 1 = .ok (.getfield 142, 3) := by decide +kernel
theorem dX1_closeSums_4 : decode cX1_closeSums 4 = .ok (.astore_n 2, 1) := by decide +kernel
theorem dX1_closeSums_5 : decode cX1_closeSums 5 = .ok (.aload_n 2, 1) := by decide +kernel
theorem dX1_closeSums_6 : decode cX1_closeSums 6 = .ok (.getfield 229, 3) := by decide +kernel
theorem dX1_closeSums_9 : decode cX1_closeSums 9 = .ok (.istore_n 3, 1) := by decide +kernel
theorem dX1_closeSums_10 : decode cX1_closeSums 10 = .ok (.iload_n 3, 1) := by decide +kernel
theorem dX1_closeSums_11 : decode cX1_closeSums 11 = .ok (.ifCond .le 61, 3) := by decide +kernel
theorem dX1_closeSums_14 : decode cX1_closeSums 14 = .ok (.aload_n 2, 1) := by decide +kernel
theorem dX1_closeSums_15 : decode cX1_closeSums 15 = .ok (.iconst 0, 1) := by decide +kernel
theorem dX1_closeSums_16 : decode cX1_closeSums 16 = .ok (.invokevirtual 230, 3) := by decide +kernel
theorem dX1_closeSums_19 : decode cX1_closeSums 19 = .ok (.aload_n 1, 1) := by decide +kernel
theorem dX1_closeSums_20 : decode cX1_closeSums 20 = .ok (.getfield 98, 3) := by decide +kernel
theorem dX1_closeSums_23 : decode cX1_closeSums 23 = .ok (.lcmp, 1) := by decide +kernel
theorem dX1_closeSums_24 : decode cX1_closeSums 24 = .ok (.ifCond .gt 48, 3) := by decide +kernel
theorem dX1_closeSums_27 : decode cX1_closeSums 27 = .ok (.aload_n 2, 1) := by decide +kernel
theorem dX1_closeSums_28 : decode cX1_closeSums 28 = .ok (.iconst 0, 1) := by decide +kernel
theorem dX1_closeSums_29 : decode cX1_closeSums 29 = .ok (.invokevirtual 230, 3) := by decide +kernel
theorem dX1_closeSums_32 : decode cX1_closeSums 32 = .ok (.lstore 4, 2) := by decide +kernel
theorem dX1_closeSums_34 : decode cX1_closeSums 34 = .ok (.aload_n 2, 1) := by decide +kernel
theorem dX1_closeSums_35 : decode cX1_closeSums 35 = .ok (.getfield 233, 3) := by decide +kernel
theorem dX1_closeSums_38 : decode cX1_closeSums 38 = .ok (.iconst 0, 1) := by decide +kernel
theorem dX1_closeSums_39 : decode cX1_closeSums 39 = .ok (.iaload, 1) := by decide +kernel
theorem dX1_closeSums_40 : decode cX1_closeSums 40 = .ok (.istore 6, 2) := by decide +kernel
theorem dX1_closeSums_42 : decode cX1_closeSums 42 = .ok (.aload_n 2, 1) := by decide +kernel
theorem dX1_closeSums_43 : decode cX1_closeSums 43 = .ok (.getfield 236, 3) := by decide +kernel
theorem dX1_closeSums_46 : decode cX1_closeSums 46 = .ok (.iconst 0, 1) := by decide +kernel
theorem dX1_closeSums_47 : decode cX1_closeSums 47 = .ok (.iaload, 1) := by decide +kernel
theorem dX1_closeSums_48 : decode cX1_closeSums 48 = .ok (.istore 7, 2) := by decide +kernel
theorem dX1_closeSums_50 : decode cX1_closeSums 50 = .ok (.aload_n 2, 1) := by decide +kernel
theorem dX1_closeSums_51 : decode cX1_closeSums 51 = .ok (.invokevirtual 239, 3) := by decide +kernel
theorem dX1_closeSums_54 : decode cX1_closeSums 54 = .ok (.aload_n 0, 1) := by decide +kernel
theorem dX1_closeSums_55 : decode cX1_closeSums 55 = .ok (.aload_n 1, 1) := by decide +kernel
theorem dX1_closeSums_56 : decode cX1_closeSums 56 = .ok (.lload 4, 2) := by decide +kernel
theorem dX1_closeSums_58 : decode cX1_closeSums 58 = .ok (.iload 6, 2) := by decide +kernel
theorem dX1_closeSums_60 : decode cX1_closeSums 60 = .ok (.iload 7, 2) := by decide +kernel
theorem dX1_closeSums_62 : decode cX1_closeSums 62 = .ok (.iconst 0, 1) := by decide +kernel
theorem dX1_closeSums_63 : decode cX1_closeSums 63 = .ok (.invokevirtual 110, 3) := by decide +kernel
theorem dX1_closeSums_66 : decode cX1_closeSums 66 = .ok (.iinc 3 (-1), 3) := by decide +kernel
theorem dX1_closeSums_69 : decode cX1_closeSums 69 = .ok (.goto (-59), 3) := by decide +kernel
theorem dX1_closeSums_72 : decode cX1_closeSums 72 = .ok (.return_, 1) := by decide +kernel
theorem dX1_write_0 : decode cX1_write 0 = .ok (.iconst 0, 1) := by decide +kernel
theorem dX1_write_1 : decode cX1_write 1 = .ok (.istore_n 2, 1) := by decide +kernel
theorem dX1_write_2 : decode cX1_write 2 = .ok (.iload_n 2, 1) := by decide +kernel
theorem dX1_write_3 : decode cX1_write 3 = .ok (.aload_n 0, 1) := by decide +kernel
theorem dX1_write_4 : decode cX1_write 4 = .ok (.getfield 37, 3) := by decide +kernel
theorem dX1_write_7 : decode cX1_write 7 = .ok (.if_icmp .ge 19, 3) := by decide +kernel
theorem dX1_write_10 : decode cX1_write 10 = .ok (.aload_n 0, 1) := by decide +kernel
theorem dX1_write_11 : decode cX1_write 11 = .ok (.getfield 20, 3) := by decide +kernel
theorem dX1_write_14 : decode cX1_write 14 = .ok (.iload_n 2, 1) := by decide +kernel
theorem dX1_write_15 : decode cX1_write 15 = .ok (.aaload, 1) := by decide +kernel
theorem dX1_write_16 : decode cX1_write 16 = .ok (.aload_n 1, 1) := by decide +kernel
theorem dX1_write_17 : decode cX1_write 17 = .ok (.invokevirtual 242, 3) := by decide +kernel
theorem dX1_write_20 : decode cX1_write 20 = .ok (.iinc 2 1, 3) := by decide +kernel
theorem dX1_write_23 : decode cX1_write 23 = .ok (.goto (-21), 3) := by decide +kernel
theorem dX1_write_26 : decode cX1_write 26 = .ok (.return_, 1) := by decide +kernel
theorem dX2_init_0 : decode cX2_init 0 = .ok (.aload_n 0, 1) := by decide +kernel
theorem dX2_init_1 : decode cX2_init 1 = .ok (.invokespecial 3, 3) := by decide +kernel
theorem dX2_init_4 : decode cX2_init 4 = .ok (.aload_n 0, 1) := by decide +kernel
theorem dX2_init_5 : decode cX2_init 5 = .ok (.aload_n 1, 1) := by decide +kernel
theorem dX2_init_6 : decode cX2_init 6 = .ok (.putfield 9, 3) := by decide +kernel
theorem dX2_init_9 : decode cX2_init 9 = .ok (.aload_n 0, 1) := by decide +kernel
theorem dX2_init_10 : decode cX2_init 10 = .ok (.aload_n 2, 1) := by decide +kernel
theorem dX2_init_11 : decode cX2_init 11 = .ok (.putfield 15, 3) := by decide +kernel
theorem dX2_init_14 : decode cX2_init 14 = .ok (.aload_n 0, 1) := by decide +kernel
theorem dX2_init_15 : decode cX2_init 15 = .ok (.lload_n 3, 1) := by decide +kernel
theorem dX2_init_16 : decode cX2_init 16 = .ok (.putfield 18, 3) := by decide +kernel
theorem dX2_init_19 : decode cX2_init 19 = .ok (.aload_n 0, 1) := by decide +kernel
theorem dX2_init_20 : decode cX2_init 20 = .ok (.lload 5, 2) := by decide +kernel
theorem dX2_init_22 : decode cX2_init 22 = .ok (.putfield 22, 3) := by decide +kernel
theorem dX2_init_25 : decode cX2_init 25 = .ok (.aload_n 0, 1) := by decide +kernel
theorem dX2_init_26 : decode cX2_init 26 = .ok (.iconst 2, 1) := by decide +kernel
theorem dX2_init_27 : decode cX2_init 27 = .ok (.newarray .int, 2) := by decide +kernel
theorem dX2_init_29 : decode cX2_init 29 = .ok (.putfield 25, 3) := by decide +kernel
theorem dX2_init_32 : decode cX2_init 32 = .ok (.aload_n 0, 1) := by decide +kernel
theorem dX2_init_33 : decode cX2_init 33 = .ok (.iconst 2, 1) := by decide +kernel
theorem dX2_init_34 : decode cX2_init 34 = .ok (.bipush 6, 2) := by decide +kernel
theorem dX2_init_36 : decode cX2_init 36 = .ok (.multianewarray 29 2, 4) := by decide +kernel
theorem dX2_init_40 : decode cX2_init 40 = .ok (.putfield 31, 3) := by decide +kernel
theorem dX2_init_43 : decode cX2_init 43 = .ok (.aload_n 0, 1) := by decide +kernel
theorem dX2_init_44 : decode cX2_init 44 = .ok (.iconst 2, 1) := by decide +kernel
theorem dX2_init_45 : decode cX2_init 45 = .ok (.bipush 6, 2) := by decide +kernel
theorem dX2_init_47 : decode cX2_init 47 = .ok (.multianewarray 34 2, 4) := by decide +kernel
theorem dX2_init_51 : decode cX2_init 51 = .ok (.putfield 36, 3) := by decide +kernel
theorem dX2_init_54 : decode cX2_init 54 = .ok (.aload_n 0, 1) := by decide +kernel
theorem dX2_init_55 : decode cX2_init 55 = .ok (.iconst 2, 1) := by decide +kernel
theorem dX2_init_56 : decode cX2_init 56 = .ok (.bipush 6, 2) := by decide +kernel
theorem dX2_init_58 : decode cX2_init 58 = .ok (.multianewarray 34 2, 4) := by decide +kernel
theorem dX2_init_62 : decode cX2_init 62 = .ok (.putfield 39, 3) := by decide +kernel
theorem dX2_init_65 : decode cX2_init 65 = .ok (.return_, 1) := by decide +kernel
theorem dX2_meets_0 : decode cX2_meets 0 = .ok (.iconst 1, 1) := by decide +kernel
theorem dX2_meets_1 : decode cX2_meets 1 = .ok (.iload_n 1, 1) := by decide +kernel
theorem dX2_meets_2 : decode cX2_meets 2 = .ok (.isub, 1) := by decide +kernel
theorem dX2_meets_3 : decode cX2_meets 3 = .ok (.istore 6, 2) := by decide +kernel
theorem dX2_meets_5 : decode cX2_meets 5 = .ok (.aload_n 0, 1) := by decide +kernel
theorem dX2_meets_6 : decode cX2_meets 6 = .ok (.getfield 36, 3) := by decide +kernel
theorem dX2_meets_9 : decode cX2_meets 9 = .ok (.iload 6, 2) := by decide +kernel
theorem dX2_meets_11 : decode cX2_meets 11 = .ok (.aaload, 1) := by decide +kernel
theorem dX2_meets_12 : decode cX2_meets 12 = .ok (.iload 5, 2) := by decide +kernel
theorem dX2_meets_14 : decode cX2_meets 14 = .ok (.iaload, 1) := by decide +kernel
theorem dX2_meets_15 : decode cX2_meets 15 = .ok (.iload 4, 2) := by decide +kernel
theorem dX2_meets_17 : decode cX2_meets 17 = .ok (.if_icmp .eq 5, 3) := by decide +kernel
theorem dX2_meets_20 : decode cX2_meets 20 = .ok (.iconst 0, 1) := by decide +kernel
theorem dX2_meets_21 : decode cX2_meets 21 = .ok (.ireturn, 1) := by decide +kernel
theorem dX2_meets_22 : decode cX2_meets 22 = .ok (.iload_n 1, 1) := by decide +kernel
theorem dX2_meets_23 : decode cX2_meets 23 = .ok (.ifCond .ne 7, 3) := by decide +kernel
theorem dX2_meets_26 : decode cX2_meets 26 = .ok (.lload_n 2, 1) := by decide +kernel
theorem dX2_meets_27 : decode cX2_meets 27 = .ok (.goto 13, 3) := by decide +kernel
theorem dX2_meets_30 : decode cX2_meets 30 = .ok (.aload_n 0, 1) := by decide +kernel
theorem dX2_meets_31 : decode cX2_meets 31 = .ok (.getfield 31, 3) := by decide +kernel
theorem dX2_meets_34 : decode cX2_meets 34 = .ok (.iload 6, 2) := by decide +kernel
theorem dX2_meets_36 : decode cX2_meets 36 = .ok (.aaload, 1) := by decide +kernel
theorem dX2_meets_37 : decode cX2_meets 37 = .ok (.iload 5, 2) := by decide +kernel
theorem dX2_meets_39 : decode cX2_meets 39 = .ok (.laload, 1) := by decide +kernel
theorem dX2_meets_40 : decode cX2_meets 40 = .ok (.lstore 7, 2) := by decide +kernel
theorem dX2_meets_42 : decode cX2_meets 42 = .ok (.iload_n 1, 1) := by decide +kernel
theorem dX2_meets_43 : decode cX2_meets 43 = .ok (.ifCond .ne 16, 3) := by decide +kernel
theorem dX2_meets_46 : decode cX2_meets 46 = .ok (.aload_n 0, 1) := by decide +kernel
theorem dX2_meets_47 : decode cX2_meets 47 = .ok (.getfield 31, 3) := by decide +kernel
theorem dX2_meets_50 : decode cX2_meets 50 = .ok (.iload 6, 2) := by decide +kernel
theorem dX2_meets_52 : decode cX2_meets 52 = .ok (.aaload, 1) := by decide +kernel
theorem dX2_meets_53 : decode cX2_meets 53 = .ok (.iload 5, 2) := by decide +kernel
theorem dX2_meets_55 : decode cX2_meets 55 = .ok (.laload, 1) := by decide +kernel
theorem dX2_meets_56 : decode cX2_meets 56 = .ok (.goto 4, 3) := by decide +kernel
theorem dX2_meets_59 : decode cX2_meets 59 = .ok (.lload_n 2, 1) := by decide +kernel
theorem dX2_meets_60 : decode cX2_meets 60 = .ok (.lstore 9, 2) := by decide +kernel
theorem dX2_meets_62 : decode cX2_meets 62 = .ok (.lload 7, 2) := by decide +kernel
theorem dX2_meets_64 : decode cX2_meets 64 = .ok (.aload_n 0, 1) := by decide +kernel
theorem dX2_meets_65 : decode cX2_meets 65 = .ok (.getfield 18, 3) := by decide +kernel
theorem dX2_meets_68 : decode cX2_meets 68 = .ok (.invokestatic 42, 3) := by decide +kernel
theorem dX2_meets_71 : decode cX2_meets 71 = .ok (.lload 9, 2) := by decide +kernel
theorem dX2_meets_73 : decode cX2_meets 73 = .ok (.lcmp, 1) := by decide +kernel
theorem dX2_meets_74 : decode cX2_meets 74 = .ok (.ifCond .gt 22, 3) := by decide +kernel
theorem dX2_meets_77 : decode cX2_meets 77 = .ok (.lload 9, 2) := by decide +kernel
theorem dX2_meets_79 : decode cX2_meets 79 = .ok (.lload 7, 2) := by decide +kernel
theorem dX2_meets_81 : decode cX2_meets 81 = .ok (.aload_n 0, 1) := by decide +kernel
theorem dX2_meets_82 : decode cX2_meets 82 = .ok (.getfield 22, 3) := by decide +kernel
theorem dX2_meets_85 : decode cX2_meets 85 = .ok (.invokestatic 42, 3) := by decide +kernel
theorem dX2_meets_88 : decode cX2_meets 88 = .ok (.lcmp, 1) := by decide +kernel
theorem dX2_meets_89 : decode cX2_meets 89 = .ok (.ifCond .gt 7, 3) := by decide +kernel
theorem dX2_meets_92 : decode cX2_meets 92 = .ok (.iconst 1, 1) := by decide +kernel
theorem dX2_meets_93 : decode cX2_meets 93 = .ok (.goto 4, 3) := by decide +kernel
theorem dX2_meets_96 : decode cX2_meets 96 = .ok (.iconst 0, 1) := by decide +kernel
theorem dX2_meets_97 : decode cX2_meets 97 = .ok (.ireturn, 1) := by decide +kernel
theorem dX2_isFar_0 : decode cX2_isFar 0 = .ok (.iload_n 1, 1) := by decide +kernel
theorem dX2_isFar_1 : decode cX2_isFar 1 = .ok (.ifCond .ne 28, 3) := by decide +kernel
theorem dX2_isFar_4 : decode cX2_isFar 4 = .ok (.lload_n 2, 1) := by decide +kernel
theorem dX2_isFar_5 : decode cX2_isFar 5 = .ok (.aload_n 0, 1) := by decide +kernel
theorem dX2_isFar_6 : decode cX2_isFar 6 = .ok (.getfield 22, 3) := by decide +kernel
theorem dX2_isFar_9 : decode cX2_isFar 9 = .ok (.invokestatic 42, 3) := by decide +kernel
theorem dX2_isFar_12 : decode cX2_isFar 12 = .ok (.aload_n 0, 1) := by decide +kernel
theorem dX2_isFar_13 : decode cX2_isFar 13 = .ok (.getfield 15, 3) := by decide +kernel
theorem dX2_isFar_16 : decode cX2_isFar 16 = .ok (.getfield 46, 3) := by decide +kernel
theorem dX2_isFar_19 : decode cX2_isFar 19 = .ok (.lcmp, 1) := by decide +kernel
theorem dX2_isFar_20 : decode cX2_isFar 20 = .ok (.ifCond .gt 7, 3) := by decide +kernel
theorem dX2_isFar_23 : decode cX2_isFar 23 = .ok (.iconst 1, 1) := by decide +kernel
theorem dX2_isFar_24 : decode cX2_isFar 24 = .ok (.goto 4, 3) := by decide +kernel
theorem dX2_isFar_27 : decode cX2_isFar 27 = .ok (.iconst 0, 1) := by decide +kernel
theorem dX2_isFar_28 : decode cX2_isFar 28 = .ok (.ireturn, 1) := by decide +kernel
theorem dX2_isFar_29 : decode cX2_isFar 29 = .ok (.lload_n 2, 1) := by decide +kernel
theorem dX2_isFar_30 : decode cX2_isFar 30 = .ok (.aload_n 0, 1) := by decide +kernel
theorem dX2_isFar_31 : decode cX2_isFar 31 = .ok (.getfield 18, 3) := by decide +kernel
theorem dX2_isFar_34 : decode cX2_isFar 34 = .ok (.lneg, 1) := by decide +kernel
theorem dX2_isFar_35 : decode cX2_isFar 35 = .ok (.invokestatic 42, 3) := by decide +kernel
theorem dX2_isFar_38 : decode cX2_isFar 38 = .ok (.aload_n 0, 1) := by decide +kernel
theorem dX2_isFar_39 : decode cX2_isFar 39 = .ok (.getfield 9, 3) := by decide +kernel
theorem dX2_isFar_42 : decode cX2_isFar 42 = .ok (.getfield 46, 3) := by decide +kernel
theorem dX2_isFar_45 : decode cX2_isFar 45 = .ok (.lcmp, 1) := by decide +kernel
theorem dX2_isFar_46 : decode cX2_isFar 46 = .ok (.ifCond .gt 7, 3) := by decide +kernel
theorem dX2_isFar_49 : decode cX2_isFar 49 = .ok (.iconst 1, 1) := by decide +kernel
theorem dX2_isFar_50 : decode cX2_isFar 50 = .ok (.goto 4, 3) := by decide +kernel
theorem dX2_isFar_53 : decode cX2_isFar 53 = .ok (.iconst 0, 1) := by decide +kernel
theorem dX2_isFar_54 : decode cX2_isFar 54 = .ok (.ireturn, 1) := by decide +kernel
theorem dX2_keep_0 : decode cX2_keep 0 = .ok (.iconst 0, 1) := by decide +kernel
theorem dX2_keep_1 : decode cX2_keep 1 = .ok (.istore 6, 2) := by decide +kernel
theorem dX2_keep_3 : decode cX2_keep 3 = .ok (.aload_n 0, 1) := by decide +kernel
theorem dX2_keep_4 : decode cX2_keep 4 = .ok (.getfield 25, 3) := by decide +kernel
theorem dX2_keep_7 : decode cX2_keep 7 = .ok (.iload_n 1, 1) := by decide +kernel
theorem dX2_keep_8 : decode cX2_keep 8 = .ok (.iaload, 1) := by decide +kernel
theorem dX2_keep_9 : decode cX2_keep 9 = .ok (.bipush 6, 2) := by decide +kernel
theorem dX2_keep_11 : decode cX2_keep 11 = .ok (.if_icmp .lt 11, 3) := by decide +kernel
theorem dX2_keep_14 : decode cX2_keep 14 = .ok (.aload_n 0, 1) := by decide +kernel
theorem dX2_keep_15 : decode cX2_keep 15 = .ok (.iload_n 1, 1) := by decide +kernel
theorem dX2_keep_16 : decode cX2_keep 16 = .ok (.invokevirtual 51, 3) := by decide +kernel
theorem dX2_keep_19 : decode cX2_keep 19 = .ok (.iconst 1, 1) := by decide +kernel
theorem dX2_keep_20 : decode cX2_keep 20 = .ok (.istore 6, 2) := by decide +kernel
theorem dX2_keep_22 : decode cX2_keep 22 = .ok (.aload_n 0, 1) := by decide +kernel
theorem dX2_keep_23 : decode cX2_keep 23 = .ok (.iload_n 1, 1) := by decide +kernel
theorem dX2_keep_24 : decode cX2_keep 24 = .ok (.aload_n 0, 1) := by decide +kernel
theorem dX2_keep_25 : decode cX2_keep 25 = .ok (.getfield 25, 3) := by decide +kernel
theorem dX2_keep_28 : decode cX2_keep 28 = .ok (.iload_n 1, 1) := by decide +kernel
theorem dX2_keep_29 : decode cX2_keep 29 = .ok (.iaload, 1) := by decide +kernel
theorem dX2_keep_30 : decode cX2_keep 30 = .ok (.lload_n 2, 1) := by decide +kernel
theorem dX2_keep_31 : decode cX2_keep 31 = .ok (.iload 4, 2) := by decide +kernel
theorem dX2_keep_33 : decode cX2_keep 33 = .ok (.iload 5, 2) := by decide +kernel
theorem dX2_keep_35 : decode cX2_keep 35 = .ok (.invokevirtual 55, 3) := by decide +kernel
theorem dX2_keep_38 : decode cX2_keep 38 = .ok (.aload_n 0, 1) := by decide +kernel
theorem dX2_keep_39 : decode cX2_keep 39 = .ok (.getfield 25, 3) := by decide +kernel
theorem dX2_keep_42 : decode cX2_keep 42 = .ok (.iload_n 1, 1) := by decide +kernel
theorem dX2_keep_43 : decode cX2_keep 43 = .ok (.dup2, 1) := by decide +kernel
theorem dX2_keep_44 : decode cX2_keep 44 = .ok (.iaload, 1) := by decide +kernel
theorem dX2_keep_45 : decode cX2_keep 45 = .ok (.iconst 1, 1) := by decide +kernel
theorem dX2_keep_46 : decode cX2_keep 46 = .ok (.iadd, 1) := by decide +kernel
theorem dX2_keep_47 : decode cX2_keep 47 = .ok (.iastore, 1) := by decide +kernel
theorem dX2_keep_48 : decode cX2_keep 48 = .ok (.iload 6, 2) := by decide +kernel
theorem dX2_keep_50 : decode cX2_keep 50 = .ok (.ireturn, 1) := by decide +kernel
theorem dX2_dropFirst_0 : decode cX2_dropFirst 0 = .ok (.iconst 1, 1) := by decide +kernel
theorem dX2_dropFirst_1 : decode cX2_dropFirst 1 = .ok (.istore_n 2, 1) := by decide +kernel
theorem dX2_dropFirst_2 : decode cX2_dropFirst 2 = .ok (.iload_n 2, 1) := by decide +kernel
theorem dX2_dropFirst_3 : decode cX2_dropFirst 3 = .ok (.aload_n 0, 1) := by decide +kernel
theorem dX2_dropFirst_4 : decode cX2_dropFirst 4 = .ok (.getfield 25, 3) := by decide +kernel
theorem dX2_dropFirst_7 : decode cX2_dropFirst 7 = .ok (.iload_n 1, 1) := by decide +kernel
theorem dX2_dropFirst_8 : decode cX2_dropFirst 8 = .ok (.iaload, 1) := by decide +kernel
theorem dX2_dropFirst_9 : decode cX2_dropFirst 9 = .ok (.if_icmp .ge 41, 3) := by decide +kernel
theorem dX2_dropFirst_12 : decode cX2_dropFirst 12 = .ok (.aload_n 0, 1) := by decide +kernel
theorem dX2_dropFirst_13 : decode cX2_dropFirst 13 = .ok (.iload_n 1, 1) := by decide +kernel
theorem dX2_dropFirst_14 : decode cX2_dropFirst 14 = .ok (.iload_n 2, 1) := by decide +kernel
theorem dX2_dropFirst_15 : decode cX2_dropFirst 15 = .ok (.iconst 1, 1) := by decide +kernel
theorem dX2_dropFirst_16 : decode cX2_dropFirst 16 = .ok (.isub, 1) := by decide +kernel
theorem dX2_dropFirst_17 : decode cX2_dropFirst 17 = .ok (.aload_n 0, 1) := by decide +kernel
theorem dX2_dropFirst_18 : decode cX2_dropFirst 18 = .ok (.getfield 31, 3) := by decide +kernel
theorem dX2_dropFirst_21 : decode cX2_dropFirst 21 = .ok (.iload_n 1, 1) := by decide +kernel
theorem dX2_dropFirst_22 : decode cX2_dropFirst 22 = .ok (.aaload, 1) := by decide +kernel
theorem dX2_dropFirst_23 : decode cX2_dropFirst 23 = .ok (.iload_n 2, 1) := by decide +kernel
theorem dX2_dropFirst_24 : decode cX2_dropFirst 24 = .ok (.laload, 1) := by decide +kernel
theorem dX2_dropFirst_25 : decode cX2_dropFirst 25 = .ok (.aload_n 0, 1) := by decide +kernel
theorem dX2_dropFirst_26 : decode cX2_dropFirst 26 = .ok (.getfield 36, 3) := by decide +kernel
theorem dX2_dropFirst_29 : decode cX2_dropFirst 29 = .ok (.iload_n 1, 1) := by decide +kernel
theorem dX2_dropFirst_30 : decode cX2_dropFirst 30 = .ok (.aaload, 1) := by decide +kernel
theorem dX2_dropFirst_31 : decode cX2_dropFirst 31 = .ok (.iload_n 2, 1) := by decide +kernel
theorem dX2_dropFirst_32 : decode cX2_dropFirst 32 = .ok (.iaload, 1) := by decide +kernel
theorem dX2_dropFirst_33 : decode cX2_dropFirst 33 = .ok (.aload_n 0, 1) := by decide +kernel
theorem dX2_dropFirst_34 : decode cX2_dropFirst 34 = .ok (.getfield 39, 3) := by decide +kernel
theorem dX2_dropFirst_37 : decode cX2_dropFirst 37 = .ok (.iload_n 1, 1) := by decide +kernel
theorem dX2_dropFirst_38 : decode cX2_dropFirst 38 = .ok (.aaload, 1) := by decide +kernel
theorem dX2_dropFirst_39 : decode cX2_dropFirst 39 = .ok (.iload_n 2, 1) := by decide +kernel
theorem dX2_dropFirst_40 : decode cX2_dropFirst 40 = .ok (.iaload, 1) := by decide +kernel
theorem dX2_dropFirst_41 : decode cX2_dropFirst 41 = .ok (.invokevirtual 55, 3) := by decide +kernel
theorem dX2_dropFirst_44 : decode cX2_dropFirst 44 = .ok (.iinc 2 1, 3) := by decide +kernel
theorem dX2_dropFirst_47 : decode cX2_dropFirst 47 = .ok (.goto (-45), 3) := by decide +kernel
theorem dX2_dropFirst_50 : decode cX2_dropFirst 50 = .ok (.aload_n 0, 1) := by decide +kernel
theorem dX2_dropFirst_51 : decode cX2_dropFirst 51 = .ok (.getfield 25, 3) := by decide +kernel
theorem dX2_dropFirst_54 : decode cX2_dropFirst 54 = .ok (.iload_n 1, 1) := by decide +kernel
theorem dX2_dropFirst_55 : decode cX2_dropFirst 55 = .ok (.dup2, 1) := by decide +kernel
theorem dX2_dropFirst_56 : decode cX2_dropFirst 56 = .ok (.iaload, 1) := by decide +kernel
theorem dX2_dropFirst_57 : decode cX2_dropFirst 57 = .ok (.iconst 1, 1) := by decide +kernel
theorem dX2_dropFirst_58 : decode cX2_dropFirst 58 = .ok (.isub, 1) := by decide +kernel
theorem dX2_dropFirst_59 : decode cX2_dropFirst 59 = .ok (.iastore, 1) := by decide +kernel
theorem dX2_dropFirst_60 : decode cX2_dropFirst 60 = .ok (.return_, 1) := by decide +kernel
theorem dX2_put_0 : decode cX2_put 0 = .ok (.aload_n 0, 1) := by decide +kernel
theorem dX2_put_1 : decode cX2_put 1 = .ok (.getfield 31, 3) := by decide +kernel
theorem dX2_put_4 : decode cX2_put 4 = .ok (.iload_n 1, 1) := by decide +kernel
theorem dX2_put_5 : decode cX2_put 5 = .ok (.aaload, 1) := by decide +kernel
theorem dX2_put_6 : decode cX2_put 6 = .ok (.iload_n 2, 1) := by decide +kernel
theorem dX2_put_7 : decode cX2_put 7 = .ok (.lload_n 3, 1) := by decide +kernel
theorem dX2_put_8 : decode cX2_put 8 = .ok (.lastore, 1) := by decide +kernel
theorem dX2_put_9 : decode cX2_put 9 = .ok (.aload_n 0, 1) := by decide +kernel
theorem dX2_put_10 : decode cX2_put 10 = .ok (.getfield 36, 3) := by decide +kernel
theorem dX2_put_13 : decode cX2_put 13 = .ok (.iload_n 1, 1) := by decide +kernel
theorem dX2_put_14 : decode cX2_put 14 = .ok (.aaload, 1) := by decide +kernel
theorem dX2_put_15 : decode cX2_put 15 = .ok (.iload_n 2, 1) := by decide +kernel
theorem dX2_put_16 : decode cX2_put 16 = .ok (.iload 5, 2) := by decide +kernel
theorem dX2_put_18 : decode cX2_put 18 = .ok (.iastore, 1) := by decide +kernel
theorem dX2_put_19 : decode cX2_put 19 = .ok (.aload_n 0, 1) := by decide +kernel
theorem dX2_put_20 : decode cX2_put 20 = .ok (.getfield 39, 3) := by decide +kernel
theorem dX2_put_23 : decode cX2_put 23 = .ok (.iload_n 1, 1) := by decide +kernel
theorem dX2_put_24 : decode cX2_put 24 = .ok (.aaload, 1) := by decide +kernel
theorem dX2_put_25 : decode cX2_put 25 = .ok (.iload_n 2, 1) := by decide +kernel
theorem dX2_put_26 : decode cX2_put 26 = .ok (.iload 6, 2) := by decide +kernel
theorem dX2_put_28 : decode cX2_put 28 = .ok (.iastore, 1) := by decide +kernel
theorem dX2_put_29 : decode cX2_put 29 = .ok (.return_, 1) := by decide +kernel
theorem dX2_dropFar_0 : decode cX2_dropFar 0 = .ok (.iconst 0, 1) := by decide +kernel
theorem dX2_dropFar_1 : decode cX2_dropFar 1 = .ok (.istore_n 1, 1) := by decide +kernel
theorem dX2_dropFar_2 : decode cX2_dropFar 2 = .ok (.iload_n 1, 1) := by decide +kernel
theorem dX2_dropFar_3 : decode cX2_dropFar 3 = .ok (.iconst 2, 1) := by decide +kernel
theorem dX2_dropFar_4 : decode cX2_dropFar 4 = .ok (.if_icmp .ge 85, 3) := by decide +kernel
theorem dX2_dropFar_7 : decode cX2_dropFar 7 = .ok (.iconst 0, 1) := by decide +kernel
theorem dX2_dropFar_8 : decode cX2_dropFar 8 = .ok (.istore_n 2, 1) := by decide +kernel
theorem dX2_dropFar_9 : decode cX2_dropFar 9 = .ok (.iconst 0, 1) := by decide +kernel
theorem dX2_dropFar_10 : decode cX2_dropFar 10 = .ok (.istore_n 3, 1) := by decide +kernel
theorem dX2_dropFar_11 : decode cX2_dropFar 11 = .ok (.iload_n 3, 1) := by decide +kernel
theorem dX2_dropFar_12 : decode cX2_dropFar 12 = .ok (.aload_n 0, 1) := by decide +kernel
theorem dX2_dropFar_13 : decode cX2_dropFar 13 = .ok (.getfield 25, 3) := by decide +kernel
theorem dX2_dropFar_16 : decode cX2_dropFar 16 = .ok (.iload_n 1, 1) := by decide +kernel
theorem dX2_dropFar_17 : decode cX2_dropFar 17 = .ok (.iaload, 1) := by decide +kernel
theorem dX2_dropFar_18 : decode cX2_dropFar 18 = .ok (.if_icmp .ge 58, 3) := by decide +kernel
theorem dX2_dropFar_21 : decode cX2_dropFar 21 = .ok (.aload_n 0, 1) := by decide +kernel
theorem dX2_dropFar_22 : decode cX2_dropFar 22 = .ok (.iload_n 1, 1) := by decide +kernel
theorem dX2_dropFar_23 : decode cX2_dropFar 23 = .ok (.aload_n 0, 1) := by decide +kernel
theorem dX2_dropFar_24 : decode cX2_dropFar 24 = .ok (.getfield 31, 3) := by decide +kernel
theorem dX2_dropFar_27 : decode cX2_dropFar 27 = .ok (.iload_n 1, 1) := by decide +kernel
theorem dX2_dropFar_28 : decode cX2_dropFar 28 = .ok (.aaload, 1) := by decide +kernel
theorem dX2_dropFar_29 : decode cX2_dropFar 29 = .ok (.iload_n 3, 1) := by decide +kernel
theorem dX2_dropFar_30 : decode cX2_dropFar 30 = .ok (.laload, 1) := by decide +kernel
theorem dX2_dropFar_31 : decode cX2_dropFar 31 = .ok (.invokevirtual 59, 3) := by decide +kernel
theorem dX2_dropFar_34 : decode cX2_dropFar 34 = .ok (.ifCond .ne 36, 3) := by decide +kernel
theorem dX2_dropFar_37 : decode cX2_dropFar 37 = .ok (.aload_n 0, 1) := by decide +kernel
theorem dX2_dropFar_38 : decode cX2_dropFar 38 = .ok (.iload_n 1, 1) := by decide +kernel
theorem dX2_dropFar_39 : decode cX2_dropFar 39 = .ok (.iload_n 2, 1) := by decide +kernel
theorem dX2_dropFar_40 : decode cX2_dropFar 40 = .ok (.aload_n 0, 1) := by decide +kernel
theorem dX2_dropFar_41 : decode cX2_dropFar 41 = .ok (.getfield 31, 3) := by decide +kernel
theorem dX2_dropFar_44 : decode cX2_dropFar 44 = .ok (.iload_n 1, 1) := by decide +kernel
theorem dX2_dropFar_45 : decode cX2_dropFar 45 = .ok (.aaload, 1) := by decide +kernel
theorem dX2_dropFar_46 : decode cX2_dropFar 46 = .ok (.iload_n 3, 1) := by decide +kernel
theorem dX2_dropFar_47 : decode cX2_dropFar 47 = .ok (.laload, 1) := by decide +kernel
theorem dX2_dropFar_48 : decode cX2_dropFar 48 = .ok (.aload_n 0, 1) := by decide +kernel
theorem dX2_dropFar_49 : decode cX2_dropFar 49 = .ok (.getfield 36, 3) := by decide +kernel
theorem dX2_dropFar_52 : decode cX2_dropFar 52 = .ok (.iload_n 1, 1) := by decide +kernel
theorem dX2_dropFar_53 : decode cX2_dropFar 53 = .ok (.aaload, 1) := by decide +kernel
theorem dX2_dropFar_54 : decode cX2_dropFar 54 = .ok (.iload_n 3, 1) := by decide +kernel
theorem dX2_dropFar_55 : decode cX2_dropFar 55 = .ok (.iaload, 1) := by decide +kernel
theorem dX2_dropFar_56 : decode cX2_dropFar 56 = .ok (.aload_n 0, 1) := by decide +kernel
theorem dX2_dropFar_57 : decode cX2_dropFar 57 = .ok (.getfield 39, 3) := by decide +kernel
theorem dX2_dropFar_60 : decode cX2_dropFar 60 = .ok (.iload_n 1, 1) := by decide +kernel
theorem dX2_dropFar_61 : decode cX2_dropFar 61 = .ok (.aaload, 1) := by decide +kernel
theorem dX2_dropFar_62 : decode cX2_dropFar 62 = .ok (.iload_n 3, 1) := by decide +kernel
theorem dX2_dropFar_63 : decode cX2_dropFar 63 = .ok (.iaload, 1) := by decide +kernel
theorem dX2_dropFar_64 : decode cX2_dropFar 64 = .ok (.invokevirtual 55, 3) := by decide +kernel
theorem dX2_dropFar_67 : decode cX2_dropFar 67 = .ok (.iinc 2 1, 3) := by decide +kernel
theorem dX2_dropFar_70 : decode cX2_dropFar 70 = .ok (.iinc 3 1, 3) := by decide +kernel
theorem dX2_dropFar_73 : decode cX2_dropFar 73 = .ok (.goto (-62), 3) := by decide +kernel
theorem dX2_dropFar_76 : decode cX2_dropFar 76 = .ok (.aload_n 0, 1) := by decide +kernel
theorem dX2_dropFar_77 : decode cX2_dropFar 77 = .ok (.getfield 25, 3) := by decide +kernel
theorem dX2_dropFar_80 : decode cX2_dropFar 80 = .ok (.iload_n 1, 1) := by decide +kernel
theorem dX2_dropFar_81 : decode cX2_dropFar 81 = .ok (.iload_n 2, 1) := by decide +kernel
theorem dX2_dropFar_82 : decode cX2_dropFar 82 = .ok (.iastore, 1) := by decide +kernel
theorem dX2_dropFar_83 : decode cX2_dropFar 83 = .ok (.iinc 1 1, 3) := by decide +kernel
theorem dX2_dropFar_86 : decode cX2_dropFar 86 = .ok (.goto (-84), 3) := by decide +kernel
theorem dX2_dropFar_89 : decode cX2_dropFar 89 = .ok (.return_, 1) := by decide +kernel
theorem dX3_init_0 : decode cX3_init 0 = .ok (.aload_n 0, 1) := by decide +kernel
theorem dX3_init_1 : decode cX3_init 1 = .ok (.invokespecial 1, 3) := by decide +kernel
theorem dX3_init_4 : decode cX3_init 4 = .ok (.aload_n 0, 1) := by decide +kernel
theorem dX3_init_5 : decode cX3_init 5 = .ok (.iload_n 1, 1) := by decide +kernel
theorem dX3_init_6 : decode cX3_init 6 = .ok (.putfield 7, 3) := by decide +kernel
theorem dX3_init_9 : decode cX3_init 9 = .ok (.aload_n 0, 1) := by decide +kernel
theorem dX3_init_10 : decode cX3_init 10 = .ok (.iconst 4, 1) := by decide +kernel
theorem dX3_init_11 : decode cX3_init 11 = .ok (.iload_n 1, 1) := by decide +kernel
theorem dX3_init_12 : decode cX3_init 12 = .ok (.imul, 1) := by decide +kernel
theorem dX3_init_13 : decode cX3_init 13 = .ok (.newarray .long, 2) := by decide +kernel
theorem dX3_init_15 : decode cX3_init 15 = .ok (.putfield 13, 3) := by decide +kernel
theorem dX3_init_18 : decode cX3_init 18 = .ok (.return_, 1) := by decide +kernel
theorem dX3_clear_0 : decode cX3_clear 0 = .ok (.aload_n 0, 1) := by decide +kernel
theorem dX3_clear_1 : decode cX3_clear 1 = .ok (.iconst 0, 1) := by decide +kernel
theorem dX3_clear_2 : decode cX3_clear 2 = .ok (.putfield 17, 3) := by decide +kernel
theorem dX3_clear_5 : decode cX3_clear 5 = .ok (.return_, 1) := by decide +kernel
theorem dX3_note_0 : decode cX3_note 0 = .ok (.aload_n 0, 1) := by decide +kernel
theorem dX3_note_1 : decode cX3_note 1 = .ok (.getfield 17, 3) := by decide +kernel
theorem dX3_note_4 : decode cX3_note 4 = .ok (.aload_n 0, 1) := by decide +kernel
theorem dX3_note_5 : decode cX3_note 5 = .ok (.getfield 7, 3) := by decide +kernel
theorem dX3_note_8 : decode cX3_note 8 = .ok (.if_icmp .ge 62, 3) := by decide +kernel
theorem dX3_note_11 : decode cX3_note 11 = .ok (.aload_n 0, 1) := by decide +kernel
theorem dX3_note_12 : decode cX3_note 12 = .ok (.getfield 13, 3) := by decide +kernel
theorem dX3_note_15 : decode cX3_note 15 = .ok (.iconst 4, 1) := by decide +kernel
theorem dX3_note_16 : decode cX3_note 16 = .ok (.aload_n 0, 1) := by decide +kernel
theorem dX3_note_17 : decode cX3_note 17 = .ok (.getfield 17, 3) := by decide +kernel
theorem dX3_note_20 : decode cX3_note 20 = .ok (.imul, 1) := by decide +kernel
theorem dX3_note_21 : decode cX3_note 21 = .ok (.iload_n 1, 1) := by decide +kernel
theorem dX3_note_22 : decode cX3_note 22 = .ok (.i2l, 1) := by decide +kernel
theorem dX3_note_23 : decode cX3_note 23 = .ok (.lastore, 1) := by decide +kernel
theorem dX3_note_24 : decode cX3_note 24 = .ok (.aload_n 0, 1) := by decide +kernel
theorem dX3_note_25 : decode cX3_note 25 = .ok (.getfield 13, 3) := by decide +kernel
theorem dX3_note_28 : decode cX3_note 28 = .ok (.iconst 4, 1) := by decide +kernel
theorem dX3_note_29 : decode cX3_note 29 = .ok (.aload_n 0, 1) := by decide +kernel
theorem dX3_note_30 : decode cX3_note 30 = .ok (.getfield 17, 3) := by decide +kernel
theorem dX3_note_33 : decode cX3_note 33 = .ok (.imul, 1) := by decide +kernel
theorem dX3_note_34 : decode cX3_note 34 = .ok (.iconst 1, 1) := by decide +kernel
theorem dX3_note_35 : decode cX3_note 35 = .ok (.iadd, 1) := by decide +kernel
theorem dX3_note_36 : decode cX3_note 36 = .ok (.lload_n 2, 1) := by decide +kernel
theorem dX3_note_37 : decode cX3_note 37 = .ok (.lastore, 1) := by decide +kernel
theorem dX3_note_38 : decode cX3_note 38 = .ok (.aload_n 0, 1) := by decide +kernel
theorem dX3_note_39 : decode cX3_note 39 = .ok (.getfield 13, 3) := by decide +kernel
theorem dX3_note_42 : decode cX3_note 42 = .ok (.iconst 4, 1) := by decide +kernel
theorem dX3_note_43 : decode cX3_note 43 = .ok (.aload_n 0, 1) := by decide +kernel
theorem dX3_note_44 : decode cX3_note 44 = .ok (.getfield 17, 3) := by decide +kernel
theorem dX3_note_47 : decode cX3_note 47 = .ok (.imul, 1) := by decide +kernel
theorem dX3_note_48 : decode cX3_note 48 = .ok (.iconst 2, 1) := by decide +kernel
theorem dX3_note_49 : decode cX3_note 49 = .ok (.iadd, 1) := by decide +kernel
theorem dX3_note_50 : decode cX3_note 50 = .ok (.iload 4, 2) := by decide +kernel
theorem dX3_note_52 : decode cX3_note 52 = .ok (.i2l, 1) := by decide +kernel
theorem dX3_note_53 : decode cX3_note 53 = .ok (.lastore, 1) := by decide +kernel
theorem dX3_note_54 : decode cX3_note 54 = .ok (.aload_n 0, 1) := by decide +kernel
theorem dX3_note_55 : decode cX3_note 55 = .ok (.getfield 13, 3) := by decide +kernel
theorem dX3_note_58 : decode cX3_note 58 = .ok (.iconst 4, 1) := by decide +kernel
theorem dX3_note_59 : decode cX3_note 59 = .ok (.aload_n 0, 1) := by decide +kernel
theorem dX3_note_60 : decode cX3_note 60 = .ok (.getfield 17, 3) := by decide +kernel
theorem dX3_note_63 : decode cX3_note 63 = .ok (.imul, 1) := by decide +kernel
theorem dX3_note_64 : decode cX3_note 64 = .ok (.iconst 3, 1) := by decide +kernel
theorem dX3_note_65 : decode cX3_note 65 = .ok (.iadd, 1) := by decide +kernel
theorem dX3_note_66 : decode cX3_note 66 = .ok (.iload 5, 2) := by decide +kernel
theorem dX3_note_68 : decode cX3_note 68 = .ok (.i2l, 1) := by decide +kernel
theorem dX3_note_69 : decode cX3_note 69 = .ok (.lastore, 1) := by decide +kernel
theorem dX3_note_70 : decode cX3_note 70 = .ok (.aload_n 0, 1) := by decide +kernel
theorem dX3_note_71 : decode cX3_note 71 = .ok (.dup, 1) := by decide +kernel
theorem dX3_note_72 : decode cX3_note 72 = .ok (.getfield 17, 3) := by decide +kernel
theorem dX3_note_75 : decode cX3_note 75 = .ok (.iconst 1, 1) := by decide +kernel
theorem dX3_note_76 : decode cX3_note 76 = .ok (.iadd, 1) := by decide +kernel
theorem dX3_note_77 : decode cX3_note 77 = .ok (.putfield 17, 3) := by decide +kernel
theorem dX3_note_80 : decode cX3_note 80 = .ok (.return_, 1) := by decide +kernel
theorem dX3_has_0 : decode cX3_has 0 = .ok (.iload_n 1, 1) := by decide +kernel
theorem dX3_has_1 : decode cX3_has 1 = .ok (.ifCond .lt 32, 3) := by decide +kernel
theorem dX3_has_4 : decode cX3_has 4 = .ok (.iload_n 1, 1) := by decide +kernel
theorem dX3_has_5 : decode cX3_has 5 = .ok (.aload_n 0, 1) := by decide +kernel
theorem dX3_has_6 : decode cX3_has 6 = .ok (.getfield 17, 3) := by decide +kernel
theorem dX3_has_9 : decode cX3_has 9 = .ok (.if_icmp .ge 24, 3) := by decide +kernel
theorem dX3_has_12 : decode cX3_has 12 = .ok (.iload_n 1, 1) := by decide +kernel
theorem dX3_has_13 : decode cX3_has 13 = .ok (.aload_n 0, 1) := by decide +kernel
theorem dX3_has_14 : decode cX3_has 14 = .ok (.getfield 7, 3) := by decide +kernel
theorem dX3_has_17 : decode cX3_has 17 = .ok (.if_icmp .ge 16, 3) := by decide +kernel
theorem dX3_has_20 : decode cX3_has 20 = .ok (.iload_n 2, 1) := by decide +kernel
theorem dX3_has_21 : decode cX3_has 21 = .ok (.ifCond .lt 12, 3) := by decide +kernel
theorem dX3_has_24 : decode cX3_has 24 = .ok (.iload_n 2, 1) := by decide +kernel
theorem dX3_has_25 : decode cX3_has 25 = .ok (.iconst 3, 1) := by decide +kernel
theorem dX3_has_26 : decode cX3_has 26 = .ok (.if_icmp .gt 7, 3) := by decide +kernel
theorem dX3_has_29 : decode cX3_has 29 = .ok (.iconst 1, 1) := by decide +kernel
theorem dX3_has_30 : decode cX3_has 30 = .ok (.goto 4, 3) := by decide +kernel
theorem dX3_has_33 : decode cX3_has 33 = .ok (.iconst 0, 1) := by decide +kernel
theorem dX3_has_34 : decode cX3_has 34 = .ok (.ireturn, 1) := by decide +kernel
theorem dX3_get_0 : decode cX3_get 0 = .ok (.aload_n 0, 1) := by decide +kernel
theorem dX3_get_1 : decode cX3_get 1 = .ok (.getfield 13, 3) := by decide +kernel
theorem dX3_get_4 : decode cX3_get 4 = .ok (.iconst 4, 1) := by decide +kernel
theorem dX3_get_5 : decode cX3_get 5 = .ok (.iload_n 1, 1) := by decide +kernel
theorem dX3_get_6 : decode cX3_get 6 = .ok (.imul, 1) := by decide +kernel
theorem dX3_get_7 : decode cX3_get 7 = .ok (.iload_n 2, 1) := by decide +kernel
theorem dX3_get_8 : decode cX3_get 8 = .ok (.iadd, 1) := by decide +kernel
theorem dX3_get_9 : decode cX3_get 9 = .ok (.laload, 1) := by decide +kernel
theorem dX3_get_10 : decode cX3_get 10 = .ok (.lreturn, 1) := by decide +kernel
theorem dX4_init_0 : decode cX4_init 0 = .ok (.aload_n 0, 1) := by decide +kernel
theorem dX4_init_1 : decode cX4_init 1 = .ok (.invokespecial 3, 3) := by decide +kernel
theorem dX4_init_4 : decode cX4_init 4 = .ok (.aload_n 0, 1) := by decide +kernel
theorem dX4_init_5 : decode cX4_init 5 = .ok (.aload_n 1, 1) := by decide +kernel
theorem dX4_init_6 : decode cX4_init 6 = .ok (.putfield 9, 3) := by decide +kernel
theorem dX4_init_9 : decode cX4_init 9 = .ok (.return_, 1) := by decide +kernel
theorem dX4_advance_0 : decode cX4_advance 0 = .ok (.aload_n 0, 1) := by decide +kernel
theorem dX4_advance_1 : decode cX4_advance 1 = .ok (.getfield 15, 3) := by decide +kernel
theorem dX4_advance_4 : decode cX4_advance 4 = .ok (.aload_n 0, 1) := by decide +kernel
theorem dX4_advance_5 : decode cX4_advance 5 = .ok (.getfield 9, 3) := by decide +kernel
theorem dX4_advance_8 : decode cX4_advance 8 = .ok (.getfield 19, 3) := by decide +kernel
theorem dX4_advance_11 : decode cX4_advance 11 = .ok (.if_icmp .ge 33, 3) := by decide +kernel
theorem dX4_advance_14 : decode cX4_advance 14 = .ok (.aload_n 0, 1) := by decide +kernel
theorem dX4_advance_15 : decode cX4_advance 15 = .ok (.getfield 9, 3) := by decide +kernel
theorem dX4_advance_18 : decode cX4_advance 18 = .ok (.aload_n 0, 1) := by decide +kernel
theorem dX4_advance_19 : decode cX4_advance 19 = .ok (.getfield 15, 3) := by decide +kernel
theorem dX4_advance_22 : decode cX4_advance 22 = .ok (.invokevirtual 24, 3) := by decide +kernel
theorem dX4_advance_25 : decode cX4_advance 25 = .ok (.invokestatic 28, 3) := by decide +kernel
theorem dX4_advance_28 : decode cX4_advance 28 = .ok (.ifCond .eq 16, 3) := by decide +kernel
theorem dX4_advance_31 : decode cX4_advance 31 = .ok (.aload_n 0, 1) := by decide +kernel
theorem dX4_advance_32 : decode cX4_advance 32 = .ok (.dup, 1) := by decide +kernel
theorem dX4_advance_33 : decode cX4_advance 33 = .ok (.getfield 15, 3) := by decide +kernel
theorem dX4_advance_36 : decode cX4_advance 36 = .ok (.iconst 1, 1) := by decide +kernel
theorem dX4_advance_37 : decode cX4_advance 37 = .ok (.iadd, 1) := by decide +kernel
theorem dX4_advance_38 : decode cX4_advance 38 = .ok (.putfield 15, 3) := by decide +kernel
theorem dX4_advance_41 : decode cX4_advance 41 = .ok (.goto (-41), 3) := by decide +kernel
theorem dX4_advance_44 : decode cX4_advance 44 = .ok (.aload_n 0, 1) := by decide +kernel
theorem dX4_advance_45 : decode cX4_advance 45 = .ok (.aload_n 0, 1) := by decide +kernel
theorem dX4_advance_46 : decode cX4_advance 46 = .ok (.getfield 15, 3) := by decide +kernel
theorem dX4_advance_49 : decode cX4_advance 49 = .ok (.putfield 32, 3) := by decide +kernel
theorem dX4_advance_52 : decode cX4_advance 52 = .ok (.aload_n 0, 1) := by decide +kernel
theorem dX4_advance_53 : decode cX4_advance 53 = .ok (.getfield 9, 3) := by decide +kernel
theorem dX4_advance_56 : decode cX4_advance 56 = .ok (.aload_n 0, 1) := by decide +kernel
theorem dX4_advance_57 : decode cX4_advance 57 = .ok (.getfield 15, 3) := by decide +kernel
theorem dX4_advance_60 : decode cX4_advance 60 = .ok (.invokevirtual 24, 3) := by decide +kernel
theorem dX4_advance_63 : decode cX4_advance 63 = .ok (.istore_n 1, 1) := by decide +kernel
theorem dX4_advance_64 : decode cX4_advance 64 = .ok (.iload_n 1, 1) := by decide +kernel
theorem dX4_advance_65 : decode cX4_advance 65 = .ok (.ifCond .ge 11, 3) := by decide +kernel
theorem dX4_advance_68 : decode cX4_advance 68 = .ok (.aload_n 0, 1) := by decide +kernel
theorem dX4_advance_69 : decode cX4_advance 69 = .ok (.iconst 0, 1) := by decide +kernel
theorem dX4_advance_70 : decode cX4_advance 70 = .ok (.putfield 35, 3) := by decide +kernel
theorem dX4_advance_73 : decode cX4_advance 73 = .ok (.goto 131, 3) := by decide +kernel
theorem dX4_advance_76 : decode cX4_advance 76 = .ok (.iload_n 1, 1) := by decide +kernel
theorem dX4_advance_77 : decode cX4_advance 77 = .ok (.bipush 97, 2) := by decide +kernel
theorem dX4_advance_79 : decode cX4_advance 79 = .ok (.if_icmp .lt 45, 3) := by decide +kernel
theorem dX4_advance_82 : decode cX4_advance 82 = .ok (.iload_n 1, 1) := by decide +kernel
theorem dX4_advance_83 : decode cX4_advance 83 = .ok (.bipush 122, 2) := by decide +kernel
theorem dX4_advance_85 : decode cX4_advance 85 = .ok (.if_icmp .gt 39, 3) := by decide +kernel
theorem dX4_advance_88 : decode cX4_advance 88 = .ok (.aload_n 0, 1) := by decide +kernel
theorem dX4_advance_89 : decode cX4_advance 89 = .ok (.aload_n 0, 1) := by decide +kernel
theorem dX4_advance_90 : decode cX4_advance 90 = .ok (.bipush 97, 2) := by decide +kernel
theorem dX4_advance_92 : decode cX4_advance 92 = .ok (.bipush 122, 2) := by decide +kernel
theorem dX4_advance_94 : decode cX4_advance 94 = .ok (.invokevirtual 38, 3) := by decide +kernel
theorem dX4_advance_97 : decode cX4_advance 97 = .ok (.bipush 8, 2) := by decide +kernel
theorem dX4_advance_99 : decode cX4_advance 99 = .ok (.if_icmp .le 7, 3) := by decide +kernel
theorem dX4_advance_102 : decode cX4_advance 102 = .ok (.iconst 1, 1) := by decide +kernel
theorem dX4_advance_103 : decode cX4_advance 103 = .ok (.goto 15, 3) := by decide +kernel
theorem dX4_advance_106 : decode cX4_advance 106 = .ok (.aload_n 0, 1) := by decide +kernel
theorem dX4_advance_107 : decode cX4_advance 107 = .ok (.invokevirtual 42, 3) := by decide +kernel
theorem dX4_advance_110 : decode cX4_advance 110 = .ok (.ifCond .eq 7, 3) := by decide +kernel
theorem dX4_advance_113 : decode cX4_advance 113 = .ok (.iconst 2, 1) := by decide +kernel
theorem dX4_advance_114 : decode cX4_advance 114 = .ok (.goto 4, 3) := by decide +kernel
theorem dX4_advance_117 : decode cX4_advance 117 = .ok (.iconst 3, 1) := by decide +kernel
theorem dX4_advance_118 : decode cX4_advance 118 = .ok (.putfield 35, 3) := by decide +kernel
theorem dX4_advance_121 : decode cX4_advance 121 = .ok (.goto 83, 3) := by decide +kernel
theorem dX4_advance_124 : decode cX4_advance 124 = .ok (.iload_n 1, 1) := by decide +kernel
theorem dX4_advance_125 : decode cX4_advance 125 = .ok (.bipush 48, 2) := by decide +kernel
theorem dX4_advance_127 : decode cX4_advance 127 = .ok (.if_icmp .lt 34, 3) := by decide +kernel
theorem dX4_advance_130 : decode cX4_advance 130 = .ok (.iload_n 1, 1) := by decide +kernel
theorem dX4_advance_131 : decode cX4_advance 131 = .ok (.bipush 57, 2) := by decide +kernel
theorem dX4_advance_133 : decode cX4_advance 133 = .ok (.if_icmp .gt 28, 3) := by decide +kernel
theorem dX4_advance_136 : decode cX4_advance 136 = .ok (.aload_n 0, 1) := by decide +kernel
theorem dX4_advance_137 : decode cX4_advance 137 = .ok (.aload_n 0, 1) := by decide +kernel
theorem dX4_advance_138 : decode cX4_advance 138 = .ok (.bipush 48, 2) := by decide +kernel
theorem dX4_advance_140 : decode cX4_advance 140 = .ok (.bipush 57, 2) := by decide +kernel
theorem dX4_advance_142 : decode cX4_advance 142 = .ok (.invokevirtual 38, 3) := by decide +kernel
theorem dX4_advance_145 : decode cX4_advance 145 = .ok (.bipush 18, 2) := by decide +kernel
theorem dX4_advance_147 : decode cX4_advance 147 = .ok (.if_icmp .le 7, 3) := by decide +kernel
theorem dX4_advance_150 : decode cX4_advance 150 = .ok (.iconst 1, 1) := by decide +kernel
theorem dX4_advance_151 : decode cX4_advance 151 = .ok (.goto 4, 3) := by decide +kernel
theorem dX4_advance_154 : decode cX4_advance 154 = .ok (.iconst 4, 1) := by decide +kernel
theorem dX4_advance_155 : decode cX4_advance 155 = .ok (.putfield 35, 3) := by decide +kernel
theorem dX4_advance_158 : decode cX4_advance 158 = .ok (.goto 46, 3) := by decide +kernel
theorem dX4_advance_161 : decode cX4_advance 161 = .ok (.aload_n 0, 1) := by decide +kernel
theorem dX4_advance_162 : decode cX4_advance 162 = .ok (.iload_n 1, 1) := by decide +kernel
theorem dX4_advance_163 : decode cX4_advance 163 = .ok (.bipush 61, 2) := by decide +kernel
theorem dX4_advance_165 : decode cX4_advance 165 = .ok (.if_icmp .eq 15, 3) := by decide +kernel
theorem dX4_advance_168 : decode cX4_advance 168 = .ok (.iload_n 1, 1) := by decide +kernel
theorem dX4_advance_169 : decode cX4_advance 169 = .ok (.bipush 59, 2) := by decide +kernel
theorem dX4_advance_171 : decode cX4_advance 171 = .ok (.if_icmp .eq 9, 3) := by decide +kernel
theorem dX4_advance_174 : decode cX4_advance 174 = .ok (.iload_n 1, 1) := by decide +kernel
theorem dX4_advance_175 : decode cX4_advance 175 = .ok (.bipush 45, 2) := by decide +kernel
theorem dX4_advance_177 : decode cX4_advance 177 = .ok (.if_icmp .ne 7, 3) := by decide +kernel
theorem dX4_advance_180 : decode cX4_advance 180 = .ok (.iconst 5, 1) := by decide +kernel
theorem dX4_advance_181 : decode cX4_advance 181 = .ok (.goto 4, 3) := by decide +kernel
theorem dX4_advance_184 : decode cX4_advance 184 = .ok (.iconst 1, 1) := by decide +kernel
theorem dX4_advance_185 : decode cX4_advance 185 = .ok (.putfield 35, 3) := by decide +kernel
theorem dX4_advance_188 : decode cX4_advance 188 = .ok (.aload_n 0, 1) := by decide +kernel
theorem dX4_advance_189 : decode cX4_advance 189 = .ok (.iload_n 1, 1) := by decide +kernel
theorem dX4_advance_190 : decode cX4_advance 190 = .ok (.i2l, 1) := by decide +kernel
theorem dX4_advance_191 : decode cX4_advance 191 = .ok (.putfield 46, 3) := by decide +kernel
theorem dX4_advance_194 : decode cX4_advance 194 = .ok (.aload_n 0, 1) := by decide +kernel
theorem dX4_advance_195 : decode cX4_advance 195 = .ok (.dup, 1) := by decide +kernel
theorem dX4_advance_196 : decode cX4_advance 196 = .ok (.getfield 15, 3) := by decide +kernel
theorem dX4_advance_199 : decode cX4_advance 199 = .ok (.iconst 1, 1) := by decide +kernel
theorem dX4_advance_200 : decode cX4_advance 200 = .ok (.iadd, 1) := by decide +kernel
theorem dX4_advance_201 : decode cX4_advance 201 = .ok (.putfield 15, 3) := by decide +kernel
theorem dX4_advance_204 : decode cX4_advance 204 = .ok (.return_, 1) := by decide +kernel
theorem dX4_scanRun_0 : decode cX4_scanRun 0 = .ok (.aload_n 0, 1) := by decide +kernel
theorem dX4_scanRun_1 : decode cX4_scanRun 1 = .ok (.lconst 0, 1) := by decide +kernel
theorem dX4_scanRun_2 : decode cX4_scanRun 2 = .ok (.putfield 46, 3) := by decide +kernel
theorem dX4_scanRun_5 : decode cX4_scanRun 5 = .ok (.iconst 0, 1) := by decide +kernel
theorem dX4_scanRun_6 : decode cX4_scanRun 6 = .ok (.istore_n 3, 1) := by decide +kernel
theorem dX4_scanRun_7 : decode cX4_scanRun 7 = .ok (.aload_n 0, 1) := by decide +kernel
theorem dX4_scanRun_8 : decode cX4_scanRun 8 = .ok (.getfield 15, 3) := by decide +kernel
theorem dX4_scanRun_11 : decode cX4_scanRun 11 = .ok (.aload_n 0, 1) := by decide +kernel
theorem dX4_scanRun_12 : decode cX4_scanRun 12 = .ok (.getfield 9, 3) := by decide +kernel
theorem dX4_scanRun_15 : decode cX4_scanRun 15 = .ok (.getfield 19, 3) := by decide +kernel
theorem dX4_scanRun_18 : decode cX4_scanRun 18 = .ok (.if_icmp .ge 105, 3) := by decide +kernel
theorem dX4_scanRun_21 : decode cX4_scanRun 21 = .ok (.aload_n 0, 1) := by decide +kernel
theorem dX4_scanRun_22 : decode cX4_scanRun 22 = .ok (.getfield 9, 3) := by decide +kernel
theorem dX4_scanRun_25 : decode cX4_scanRun 25 = .ok (.aload_n 0, 1) := by decide +kernel
theorem dX4_scanRun_26 : decode cX4_scanRun 26 = .ok (.getfield 15, 3) := by decide +kernel
theorem dX4_scanRun_29 : decode cX4_scanRun 29 = .ok (.invokevirtual 24, 3) := by decide +kernel
theorem dX4_scanRun_32 : decode cX4_scanRun 32 = .ok (.iload_n 1, 1) := by decide +kernel
theorem dX4_scanRun_33 : decode cX4_scanRun 33 = .ok (.if_icmp .lt 90, 3) := by decide +kernel
theorem dX4_scanRun_36 : decode cX4_scanRun 36 = .ok (.aload_n 0, 1) := by decide +kernel
theorem dX4_scanRun_37 : decode cX4_scanRun 37 = .ok (.getfield 9, 3) := by decide +kernel
theorem dX4_scanRun_40 : decode cX4_scanRun 40 = .ok (.aload_n 0, 1) := by decide +kernel
theorem dX4_scanRun_41 : decode cX4_scanRun 41 = .ok (.getfield 15, 3) := by decide +kernel
theorem dX4_scanRun_44 : decode cX4_scanRun 44 = .ok (.invokevirtual 24, 3) := by decide +kernel
theorem dX4_scanRun_47 : decode cX4_scanRun 47 = .ok (.iload_n 2, 1) := by decide +kernel
theorem dX4_scanRun_48 : decode cX4_scanRun 48 = .ok (.if_icmp .gt 75, 3) := by decide +kernel
theorem dX4_scanRun_51 : decode cX4_scanRun 51 = .ok (.aload_n 0, 1) := by decide +kernel
theorem dX4_scanRun_52 : decode cX4_scanRun 52 = .ok (.iload_n 1, 1) := by decide +kernel
theorem dX4_scanRun_53 : decode cX4_scanRun 53 = .ok (.bipush 48, 2) := by decide +kernel
theorem dX4_scanRun_55 : decode cX4_scanRun 55 = .ok (.if_icmp .ne 29, 3) := by decide +kernel
theorem dX4_scanRun_58 : decode cX4_scanRun 58 = .ok (.aload_n 0, 1) := by decide +kernel
theorem dX4_scanRun_59 : decode cX4_scanRun 59 = .ok (.getfield 46, 3) := by decide +kernel
theorem dX4_scanRun_62 : decode cX4_scanRun 62 = .ok (.ldc2_w 50, 3) := by decide +kernel
theorem dX4_scanRun_65 : decode cX4_scanRun 65 = .ok (.lmul, 1) := by decide +kernel
theorem dX4_scanRun_66 : decode cX4_scanRun 66 = .ok (.aload_n 0, 1) := by decide +kernel
theorem dX4_scanRun_67 : decode cX4_scanRun 67 = .ok (.getfield 9, 3) := by decide +kernel
theorem dX4_scanRun_70 : decode cX4_scanRun 70 = .ok (.aload_n 0, 1) := by decide +kernel
theorem dX4_scanRun_71 : decode cX4_scanRun 71 = .ok (.getfield 15, 3) := by decide +kernel
theorem dX4_scanRun_74 : decode cX4_scanRun 74 = .ok (.invokevirtual 24, 3) := by decide +kernel
theorem dX4_scanRun_77 : decode cX4_scanRun 77 = .ok (.iload_n 1, 1) := by decide +kernel
theorem dX4_scanRun_78 : decode cX4_scanRun 78 = .ok (.isub, 1) := by decide +kernel
theorem dX4_scanRun_79 : decode cX4_scanRun 79 = .ok (.i2l, 1) := by decide +kernel
theorem dX4_scanRun_80 : decode cX4_scanRun 80 = .ok (.ladd, 1) := by decide +kernel
theorem dX4_scanRun_81 : decode cX4_scanRun 81 = .ok (.goto 23, 3) := by decide +kernel
theorem dX4_scanRun_84 : decode cX4_scanRun 84 = .ok (.aload_n 0, 1) := by decide +kernel
theorem dX4_scanRun_85 : decode cX4_scanRun 85 = .ok (.getfield 46, 3) := by decide +kernel
theorem dX4_scanRun_88 : decode cX4_scanRun 88 = .ok (.bipush 8, 2) := by decide +kernel
theorem dX4_scanRun_90 : decode cX4_scanRun 90 = .ok (.lshl, 1) := by decide +kernel
theorem dX4_scanRun_91 : decode cX4_scanRun 91 = .ok (.aload_n 0, 1) := by decide +kernel
theorem dX4_scanRun_92 : decode cX4_scanRun 92 = .ok (.getfield 9, 3) := by decide +kernel
theorem dX4_scanRun_95 : decode cX4_scanRun 95 = .ok (.aload_n 0, 1) := by decide +kernel
theorem dX4_scanRun_96 : decode cX4_scanRun 96 = .ok (.getfield 15, 3) := by decide +kernel
theorem dX4_scanRun_99 : decode cX4_scanRun 99 = .ok (.invokevirtual 24, 3) := by decide +kernel
theorem dX4_scanRun_102 : decode cX4_scanRun 102 = .ok (.i2l, 1) := by decide +kernel
theorem dX4_scanRun_103 : decode cX4_scanRun 103 = .ok (.lor, 1) := by decide +kernel
theorem dX4_scanRun_104 : decode cX4_scanRun 104 = .ok (.putfield 46, 3) := by decide +kernel
theorem dX4_scanRun_107 : decode cX4_scanRun 107 = .ok (.aload_n 0, 1) := by decide +kernel
theorem dX4_scanRun_108 : decode cX4_scanRun 108 = .ok (.dup, 1) := by decide +kernel
theorem dX4_scanRun_109 : decode cX4_scanRun 109 = .ok (.getfield 15, 3) := by decide +kernel
theorem dX4_scanRun_112 : decode cX4_scanRun 112 = .ok (.iconst 1, 1) := by decide +kernel
theorem dX4_scanRun_113 : decode cX4_scanRun 113 = .ok (.iadd, 1) := by decide +kernel
theorem dX4_scanRun_114 : decode cX4_scanRun 114 = .ok (.putfield 15, 3) := by decide +kernel
theorem dX4_scanRun_117 : decode cX4_scanRun 117 = .ok (.iinc 3 1, 3) := by decide +kernel
theorem dX4_scanRun_120 : decode cX4_scanRun 120 = .ok (.goto (-113), 3) := by decide +kernel
theorem dX4_scanRun_123 : decode cX4_scanRun 123 = .ok (.iload_n 3, 1) := by decide +kernel
theorem dX4_scanRun_124 : decode cX4_scanRun 124 = .ok (.ireturn, 1) := by decide +kernel
theorem dX4_isKeyword_0 : decode cX4_isKeyword 0 = .ok (.aload_n 0, 1) := by decide +kernel
theorem dX4_isKeyword_1 : decode cX4_isKeyword 1 = .ok (.getfield 46, 3) := by decide +kernel
theorem dX4_isKeyword_4 : decode cX4_isKeyword 4 = .ok (.ldc2_w 52, 3) := by decide +kernel
theorem dX4_isKeyword_7 : decode cX4_isKeyword 7 = .ok (.lcmp, 1) := by decide +kernel
theorem dX4_isKeyword_8 : decode cX4_isKeyword 8 = .ok (.ifCond .eq 157, 3) := by decide +kernel
theorem dX4_isKeyword_11 : decode cX4_isKeyword 11 = .ok (.aload_n 0, 1) := by decide +kernel
theorem dX4_isKeyword_12 : decode cX4_isKeyword 12 = .ok (.getfield 46, 3) := by decide +kernel
theorem dX4_isKeyword_15 : decode cX4_isKeyword 15 = .ok (.ldc2_w 54, 3) := by decide +kernel
theorem dX4_isKeyword_18 : decode cX4_isKeyword 18 = .ok (.lcmp, 1) := by decide +kernel
theorem dX4_isKeyword_19 : decode cX4_isKeyword 19 = .ok (.ifCond .eq 146, 3) := by decide +kernel
theorem dX4_isKeyword_22 : decode cX4_isKeyword 22 = .ok (.aload_n 0, 1) := by decide +kernel
theorem dX4_isKeyword_23 : decode cX4_isKeyword 23 = .ok (.getfield 46, 3) := by decide +kernel
theorem dX4_isKeyword_26 : decode cX4_isKeyword 26 = .ok (.ldc2_w 56, 3) := by decide +kernel
theorem dX4_isKeyword_29 : decode cX4_isKeyword 29 = .ok (.lcmp, 1) := by decide +kernel
theorem dX4_isKeyword_30 : decode cX4_isKeyword 30 = .ok (.ifCond .eq 135, 3) := by decide +kernel
theorem dX4_isKeyword_33 : decode cX4_isKeyword 33 = .ok (.aload_n 0, 1) := by decide +kernel
theorem dX4_isKeyword_34 : decode cX4_isKeyword 34 = .ok (.getfield 46, 3) := by decide +kernel
theorem dX4_isKeyword_37 : decode cX4_isKeyword 37 = .ok (.ldc2_w 58, 3) := by decide +kernel
theorem dX4_isKeyword_40 : decode cX4_isKeyword 40 = .ok (.lcmp, 1) := by decide +kernel
theorem dX4_isKeyword_41 : decode cX4_isKeyword 41 = .ok (.ifCond .eq 124, 3) := by decide +kernel
theorem dX4_isKeyword_44 : decode cX4_isKeyword 44 = .ok (.aload_n 0, 1) := by decide +kernel
theorem dX4_isKeyword_45 : decode cX4_isKeyword 45 = .ok (.getfield 46, 3) := by decide +kernel
theorem dX4_isKeyword_48 : decode cX4_isKeyword 48 = .ok (.ldc2_w 60, 3) := by decide +kernel
theorem dX4_isKeyword_51 : decode cX4_isKeyword 51 = .ok (.lcmp, 1) := by decide +kernel
theorem dX4_isKeyword_52 : decode cX4_isKeyword 52 = .ok (.ifCond .eq 113, 3) := by decide +kernel
theorem dX4_isKeyword_55 : decode cX4_isKeyword 55 = .ok (.aload_n 0, 1) := by decide +kernel
theorem dX4_isKeyword_56 : decode cX4_isKeyword 56 = .ok (.getfield 46, 3) := by decide +kernel
theorem dX4_isKeyword_59 : decode cX4_isKeyword 59 = .ok (.ldc2_w 62, 3) := by decide +kernel
theorem dX4_isKeyword_62 : decode cX4_isKeyword 62 = .ok (.lcmp, 1) := by decide +kernel
theorem dX4_isKeyword_63 : decode cX4_isKeyword 63 = .ok (.ifCond .eq 102, 3) := by decide +kernel
theorem dX4_isKeyword_66 : decode cX4_isKeyword 66 = .ok (.aload_n 0, 1) := by decide +kernel
theorem dX4_isKeyword_67 : decode cX4_isKeyword 67 = .ok (.getfield 46, 3) := by decide +kernel
theorem dX4_isKeyword_70 : decode cX4_isKeyword 70 = .ok (.ldc2_w 64, 3) := by decide +kernel
theorem dX4_isKeyword_73 : decode cX4_isKeyword 73 = .ok (.lcmp, 1) := by decide +kernel
theorem dX4_isKeyword_74 : decode cX4_isKeyword 74 = .ok (.ifCond .eq 91, 3) := by decide +kernel
theorem dX4_isKeyword_77 : decode cX4_isKeyword 77 = .ok (.aload_n 0, 1) := by decide +kernel
theorem dX4_isKeyword_78 : decode cX4_isKeyword 78 = .ok (.getfield 46, 3) := by decide +kernel
theorem dX4_isKeyword_81 : decode cX4_isKeyword 81 = .ok (.ldc2_w 66, 3) := by decide +kernel
theorem dX4_isKeyword_84 : decode cX4_isKeyword 84 = .ok (.lcmp, 1) := by decide +kernel
theorem dX4_isKeyword_85 : decode cX4_isKeyword 85 = .ok (.ifCond .eq 80, 3) := by decide +kernel
theorem dX4_isKeyword_88 : decode cX4_isKeyword 88 = .ok (.aload_n 0, 1) := by decide +kernel
theorem dX4_isKeyword_89 : decode cX4_isKeyword 89 = .ok (.getfield 46, 3) := by decide +kernel
theorem dX4_isKeyword_92 : decode cX4_isKeyword 92 = .ok (.ldc2_w 68, 3) := by decide +kernel
theorem dX4_isKeyword_95 : decode cX4_isKeyword 95 = .ok (.lcmp, 1) := by decide +kernel
theorem dX4_isKeyword_96 : decode cX4_isKeyword 96 = .ok (.ifCond .eq 69, 3) := by decide +kernel
theorem dX4_isKeyword_99 : decode cX4_isKeyword 99 = .ok (.aload_n 0, 1) := by decide +kernel
theorem dX4_isKeyword_100 : decode cX4_isKeyword 100 = .ok (.getfield 46, 3) := by decide +kernel
theorem dX4_isKeyword_103 : decode cX4_isKeyword 103 = .ok (.ldc2_w 70, 3) := by decide +kernel
theorem dX4_isKeyword_106 : decode cX4_isKeyword 106 = .ok (.lcmp, 1) := by decide +kernel
theorem dX4_isKeyword_107 : decode cX4_isKeyword 107 = .ok (.ifCond .eq 58, 3) := by decide +kernel
theorem dX4_isKeyword_110 : decode cX4_isKeyword 110 = .ok (.aload_n 0, 1) := by decide +kernel
theorem dX4_isKeyword_111 : decode cX4_isKeyword 111 = .ok (.getfield 46, 3) := by decide +kernel
theorem dX4_isKeyword_114 : decode cX4_isKeyword 114 = .ok (.ldc2_w 72, 3) := by decide +kernel
theorem dX4_isKeyword_117 : decode cX4_isKeyword 117 = .ok (.lcmp, 1) := by decide +kernel
theorem dX4_isKeyword_118 : decode cX4_isKeyword 118 = .ok (.ifCond .eq 47, 3) := by decide +kernel
theorem dX4_isKeyword_121 : decode cX4_isKeyword 121 = .ok (.aload_n 0, 1) := by decide +kernel
theorem dX4_isKeyword_122 : decode cX4_isKeyword 122 = .ok (.getfield 46, 3) := by decide +kernel
theorem dX4_isKeyword_125 : decode cX4_isKeyword 125 = .ok (.ldc2_w 74, 3) := by decide +kernel
theorem dX4_isKeyword_128 : decode cX4_isKeyword 128 = .ok (.lcmp, 1) := by decide +kernel
theorem dX4_isKeyword_129 : decode cX4_isKeyword 129 = .ok (.ifCond .eq 36, 3) := by decide +kernel
theorem dX4_isKeyword_132 : decode cX4_isKeyword 132 = .ok (.aload_n 0, 1) := by decide +kernel
theorem dX4_isKeyword_133 : decode cX4_isKeyword 133 = .ok (.getfield 46, 3) := by decide +kernel
theorem dX4_isKeyword_136 : decode cX4_isKeyword 136 = .ok (.ldc2_w 76, 3) := by decide +kernel
theorem dX4_isKeyword_139 : decode cX4_isKeyword 139 = .ok (.lcmp, 1) := by decide +kernel
theorem dX4_isKeyword_140 : decode cX4_isKeyword 140 = .ok (.ifCond .eq 25, 3) := by decide +kernel
theorem dX4_isKeyword_143 : decode cX4_isKeyword 143 = .ok (.aload_n 0, 1) := by decide +kernel
theorem dX4_isKeyword_144 : decode cX4_isKeyword 144 = .ok (.getfield 46, 3) := by decide +kernel
theorem dX4_isKeyword_147 : decode cX4_isKeyword 147 = .ok (.ldc2_w 78, 3) := by decide +kernel
theorem dX4_isKeyword_150 : decode cX4_isKeyword 150 = .ok (.lcmp, 1) := by decide +kernel
theorem dX4_isKeyword_151 : decode cX4_isKeyword 151 = .ok (.ifCond .eq 14, 3) := by decide +kernel
theorem dX4_isKeyword_154 : decode cX4_isKeyword 154 = .ok (.aload_n 0, 1) := by decide +kernel
theorem dX4_isKeyword_155 : decode cX4_isKeyword 155 = .ok (.getfield 46, 3) := by decide +kernel
theorem dX4_isKeyword_158 : decode cX4_isKeyword 158 = .ok (.ldc2_w 80, 3) := by decide +kernel
theorem dX4_isKeyword_161 : decode cX4_isKeyword 161 = .ok (.lcmp, 1) := by decide +kernel
theorem dX4_isKeyword_162 : decode cX4_isKeyword 162 = .ok (.ifCond .ne 7, 3) := by decide +kernel
theorem dX4_isKeyword_165 : decode cX4_isKeyword 165 = .ok (.iconst 1, 1) := by decide +kernel
theorem dX4_isKeyword_166 : decode cX4_isKeyword 166 = .ok (.goto 4, 3) := by decide +kernel
theorem dX4_isKeyword_169 : decode cX4_isKeyword 169 = .ok (.iconst 0, 1) := by decide +kernel
theorem dX4_isKeyword_170 : decode cX4_isKeyword 170 = .ok (.ireturn, 1) := by decide +kernel
theorem dX4_isBlank_0 : decode cX4_isBlank 0 = .ok (.iload_n 0, 1) := by decide +kernel
theorem dX4_isBlank_1 : decode cX4_isBlank 1 = .ok (.bipush 9, 2) := by decide +kernel
theorem dX4_isBlank_3 : decode cX4_isBlank 3 = .ok (.if_icmp .eq 21, 3) := by decide +kernel
theorem dX4_isBlank_6 : decode cX4_isBlank 6 = .ok (.iload_n 0, 1) := by decide +kernel
theorem dX4_isBlank_7 : decode cX4_isBlank 7 = .ok (.bipush 10, 2) := by decide +kernel
theorem dX4_isBlank_9 : decode cX4_isBlank 9 = .ok (.if_icmp .eq 15, 3) := by decide +kernel
theorem dX4_isBlank_12 : decode cX4_isBlank 12 = .ok (.iload_n 0, 1) := by decide +kernel
theorem dX4_isBlank_13 : decode cX4_isBlank 13 = .ok (.bipush 13, 2) := by decide +kernel
theorem dX4_isBlank_15 : decode cX4_isBlank 15 = .ok (.if_icmp .eq 9, 3) := by decide +kernel
theorem dX4_isBlank_18 : decode cX4_isBlank 18 = .ok (.iload_n 0, 1) := by decide +kernel
theorem dX4_isBlank_19 : decode cX4_isBlank 19 = .ok (.bipush 32, 2) := by decide +kernel
theorem dX4_isBlank_21 : decode cX4_isBlank 21 = .ok (.if_icmp .ne 7, 3) := by decide +kernel
theorem dX4_isBlank_24 : decode cX4_isBlank 24 = .ok (.iconst 1, 1) := by decide +kernel
theorem dX4_isBlank_25 : decode cX4_isBlank 25 = .ok (.goto 4, 3) := by decide +kernel
theorem dX4_isBlank_28 : decode cX4_isBlank 28 = .ok (.iconst 0, 1) := by decide +kernel
theorem dX4_isBlank_29 : decode cX4_isBlank 29 = .ok (.ireturn, 1) := by decide +kernel
theorem dX5_init_0 : decode cX5_init 0 = .ok (.aload_n 0, 1) := by decide +kernel
theorem dX5_init_1 : decode cX5_init 1 = .ok (.invokespecial 3, 3) := by decide +kernel
theorem dX5_init_4 : decode cX5_init 4 = .ok (.aload_n 0, 1) := by decide +kernel
theorem dX5_init_5 : decode cX5_init 5 = .ok (.iload_n 1, 1) := by decide +kernel
theorem dX5_init_6 : decode cX5_init 6 = .ok (.putfield 9, 3) := by decide +kernel
theorem dX5_init_9 : decode cX5_init 9 = .ok (.aload_n 0, 1) := by decide +kernel
theorem dX5_init_10 : decode cX5_init 10 = .ok (.lload_n 2, 1) := by decide +kernel
theorem dX5_init_11 : decode cX5_init 11 = .ok (.putfield 15, 3) := by decide +kernel
theorem dX5_init_14 : decode cX5_init 14 = .ok (.aload_n 0, 1) := by decide +kernel
theorem dX5_init_15 : decode cX5_init 15 = .ok (.iload 4, 2) := by decide +kernel
theorem dX5_init_17 : decode cX5_init 17 = .ok (.putfield 19, 3) := by decide +kernel
theorem dX5_init_20 : decode cX5_init 20 = .ok (.aload_n 0, 1) := by decide +kernel
theorem dX5_init_21 : decode cX5_init 21 = .ok (.iload 5, 2) := by decide +kernel
theorem dX5_init_23 : decode cX5_init 23 = .ok (.putfield 22, 3) := by decide +kernel
theorem dX5_init_26 : decode cX5_init 26 = .ok (.aload_n 0, 1) := by decide +kernel
theorem dX5_init_27 : decode cX5_init 27 = .ok (.iconst 4, 1) := by decide +kernel
theorem dX5_init_28 : decode cX5_init 28 = .ok (.newarray .int, 2) := by decide +kernel
theorem dX5_init_30 : decode cX5_init 30 = .ok (.putfield 25, 3) := by decide +kernel
theorem dX5_init_33 : decode cX5_init 33 = .ok (.aload_n 0, 1) := by decide +kernel
theorem dX5_init_34 : decode cX5_init 34 = .ok (.iconst 4, 1) := by decide +kernel
theorem dX5_init_35 : decode cX5_init 35 = .ok (.newarray .long, 2) := by decide +kernel
theorem dX5_init_37 : decode cX5_init 37 = .ok (.putfield 29, 3) := by decide +kernel
theorem dX5_init_40 : decode cX5_init 40 = .ok (.aload_n 0, 1) := by decide +kernel
theorem dX5_init_41 : decode cX5_init 41 = .ok (.iconst 4, 1) := by decide +kernel
theorem dX5_init_42 : decode cX5_init 42 = .ok (.newarray .int, 2) := by decide +kernel
theorem dX5_init_44 : decode cX5_init 44 = .ok (.putfield 33, 3) := by decide +kernel
theorem dX5_init_47 : decode cX5_init 47 = .ok (.aload_n 0, 1) := by decide +kernel
theorem dX5_init_48 : decode cX5_init 48 = .ok (.iconst 4, 1) := by decide +kernel
theorem dX5_init_49 : decode cX5_init 49 = .ok (.newarray .boolean, 2) := by decide +kernel
theorem dX5_init_51 : decode cX5_init 51 = .ok (.putfield 36, 3) := by decide +kernel
theorem dX5_init_54 : decode cX5_init 54 = .ok (.iconst 0, 1) := by decide +kernel
theorem dX5_init_55 : decode cX5_init 55 = .ok (.istore 6, 2) := by decide +kernel
theorem dX5_init_57 : decode cX5_init 57 = .ok (.iload 6, 2) := by decide +kernel
theorem dX5_init_59 : decode cX5_init 59 = .ok (.iconst 4, 1) := by decide +kernel
theorem dX5_init_60 : decode cX5_init 60 = .ok (.if_icmp .ge 19, 3) := by decide +kernel
theorem dX5_init_63 : decode cX5_init 63 = .ok (.aload_n 0, 1) := by decide +kernel
theorem dX5_init_64 : decode cX5_init 64 = .ok (.getfield 29, 3) := by decide +kernel
theorem dX5_init_67 : decode cX5_init 67 = .ok (.iload 6, 2) := by decide +kernel
theorem dX5_init_69 : decode cX5_init 69 = .ok (.ldc2_w 40, 3) := by decide +kernel
theorem dX5_init_72 : decode cX5_init 72 = .ok (.lastore, 1) := by decide +kernel
theorem dX5_init_73 : decode cX5_init 73 = .ok (.iinc 6 1, 3) := by decide +kernel
theorem dX5_init_76 : decode cX5_init 76 = .ok (.goto (-19), 3) := by decide +kernel
theorem dX5_init_79 : decode cX5_init 79 = .ok (.return_, 1) := by decide +kernel
theorem dX5_hear_0 : decode cX5_hear 0 = .ok (.aload_n 0, 1) := by decide +kernel
theorem dX5_hear_1 : decode cX5_hear 1 = .ok (.getfield 25, 3) := by decide +kernel
theorem dX5_hear_4 : decode cX5_hear 4 = .ok (.iload_n 1, 1) := by decide +kernel
theorem dX5_hear_5 : decode cX5_hear 5 = .ok (.iconst 0, 1) := by decide +kernel
theorem dX5_hear_6 : decode cX5_hear 6 = .ok (.iastore, 1) := by decide +kernel
theorem dX5_hear_7 : decode cX5_hear 7 = .ok (.aload_n 0, 1) := by decide +kernel
theorem dX5_hear_8 : decode cX5_hear 8 = .ok (.getfield 33, 3) := by decide +kernel
theorem dX5_hear_11 : decode cX5_hear 11 = .ok (.iload_n 1, 1) := by decide +kernel
theorem dX5_hear_12 : decode cX5_hear 12 = .ok (.iload_n 2, 1) := by decide +kernel
theorem dX5_hear_13 : decode cX5_hear 13 = .ok (.iastore, 1) := by decide +kernel
theorem dX5_hear_14 : decode cX5_hear 14 = .ok (.return_, 1) := by decide +kernel
theorem dX5_raise_0 : decode cX5_raise 0 = .ok (.lload_n 2, 1) := by decide +kernel
theorem dX5_raise_1 : decode cX5_raise 1 = .ok (.aload_n 0, 1) := by decide +kernel
theorem dX5_raise_2 : decode cX5_raise 2 = .ok (.getfield 29, 3) := by decide +kernel
theorem dX5_raise_5 : decode cX5_raise 5 = .ok (.iload_n 1, 1) := by decide +kernel
theorem dX5_raise_6 : decode cX5_raise 6 = .ok (.laload, 1) := by decide +kernel
theorem dX5_raise_7 : decode cX5_raise 7 = .ok (.lcmp, 1) := by decide +kernel
theorem dX5_raise_8 : decode cX5_raise 8 = .ok (.ifCond .gt 5, 3) := by decide +kernel
theorem dX5_raise_11 : decode cX5_raise 11 = .ok (.iconst 0, 1) := by decide +kernel
theorem dX5_raise_12 : decode cX5_raise 12 = .ok (.ireturn, 1) := by decide +kernel
theorem dX5_raise_13 : decode cX5_raise 13 = .ok (.aload_n 0, 1) := by decide +kernel
theorem dX5_raise_14 : decode cX5_raise 14 = .ok (.getfield 29, 3) := by decide +kernel
theorem dX5_raise_17 : decode cX5_raise 17 = .ok (.iload_n 1, 1) := by decide +kernel
theorem dX5_raise_18 : decode cX5_raise 18 = .ok (.lload_n 2, 1) := by decide +kernel
theorem dX5_raise_19 : decode cX5_raise 19 = .ok (.lastore, 1) := by decide +kernel
theorem dX5_raise_20 : decode cX5_raise 20 = .ok (.iconst 1, 1) := by decide +kernel
theorem dX5_raise_21 : decode cX5_raise 21 = .ok (.ireturn, 1) := by decide +kernel
theorem dX5_finish_0 : decode cX5_finish 0 = .ok (.aload_n 0, 1) := by decide +kernel
theorem dX5_finish_1 : decode cX5_finish 1 = .ok (.getfield 25, 3) := by decide +kernel
theorem dX5_finish_4 : decode cX5_finish 4 = .ok (.iload_n 1, 1) := by decide +kernel
theorem dX5_finish_5 : decode cX5_finish 5 = .ok (.iconst 2, 1) := by decide +kernel
theorem dX5_finish_6 : decode cX5_finish 6 = .ok (.iastore, 1) := by decide +kernel
theorem dX5_finish_7 : decode cX5_finish 7 = .ok (.aload_n 0, 1) := by decide +kernel
theorem dX5_finish_8 : decode cX5_finish 8 = .ok (.getfield 29, 3) := by decide +kernel
theorem dX5_finish_11 : decode cX5_finish 11 = .ok (.iload_n 1, 1) := by decide +kernel
theorem dX5_finish_12 : decode cX5_finish 12 = .ok (.ldc2_w 42, 3) := by decide +kernel
theorem dX5_finish_15 : decode cX5_finish 15 = .ok (.lastore, 1) := by decide +kernel
theorem dX5_finish_16 : decode cX5_finish 16 = .ok (.return_, 1) := by decide +kernel
