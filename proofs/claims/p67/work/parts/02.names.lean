/-! names, fields and codes, as the task prints them -/
/-! ===== BEGIN printed: names, fields, word lists, decode rows ===== -/
def RX0 : String := "MoonlitFloor$1"
def TX0 : u_T := fun k => match k with
  | _ => ("", "", "", false)
def tyX0 : Nat → FieldType := fun k => match k with
  | _ => .int
abbrev wsX00 : List Cond := u_ws RX0 TX0 0
theorem nmX0 : ∀ a, a < 0 → ∀ b, b < 0 → a ≠ b → (TX0 a).2.1 ≠ (TX0 b).2.1 := by decide +kernel
theorem tyX0_ok : ∀ k, k < 0 → parseFieldDescriptor (TX0 k).2.2.1 = some (tyX0 k) := by decide +kernel
def RX1 : String := "MoonlitFloor$History"
def TX1 : u_T := fun k => match k with
  | 0 => ("MoonlitFloor$History", "past", "[LMoonlitFloor$World;", true)
  | 1 => ("MoonlitFloor$History", "saved", "[LMoonlitFloor$World;", true)
  | 2 => ("MoonlitFloor$History", "inUse", "[I", true)
  | 3 => ("MoonlitFloor$History", "next", "I", false)
  | _ => ("MoonlitFloor$History", "count", "I", false)
def tyX1 : Nat → FieldType := fun k => match k with
  | 0 => .array (.object "MoonlitFloor$World")
  | 1 => .array (.object "MoonlitFloor$World")
  | 2 => .array .int
  | 3 => .int
  | _ => .int
abbrev wsX10 : List Cond := u_ws RX1 TX1 5
theorem nmX1 : ∀ a, a < 5 → ∀ b, b < 5 → a ≠ b → (TX1 a).2.1 ≠ (TX1 b).2.1 := by decide +kernel
theorem tyX1_ok : ∀ k, k < 5 → parseFieldDescriptor (TX1 k).2.2.1 = some (tyX1 k) := by decide +kernel
abbrev cX1_init : ByteArray := prog_3_method_1_code
def yX1_init : MethodName := ⟨RX1, "<init>", "()V"⟩
abbrev cX1_keep : ByteArray := prog_3_method_2_code
def yX1_keep : MethodName := ⟨RX1, "keep", "(LMoonlitFloor$World;)V"⟩
abbrev cX1_store : ByteArray := prog_3_method_4_code
def yX1_store : MethodName := ⟨RX1, "store", "(ILMoonlitFloor$World;)V"⟩
abbrev cX1_fetch : ByteArray := prog_3_method_5_code
def yX1_fetch : MethodName := ⟨RX1, "fetch", "(ILMoonlitFloor$World;)Z"⟩
abbrev cX1_forgetChanges : ByteArray := prog_3_method_6_code
def yX1_forgetChanges : MethodName := ⟨RX1, "forgetChanges", "()V"⟩
abbrev cX1_forgetAll : ByteArray := prog_3_method_7_code
def yX1_forgetAll : MethodName := ⟨RX1, "forgetAll", "()V"⟩
abbrev cX1_worldAt : ByteArray := prog_3_method_8_code
def yX1_worldAt : MethodName := ⟨RX1, "worldAt", "([LMoonlitFloor$World;I)LMoonlitFloor$World;"⟩
def RX2 : String := "MoonlitFloor$Plan"
def TX2 : u_T := fun k => match k with
  | 0 => ("MoonlitFloor$Plan", "draughts", "[I", true)
  | 1 => ("MoonlitFloor$Plan", "cloudFirsts", "[I", true)
  | 2 => ("MoonlitFloor$Plan", "cloudLasts", "[I", true)
  | 3 => ("MoonlitFloor$Plan", "route", "[I", true)
  | 4 => ("MoonlitFloor$Plan", "rows", "I", false)
  | 5 => ("MoonlitFloor$Plan", "columns", "I", false)
  | 6 => ("MoonlitFloor$Plan", "minutesPerRow", "I", false)
  | 7 => ("MoonlitFloor$Plan", "dryingTime", "I", false)
  | 8 => ("MoonlitFloor$Plan", "restTime", "I", false)
  | 9 => ("MoonlitFloor$Plan", "stamina", "I", false)
  | 10 => ("MoonlitFloor$Plan", "noise", "I", false)
  | 11 => ("MoonlitFloor$Plan", "clouds", "I", false)
  | _ => ("MoonlitFloor$Plan", "moves", "I", false)
def tyX2 : Nat → FieldType := fun k => match k with
  | 0 => .array .int
  | 1 => .array .int
  | 2 => .array .int
  | 3 => .array .int
  | 4 => .int
  | 5 => .int
  | 6 => .int
  | 7 => .int
  | 8 => .int
  | 9 => .int
  | 10 => .int
  | 11 => .int
  | _ => .int
abbrev wsX20 : List Cond := u_ws RX2 TX2 13
theorem nmX2 : ∀ a, a < 13 → ∀ b, b < 13 → a ≠ b → (TX2 a).2.1 ≠ (TX2 b).2.1 := by decide +kernel
theorem tyX2_ok : ∀ k, k < 13 → parseFieldDescriptor (TX2 k).2.2.1 = some (tyX2 k) := by decide +kernel
abbrev cX2_init : ByteArray := prog_4_method_1_code
def yX2_init : MethodName := ⟨RX2, "<init>", "()V"⟩
abbrev cX2_reset : ByteArray := prog_4_method_2_code
def yX2_reset : MethodName := ⟨RX2, "reset", "()V"⟩
abbrev cX2_copyFrom : ByteArray := prog_4_method_3_code
def yX2_copyFrom : MethodName := ⟨RX2, "copyFrom", "(LMoonlitFloor$Plan;)V"⟩
abbrev cX2_isCloudy : ByteArray := prog_4_method_4_code
def yX2_isCloudy : MethodName := ⟨RX2, "isCloudy", "(I)Z"⟩
def RX3 : String := "MoonlitFloor$Records"
def TX3 : u_T := fun k => match k with
  | 0 => ("MoonlitFloor$Records", "nights", "[I", true)
  | 1 => ("MoonlitFloor$Records", "steps", "[I", true)
  | _ => ("MoonlitFloor$Records", "count", "I", false)
def tyX3 : Nat → FieldType := fun k => match k with
  | 0 => .array .int
  | 1 => .array .int
  | _ => .int
abbrev wsX30 : List Cond := u_ws RX3 TX3 3
theorem nmX3 : ∀ a, a < 3 → ∀ b, b < 3 → a ≠ b → (TX3 a).2.1 ≠ (TX3 b).2.1 := by decide +kernel
theorem tyX3_ok : ∀ k, k < 3 → parseFieldDescriptor (TX3 k).2.2.1 = some (tyX3 k) := by decide +kernel
abbrev cX3_init : ByteArray := prog_5_method_1_code
def yX3_init : MethodName := ⟨RX3, "<init>", "()V"⟩
abbrev cX3_reset : ByteArray := prog_5_method_2_code
def yX3_reset : MethodName := ⟨RX3, "reset", "()V"⟩
abbrev cX3_copyFrom : ByteArray := prog_5_method_3_code
def yX3_copyFrom : MethodName := ⟨RX3, "copyFrom", "(LMoonlitFloor$Records;)V"⟩
abbrev cX3_rankFor : ByteArray := prog_5_method_4_code
def yX3_rankFor : MethodName := ⟨RX3, "rankFor", "(I)I"⟩
abbrev cX3_add : ByteArray := prog_5_method_5_code
def yX3_add : MethodName := ⟨RX3, "add", "(II)V"⟩
def RX4 : String := "MoonlitFloor$SetupReader"
def TX4 : u_T := fun k => match k with
  | 0 => ("MoonlitFloor$SetupReader", "tokens", "LMoonlitFloor$Tokens;", true)
  | 1 => ("MoonlitFloor$SetupReader", "world", "LMoonlitFloor$World;", true)
  | 2 => ("MoonlitFloor$SetupReader", "bodies", "[I", true)
  | 3 => ("MoonlitFloor$SetupReader", "passesLeft", "[I", true)
  | 4 => ("MoonlitFloor$SetupReader", "nesting", "I", false)
  | 5 => ("MoonlitFloor$SetupReader", "simulated", "I", false)
  | 6 => ("MoonlitFloor$SetupReader", "expectsEntry", "Z", false)
  | 7 => ("MoonlitFloor$SetupReader", "sawEvent", "Z", false)
  | 8 => ("MoonlitFloor$SetupReader", "finished", "Z", false)
  | 9 => ("MoonlitFloor$SetupReader", "errorCode", "I", false)
  | _ => ("MoonlitFloor$SetupReader", "errorPosition", "I", false)
def tyX4 : Nat → FieldType := fun k => match k with
  | 0 => .object "MoonlitFloor$Tokens"
  | 1 => .object "MoonlitFloor$World"
  | 2 => .array .int
  | 3 => .array .int
  | 4 => .int
  | 5 => .int
  | 6 => .boolean
  | 7 => .boolean
  | 8 => .boolean
  | 9 => .int
  | _ => .int
abbrev wsX40 : List Cond := u_ws RX4 TX4 11
theorem nmX4 : ∀ a, a < 11 → ∀ b, b < 11 → a ≠ b → (TX4 a).2.1 ≠ (TX4 b).2.1 := by decide +kernel
theorem tyX4_ok : ∀ k, k < 11 → parseFieldDescriptor (TX4 k).2.2.1 = some (tyX4 k) := by decide +kernel
abbrev cX4_init : ByteArray := prog_6_method_1_code
def yX4_init : MethodName := ⟨RX4, "<init>", "(LMoonlitFloor$World;)V"⟩
abbrev cX4_read : ByteArray := prog_6_method_2_code
def yX4_read : MethodName := ⟨RX4, "read", "([II)Z"⟩
abbrev cX4_restart : ByteArray := prog_6_method_3_code
def yX4_restart : MethodName := ⟨RX4, "restart", "()V"⟩
abbrev cX4_fail : ByteArray := prog_6_method_4_code
def yX4_fail : MethodName := ⟨RX4, "fail", "(I)V"⟩
abbrev cX4_number : ByteArray := prog_6_method_5_code
def yX4_number : MethodName := ⟨RX4, "number", "(II)I"⟩
abbrev cX4_takeNumber : ByteArray := prog_6_method_6_code
def yX4_takeNumber : MethodName := ⟨RX4, "takeNumber", "(II)I"⟩
abbrev cX4_readFloor : ByteArray := prog_6_method_7_code
def yX4_readFloor : MethodName := ⟨RX4, "readFloor", "()V"⟩
abbrev cX4_readSeparator : ByteArray := prog_6_method_8_code
def yX4_readSeparator : MethodName := ⟨RX4, "readSeparator", "()V"⟩
abbrev cX4_closeBracket : ByteArray := prog_6_method_9_code
def yX4_closeBracket : MethodName := ⟨RX4, "closeBracket", "()V"⟩
abbrev cX4_finish : ByteArray := prog_6_method_10_code
def yX4_finish : MethodName := ⟨RX4, "finish", "()V"⟩
abbrev cX4_startsEvent : ByteArray := prog_6_method_11_code
def yX4_startsEvent : MethodName := ⟨RX4, "startsEvent", "()Z"⟩
abbrev cX4_readSetting : ByteArray := prog_6_method_12_code
def yX4_readSetting : MethodName := ⟨RX4, "readSetting", "()V"⟩
abbrev cX4_readWalker : ByteArray := prog_6_method_13_code
def yX4_readWalker : MethodName := ⟨RX4, "readWalker", "()V"⟩
abbrev cX4_readCat : ByteArray := prog_6_method_14_code
def yX4_readCat : MethodName := ⟨RX4, "readCat", "()V"⟩
abbrev cX4_moveOf : ByteArray := prog_6_method_15_code
def yX4_moveOf : MethodName := ⟨RX4, "moveOf", "(LMoonlitFloor$Sign;)I"⟩
abbrev cX4_readDraught : ByteArray := prog_6_method_16_code
def yX4_readDraught : MethodName := ⟨RX4, "readDraught", "()V"⟩
abbrev cX4_readCloud : ByteArray := prog_6_method_17_code
def yX4_readCloud : MethodName := ⟨RX4, "readCloud", "()V"⟩
abbrev cX4_readCurtains : ByteArray := prog_6_method_18_code
def yX4_readCurtains : MethodName := ⟨RX4, "readCurtains", "(I)V"⟩
abbrev cX4_readTiles : ByteArray := prog_6_method_19_code
def yX4_readTiles : MethodName := ⟨RX4, "readTiles", "(LMoonlitFloor$Sign;)V"⟩
abbrev cX4_readItem : ByteArray := prog_6_method_20_code
def yX4_readItem : MethodName := ⟨RX4, "readItem", "(LMoonlitFloor$Sign;)V"⟩
abbrev cX4_countWanted : ByteArray := prog_6_method_21_code
def yX4_countWanted : MethodName := ⟨RX4, "countWanted", "(LMoonlitFloor$Sign;III)I"⟩
abbrev cX4_isWanted : ByteArray := prog_6_method_22_code
def yX4_isWanted : MethodName := ⟨RX4, "isWanted", "(LMoonlitFloor$Sign;I)Z"⟩
abbrev cX4_handleLine : ByteArray := prog_6_method_23_code
def yX4_handleLine : MethodName := ⟨RX4, "handleLine", "(LMoonlitFloor$Sign;III)V"⟩
abbrev cX4_readEvent : ByteArray := prog_6_method_24_code
def yX4_readEvent : MethodName := ⟨RX4, "readEvent", "()I"⟩
abbrev cX4_startEvents : ByteArray := prog_6_method_25_code
def yX4_startEvents : MethodName := ⟨RX4, "startEvents", "()V"⟩
abbrev cX4_readSpill : ByteArray := prog_6_method_26_code
def yX4_readSpill : MethodName := ⟨RX4, "readSpill", "()V"⟩
abbrev cX4_readCarry : ByteArray := prog_6_method_27_code
def yX4_readCarry : MethodName := ⟨RX4, "readCarry", "()V"⟩
abbrev cX4_takeMinutes : ByteArray := prog_6_method_28_code
def yX4_takeMinutes : MethodName := ⟨RX4, "takeMinutes", "(I)I"⟩
abbrev cX4_readRepeat : ByteArray := prog_6_method_29_code
def yX4_readRepeat : MethodName := ⟨RX4, "readRepeat", "()V"⟩
def RX5 : String := "MoonlitFloor$Sign"
def TX5 : u_T := fun k => match k with
  | _ => ("", "", "", false)
def tyX5 : Nat → FieldType := fun k => match k with
  | _ => .int
abbrev wsX50 : List Cond := u_ws RX5 TX5 0
theorem nmX5 : ∀ a, a < 0 → ∀ b, b < 0 → a ≠ b → (TX5 a).2.1 ≠ (TX5 b).2.1 := by decide +kernel
theorem tyX5_ok : ∀ k, k < 0 → parseFieldDescriptor (TX5 k).2.2.1 = some (tyX5 k) := by decide +kernel
def RX6 : String := "MoonlitFloor$Tokens"
def TX6 : u_T := fun k => match k with
  | 0 => ("MoonlitFloor$Tokens", "signs", "[LMoonlitFloor$Sign;", true)
  | 1 => ("MoonlitFloor$Tokens", "starts", "[I", true)
  | 2 => ("MoonlitFloor$Tokens", "numbers", "[I", true)
  | 3 => ("MoonlitFloor$Tokens", "count", "I", false)
  | _ => ("MoonlitFloor$Tokens", "place", "I", false)
def tyX6 : Nat → FieldType := fun k => match k with
  | 0 => .array (.object "MoonlitFloor$Sign")
  | 1 => .array .int
  | 2 => .array .int
  | 3 => .int
  | _ => .int
abbrev wsX60 : List Cond := u_ws RX6 TX6 5
theorem nmX6 : ∀ a, a < 5 → ∀ b, b < 5 → a ≠ b → (TX6 a).2.1 ≠ (TX6 b).2.1 := by decide +kernel
theorem tyX6_ok : ∀ k, k < 5 → parseFieldDescriptor (TX6 k).2.2.1 = some (tyX6 k) := by decide +kernel
abbrev cX6_init : ByteArray := prog_8_method_1_code
def yX6_init : MethodName := ⟨RX6, "<init>", "()V"⟩
abbrev cX6_scan : ByteArray := prog_8_method_2_code
def yX6_scan : MethodName := ⟨RX6, "scan", "([II)V"⟩
abbrev cX6_tokenEnd : ByteArray := prog_8_method_3_code
def yX6_tokenEnd : MethodName := ⟨RX6, "tokenEnd", "([III)I"⟩
abbrev cX6_signOf : ByteArray := prog_8_method_4_code
def yX6_signOf : MethodName := ⟨RX6, "signOf", "([III)LMoonlitFloor$Sign;"⟩
abbrev cX6_spells : ByteArray := prog_8_method_5_code
def yX6_spells : MethodName := ⟨RX6, "spells", "(Ljava/lang/String;[II)Z"⟩
abbrev cX6_numberOf : ByteArray := prog_8_method_6_code
def yX6_numberOf : MethodName := ⟨RX6, "numberOf", "([III)I"⟩
abbrev cX6_isLetter : ByteArray := prog_8_method_7_code
def yX6_isLetter : MethodName := ⟨RX6, "isLetter", "(I)Z"⟩
abbrev cX6_isDigit : ByteArray := prog_8_method_8_code
def yX6_isDigit : MethodName := ⟨RX6, "isDigit", "(I)Z"⟩
abbrev cX6_add : ByteArray := prog_8_method_9_code
def yX6_add : MethodName := ⟨RX6, "add", "(LMoonlitFloor$Sign;II)V"⟩
abbrev cX6_sign : ByteArray := prog_8_method_10_code
def yX6_sign : MethodName := ⟨RX6, "sign", "()LMoonlitFloor$Sign;"⟩
abbrev cX6_start : ByteArray := prog_8_method_11_code
def yX6_start : MethodName := ⟨RX6, "start", "()I"⟩
abbrev cX6_number : ByteArray := prog_8_method_12_code
def yX6_number : MethodName := ⟨RX6, "number", "()I"⟩
abbrev cX6_mark : ByteArray := prog_8_method_13_code
def yX6_mark : MethodName := ⟨RX6, "mark", "()I"⟩
abbrev cX6_goBackTo : ByteArray := prog_8_method_14_code
def yX6_goBackTo : MethodName := ⟨RX6, "goBackTo", "(I)V"⟩
abbrev cX6_goOn : ByteArray := prog_8_method_15_code
def yX6_goOn : MethodName := ⟨RX6, "goOn", "()V"⟩
def RX7 : String := "MoonlitFloor$Walker"
def TX7 : u_T := fun k => match k with
  | 0 => ("MoonlitFloor$Walker", "tile", "I", false)
  | 1 => ("MoonlitFloor$Walker", "column", "I", false)
  | 2 => ("MoonlitFloor$Walker", "right", "Z", false)
  | 3 => ("MoonlitFloor$Walker", "rest", "I", false)
  | 4 => ("MoonlitFloor$Walker", "sincePause", "I", false)
  | 5 => ("MoonlitFloor$Walker", "steps", "I", false)
  | 6 => ("MoonlitFloor$Walker", "tonight", "I", false)
  | 7 => ("MoonlitFloor$Walker", "turns", "I", false)
  | _ => ("MoonlitFloor$Walker", "falls", "I", false)
def tyX7 : Nat → FieldType := fun k => match k with
  | 0 => .int
  | 1 => .int
  | 2 => .boolean
  | 3 => .int
  | 4 => .int
  | 5 => .int
  | 6 => .int
  | 7 => .int
  | _ => .int
abbrev wsX70 : List Cond := u_ws RX7 TX7 9
theorem nmX7 : ∀ a, a < 9 → ∀ b, b < 9 → a ≠ b → (TX7 a).2.1 ≠ (TX7 b).2.1 := by decide +kernel
theorem tyX7_ok : ∀ k, k < 9 → parseFieldDescriptor (TX7 k).2.2.1 = some (tyX7 k) := by decide +kernel
abbrev cX7_init : ByteArray := prog_9_method_1_code
def yX7_init : MethodName := ⟨RX7, "<init>", "()V"⟩
abbrev cX7_reset : ByteArray := prog_9_method_2_code
def yX7_reset : MethodName := ⟨RX7, "reset", "()V"⟩
abbrev cX7_copyFrom : ByteArray := prog_9_method_3_code
def yX7_copyFrom : MethodName := ⟨RX7, "copyFrom", "(LMoonlitFloor$Walker;)V"⟩
abbrev cX7_turnBack : ByteArray := prog_9_method_4_code
def yX7_turnBack : MethodName := ⟨RX7, "turnBack", "()V"⟩
abbrev cX7_countStep : ByteArray := prog_9_method_5_code
def yX7_countStep : MethodName := ⟨RX7, "countStep", "()V"⟩
abbrev cX7_pause : ByteArray := prog_9_method_6_code
def yX7_pause : MethodName := ⟨RX7, "pause", "()V"⟩
abbrev cX7_fall : ByteArray := prog_9_method_7_code
def yX7_fall : MethodName := ⟨RX7, "fall", "(I)V"⟩
def RX8 : String := "MoonlitFloor$World"
def TX8 : u_T := fun k => match k with
  | 0 => ("MoonlitFloor$World", "plan", "LMoonlitFloor$Plan;", true)
  | 1 => ("MoonlitFloor$World", "walker", "LMoonlitFloor$Walker;", true)
  | 2 => ("MoonlitFloor$World", "records", "LMoonlitFloor$Records;", true)
  | 3 => ("MoonlitFloor$World", "closed", "[I", true)
  | 4 => ("MoonlitFloor$World", "wear", "[I", true)
  | 5 => ("MoonlitFloor$World", "spills", "[I", true)
  | 6 => ("MoonlitFloor$World", "bowls", "[I", true)
  | 7 => ("MoonlitFloor$World", "rugs", "[I", true)
  | 8 => ("MoonlitFloor$World", "pace", "I", false)
  | 9 => ("MoonlitFloor$World", "night", "I", false)
  | 10 => ("MoonlitFloor$World", "minute", "I", false)
  | 11 => ("MoonlitFloor$World", "slides", "I", false)
  | 12 => ("MoonlitFloor$World", "catTile", "I", false)
  | _ => ("MoonlitFloor$World", "nextMove", "I", false)
def tyX8 : Nat → FieldType := fun k => match k with
  | 0 => .object "MoonlitFloor$Plan"
  | 1 => .object "MoonlitFloor$Walker"
  | 2 => .object "MoonlitFloor$Records"
  | 3 => .array .int
  | 4 => .array .int
  | 5 => .array .int
  | 6 => .array .int
  | 7 => .array .int
  | 8 => .int
  | 9 => .int
  | 10 => .int
  | 11 => .int
  | 12 => .int
  | _ => .int
abbrev wsX80 : List Cond := u_ws RX8 TX8 14
theorem nmX8 : ∀ a, a < 14 → ∀ b, b < 14 → a ≠ b → (TX8 a).2.1 ≠ (TX8 b).2.1 := by decide +kernel
theorem tyX8_ok : ∀ k, k < 14 → parseFieldDescriptor (TX8 k).2.2.1 = some (tyX8 k) := by decide +kernel
abbrev cX8_init : ByteArray := prog_10_method_1_code
def yX8_init : MethodName := ⟨RX8, "<init>", "()V"⟩
abbrev cX8_reset : ByteArray := prog_10_method_2_code
def yX8_reset : MethodName := ⟨RX8, "reset", "()V"⟩
abbrev cX8_copyFrom : ByteArray := prog_10_method_3_code
def yX8_copyFrom : MethodName := ⟨RX8, "copyFrom", "(LMoonlitFloor$World;)V"⟩
abbrev cX8_tileCount : ByteArray := prog_10_method_4_code
def yX8_tileCount : MethodName := ⟨RX8, "tileCount", "()I"⟩
abbrev cX8_nightLength : ByteArray := prog_10_method_5_code
def yX8_nightLength : MethodName := ⟨RX8, "nightLength", "()I"⟩
abbrev cX8_rowOf : ByteArray := prog_10_method_6_code
def yX8_rowOf : MethodName := ⟨RX8, "rowOf", "(I)I"⟩
abbrev cX8_columnOf : ByteArray := prog_10_method_7_code
def yX8_columnOf : MethodName := ⟨RX8, "columnOf", "(I)I"⟩
abbrev cX8_neighbor : ByteArray := prog_10_method_8_code
def yX8_neighbor : MethodName := ⟨RX8, "neighbor", "(II)I"⟩
abbrev cX8_moonlight : ByteArray := prog_10_method_9_code
def yX8_moonlight : MethodName := ⟨RX8, "moonlight", "()I"⟩
abbrev cX8_isMoonOut : ByteArray := prog_10_method_10_code
def yX8_isMoonOut : MethodName := ⟨RX8, "isMoonOut", "()Z"⟩
abbrev cX8_rowInMoonlight : ByteArray := prog_10_method_11_code
def yX8_rowInMoonlight : MethodName := ⟨RX8, "rowInMoonlight", "()I"⟩
abbrev cX8_isTileLit : ByteArray := prog_10_method_12_code
def yX8_isTileLit : MethodName := ⟨RX8, "isTileLit", "(I)Z"⟩
abbrev cX8_liesInMoonlight : ByteArray := prog_10_method_13_code
def yX8_liesInMoonlight : MethodName := ⟨RX8, "liesInMoonlight", "(I)Z"⟩
abbrev cX8_hasRoomForBowl : ByteArray := prog_10_method_14_code
def yX8_hasRoomForBowl : MethodName := ⟨RX8, "hasRoomForBowl", "(I)Z"⟩
abbrev cX8_triedSteps : ByteArray := prog_10_method_15_code
def yX8_triedSteps : MethodName := ⟨RX8, "triedSteps", "()I"⟩
abbrev cX8_passMinutes : ByteArray := prog_10_method_16_code
def yX8_passMinutes : MethodName := ⟨RX8, "passMinutes", "(I)V"⟩
abbrev cX8_passMinute : ByteArray := prog_10_method_17_code
def yX8_passMinute : MethodName := ⟨RX8, "passMinute", "()V"⟩
abbrev cX8_moveCat : ByteArray := prog_10_method_18_code
def yX8_moveCat : MethodName := ⟨RX8, "moveCat", "()Z"⟩
abbrev cX8_spillBowl : ByteArray := prog_10_method_19_code
def yX8_spillBowl : MethodName := ⟨RX8, "spillBowl", "()V"⟩
abbrev cX8_startle : ByteArray := prog_10_method_20_code
def yX8_startle : MethodName := ⟨RX8, "startle", "()V"⟩
abbrev cX8_distance : ByteArray := prog_10_method_21_code
def yX8_distance : MethodName := ⟨RX8, "distance", "(II)I"⟩
abbrev cX8_walk : ByteArray := prog_10_method_22_code
def yX8_walk : MethodName := ⟨RX8, "walk", "(I)V"⟩
abbrev cX8_canEnter : ByteArray := prog_10_method_23_code
def yX8_canEnter : MethodName := ⟨RX8, "canEnter", "(I)Z"⟩
abbrev cX8_slideRug : ByteArray := prog_10_method_24_code
def yX8_slideRug : MethodName := ⟨RX8, "slideRug", "(II)V"⟩
abbrev cX8_enter : ByteArray := prog_10_method_25_code
def yX8_enter : MethodName := ⟨RX8, "enter", "(I)V"⟩
abbrev cX8_drySpills : ByteArray := prog_10_method_26_code
def yX8_drySpills : MethodName := ⟨RX8, "drySpills", "()V"⟩
abbrev cX8_endNight : ByteArray := prog_10_method_27_code
def yX8_endNight : MethodName := ⟨RX8, "endNight", "()V"⟩
abbrev cX8_stirCurtains : ByteArray := prog_10_method_28_code
def yX8_stirCurtains : MethodName := ⟨RX8, "stirCurtains", "()V"⟩
abbrev cX8_relocate : ByteArray := prog_10_method_29_code
def yX8_relocate : MethodName := ⟨RX8, "relocate", "()V"⟩
abbrev cX8_settle : ByteArray := prog_10_method_30_code
def yX8_settle : MethodName := ⟨RX8, "settle", "(I)Z"⟩
def RX9 : String := "MoonlitFloor"
def TX9 : u_T := fun k => match k with
  | 0 => ("MoonlitFloor", "buffer", "[I", true)
  | 1 => ("MoonlitFloor", "output", "Ljava/lang/StringBuilder;", true)
  | 2 => ("MoonlitFloor", "world", "LMoonlitFloor$World;", true)
  | 3 => ("MoonlitFloor", "draft", "LMoonlitFloor$World;", true)
  | 4 => ("MoonlitFloor", "reader", "LMoonlitFloor$SetupReader;", true)
  | 5 => ("MoonlitFloor", "history", "LMoonlitFloor$History;", true)
  | 6 => ("MoonlitFloor", "filled", "I", false)
  | _ => ("MoonlitFloor", "loaded", "Z", false)
def tyX9 : Nat → FieldType := fun k => match k with
  | 0 => .array .int
  | 1 => .object "java/lang/StringBuilder"
  | 2 => .object "MoonlitFloor$World"
  | 3 => .object "MoonlitFloor$World"
  | 4 => .object "MoonlitFloor$SetupReader"
  | 5 => .object "MoonlitFloor$History"
  | 6 => .int
  | _ => .boolean
abbrev wsX90 : List Cond := u_ws RX9 TX9 8
theorem nmX9 : ∀ a, a < 8 → ∀ b, b < 8 → a ≠ b → (TX9 a).2.1 ≠ (TX9 b).2.1 := by decide +kernel
theorem tyX9_ok : ∀ k, k < 8 → parseFieldDescriptor (TX9 k).2.2.1 = some (tyX9 k) := by decide +kernel
abbrev cX9_init : ByteArray := prog_1_method_1_code
def yX9_init : MethodName := ⟨RX9, "<init>", "()V"⟩
abbrev cX9_append : ByteArray := prog_1_method_2_code
def yX9_append : MethodName := ⟨RX9, "append", "(IIIII)I"⟩
abbrev cX9_appendWord : ByteArray := prog_1_method_3_code
def yX9_appendWord : MethodName := ⟨RX9, "appendWord", "(I)V"⟩
abbrev cX9_parseSetup : ByteArray := prog_1_method_4_code
def yX9_parseSetup : MethodName := ⟨RX9, "parseSetup", "(I)I"⟩
abbrev cX9_night : ByteArray := prog_1_method_11_code
def yX9_night : MethodName := ⟨RX9, "night", "()I"⟩
abbrev cX9_minute : ByteArray := prog_1_method_12_code
def yX9_minute : MethodName := ⟨RX9, "minute", "()I"⟩
abbrev cX9_moonRow : ByteArray := prog_1_method_14_code
def yX9_moonRow : MethodName := ⟨RX9, "moonRow", "()I"⟩
abbrev cX9_moonShines : ByteArray := prog_1_method_15_code
def yX9_moonShines : MethodName := ⟨RX9, "moonShines", "()Z"⟩
abbrev cX9_isLit : ByteArray := prog_1_method_16_code
def yX9_isLit : MethodName := ⟨RX9, "isLit", "(I)Z"⟩
abbrev cX9_isCurtainClosed : ByteArray := prog_1_method_17_code
def yX9_isCurtainClosed : MethodName := ⟨RX9, "isCurtainClosed", "(I)Z"⟩
abbrev cX9_minutesUntilLit : ByteArray := prog_1_method_19_code
def yX9_minutesUntilLit : MethodName := ⟨RX9, "minutesUntilLit", "(I)I"⟩
abbrev cX9_pace : ByteArray := prog_1_method_21_code
def yX9_pace : MethodName := ⟨RX9, "pace", "()I"⟩
abbrev cX9_walkerTile : ByteArray := prog_1_method_23_code
def yX9_walkerTile : MethodName := ⟨RX9, "walkerTile", "()I"⟩
abbrev cX9_facesRight : ByteArray := prog_1_method_24_code
def yX9_facesRight : MethodName := ⟨RX9, "facesRight", "()Z"⟩
abbrev cX9_restRemaining : ByteArray := prog_1_method_25_code
def yX9_restRemaining : MethodName := ⟨RX9, "restRemaining", "()I"⟩
abbrev cX9_stepsSincePause : ByteArray := prog_1_method_26_code
def yX9_stepsSincePause : MethodName := ⟨RX9, "stepsSincePause", "()I"⟩
abbrev cX9_totalSteps : ByteArray := prog_1_method_27_code
def yX9_totalSteps : MethodName := ⟨RX9, "totalSteps", "()I"⟩
abbrev cX9_stepsTonight : ByteArray := prog_1_method_28_code
def yX9_stepsTonight : MethodName := ⟨RX9, "stepsTonight", "()I"⟩
abbrev cX9_turnCount : ByteArray := prog_1_method_29_code
def yX9_turnCount : MethodName := ⟨RX9, "turnCount", "()I"⟩
abbrev cX9_fallCount : ByteArray := prog_1_method_30_code
def yX9_fallCount : MethodName := ⟨RX9, "fallCount", "()I"⟩
abbrev cX9_wear : ByteArray := prog_1_method_32_code
def yX9_wear : MethodName := ⟨RX9, "wear", "(I)I"⟩
abbrev cX9_catTile : ByteArray := prog_1_method_33_code
def yX9_catTile : MethodName := ⟨RX9, "catTile", "()I"⟩
abbrev cX9_hasRug : ByteArray := prog_1_method_34_code
def yX9_hasRug : MethodName := ⟨RX9, "hasRug", "(I)Z"⟩
abbrev cX9_slideCount : ByteArray := prog_1_method_35_code
def yX9_slideCount : MethodName := ⟨RX9, "slideCount", "()I"⟩
abbrev cX9_hasBowl : ByteArray := prog_1_method_36_code
def yX9_hasBowl : MethodName := ⟨RX9, "hasBowl", "(I)Z"⟩
abbrev cX9_spillTime : ByteArray := prog_1_method_37_code
def yX9_spillTime : MethodName := ⟨RX9, "spillTime", "(I)I"⟩
abbrev cX9_recordCount : ByteArray := prog_1_method_39_code
def yX9_recordCount : MethodName := ⟨RX9, "recordCount", "()I"⟩
abbrev cX9_recordNight : ByteArray := prog_1_method_40_code
def yX9_recordNight : MethodName := ⟨RX9, "recordNight", "(I)I"⟩
abbrev cX9_recordSteps : ByteArray := prog_1_method_41_code
def yX9_recordSteps : MethodName := ⟨RX9, "recordSteps", "(I)I"⟩
abbrev cX9_imbalance : ByteArray := prog_1_method_43_code
def yX9_imbalance : MethodName := ⟨RX9, "imbalance", "()I"⟩
abbrev cX9_stepsAfter : ByteArray := prog_1_method_46_code
def yX9_stepsAfter : MethodName := ⟨RX9, "stepsAfter", "(I)I"⟩
abbrev cX9_walkerTileAfter : ByteArray := prog_1_method_47_code
def yX9_walkerTileAfter : MethodName := ⟨RX9, "walkerTileAfter", "(I)I"⟩
abbrev cX9_spillTimeAfter : ByteArray := prog_1_method_48_code
def yX9_spillTimeAfter : MethodName := ⟨RX9, "spillTimeAfter", "(II)I"⟩
abbrev cX9_minutesUntilFall : ByteArray := prog_1_method_50_code
def yX9_minutesUntilFall : MethodName := ⟨RX9, "minutesUntilFall", "()I"⟩
abbrev cX9_stepsAtPace : ByteArray := prog_1_method_51_code
def yX9_stepsAtPace : MethodName := ⟨RX9, "stepsAtPace", "(II)I"⟩
abbrev cX9_bestPace : ByteArray := prog_1_method_52_code
def yX9_bestPace : MethodName := ⟨RX9, "bestPace", "(I)I"⟩
abbrev cX9_bestCurtain : ByteArray := prog_1_method_53_code
def yX9_bestCurtain : MethodName := ⟨RX9, "bestCurtain", "(I)I"⟩
abbrev cX9_foretellSteps : ByteArray := prog_1_method_54_code
def yX9_foretellSteps : MethodName := ⟨RX9, "foretellSteps", "(II)I"⟩
abbrev cX9_advance : ByteArray := prog_1_method_58_code
def yX9_advance : MethodName := ⟨RX9, "advance", "(I)I"⟩
abbrev cX9_setPace : ByteArray := prog_1_method_59_code
def yX9_setPace : MethodName := ⟨RX9, "setPace", "(I)I"⟩
abbrev cX9_setCurtain : ByteArray := prog_1_method_60_code
def yX9_setCurtain : MethodName := ⟨RX9, "setCurtain", "(IZ)Z"⟩
abbrev cX9_placeBowl : ByteArray := prog_1_method_61_code
def yX9_placeBowl : MethodName := ⟨RX9, "placeBowl", "(I)I"⟩
abbrev cX9_mop : ByteArray := prog_1_method_62_code
def yX9_mop : MethodName := ⟨RX9, "mop", "(I)I"⟩
abbrev cX9_turnWalker : ByteArray := prog_1_method_63_code
def yX9_turnWalker : MethodName := ⟨RX9, "turnWalker", "()Z"⟩
abbrev cX9_undoCount : ByteArray := prog_1_method_65_code
def yX9_undoCount : MethodName := ⟨RX9, "undoCount", "()I"⟩
abbrev cX9_saveState : ByteArray := prog_1_method_66_code
def yX9_saveState : MethodName := ⟨RX9, "saveState", "(I)I"⟩
abbrev cX9_restoreState : ByteArray := prog_1_method_67_code
def yX9_restoreState : MethodName := ⟨RX9, "restoreState", "(I)I"⟩
abbrev cX9_requireSetup : ByteArray := prog_1_method_68_code
def yX9_requireSetup : MethodName := ⟨RX9, "requireSetup", "()V"⟩
abbrev cX9_requireTile : ByteArray := prog_1_method_69_code
def yX9_requireTile : MethodName := ⟨RX9, "requireTile", "(I)V"⟩
abbrev cX9_requireColumn : ByteArray := prog_1_method_70_code
def yX9_requireColumn : MethodName := ⟨RX9, "requireColumn", "(I)V"⟩
abbrev cX9_requireRecord : ByteArray := prog_1_method_71_code
def yX9_requireRecord : MethodName := ⟨RX9, "requireRecord", "(I)V"⟩
abbrev cX9_requireSlot : ByteArray := prog_1_method_72_code
def yX9_requireSlot : MethodName := ⟨RX9, "requireSlot", "(I)V"⟩
abbrev cX9_requireForetellable : ByteArray := prog_1_method_73_code
def yX9_requireForetellable : MethodName := ⟨RX9, "requireForetellable", "(I)V"⟩
abbrev cX9_requirePace : ByteArray := prog_1_method_74_code
def yX9_requirePace : MethodName := ⟨RX9, "requirePace", "(I)V"⟩
abbrev cX9_at : ByteArray := prog_1_method_75_code
def yX9_at : MethodName := ⟨RX9, "at", "([II)I"⟩
abbrev cX9_put : ByteArray := prog_1_method_76_code
def yX9_put : MethodName := ⟨RX9, "put", "([III)V"⟩
abbrev cX9_copy : ByteArray := prog_1_method_77_code
def yX9_copy : MethodName := ⟨RX9, "copy", "([I[I)V"⟩
abbrev cX9_sum : ByteArray := prog_1_method_78_code
def yX9_sum : MethodName := ⟨RX9, "sum", "([I)I"⟩
abbrev cX9_countMarked : ByteArray := prog_1_method_79_code
def yX9_countMarked : MethodName := ⟨RX9, "countMarked", "([I)I"⟩
def RX10 : String := "MoonlitFloorLaw$Floor"
def TX10 : u_T := fun k => match k with
  | 0 => ("MoonlitFloorLaw$Floor", "rows", "I", false)
  | 1 => ("MoonlitFloorLaw$Floor", "columns", "I", false)
  | 2 => ("MoonlitFloorLaw$Floor", "light", "I", false)
  | 3 => ("MoonlitFloorLaw$Floor", "pace", "I", false)
  | 4 => ("MoonlitFloorLaw$Floor", "drying", "I", false)
  | 5 => ("MoonlitFloorLaw$Floor", "rest", "I", false)
  | 6 => ("MoonlitFloorLaw$Floor", "stamina", "I", false)
  | 7 => ("MoonlitFloorLaw$Floor", "noise", "I", false)
  | 8 => ("MoonlitFloorLaw$Floor", "night", "I", false)
  | 9 => ("MoonlitFloorLaw$Floor", "minute", "I", false)
  | 10 => ("MoonlitFloorLaw$Floor", "walker", "I", false)
  | 11 => ("MoonlitFloorLaw$Floor", "column", "I", false)
  | 12 => ("MoonlitFloorLaw$Floor", "resting", "I", false)
  | 13 => ("MoonlitFloorLaw$Floor", "since", "I", false)
  | 14 => ("MoonlitFloorLaw$Floor", "total", "I", false)
  | 15 => ("MoonlitFloorLaw$Floor", "tonight", "I", false)
  | 16 => ("MoonlitFloorLaw$Floor", "turns", "I", false)
  | 17 => ("MoonlitFloorLaw$Floor", "falls", "I", false)
  | 18 => ("MoonlitFloorLaw$Floor", "slides", "I", false)
  | 19 => ("MoonlitFloorLaw$Floor", "cat", "I", false)
  | 20 => ("MoonlitFloorLaw$Floor", "next", "I", false)
  | 21 => ("MoonlitFloorLaw$Floor", "right", "Z", false)
  | 22 => ("MoonlitFloorLaw$Floor", "route", "[I", false)
  | 23 => ("MoonlitFloorLaw$Floor", "closed", "[Z", false)
  | 24 => ("MoonlitFloorLaw$Floor", "bowls", "[Z", false)
  | 25 => ("MoonlitFloorLaw$Floor", "rugs", "[Z", false)
  | 26 => ("MoonlitFloorLaw$Floor", "draughts", "[I", false)
  | 27 => ("MoonlitFloorLaw$Floor", "spills", "[I", false)
  | 28 => ("MoonlitFloorLaw$Floor", "wear", "[I", false)
  | 29 => ("MoonlitFloorLaw$Floor", "clouds", "Ljava/util/ArrayList;", true)
  | _ => ("MoonlitFloorLaw$Floor", "records", "Ljava/util/ArrayList;", true)
def tyX10 : Nat → FieldType := fun k => match k with
  | 0 => .int
  | 1 => .int
  | 2 => .int
  | 3 => .int
  | 4 => .int
  | 5 => .int
  | 6 => .int
  | 7 => .int
  | 8 => .int
  | 9 => .int
  | 10 => .int
  | 11 => .int
  | 12 => .int
  | 13 => .int
  | 14 => .int
  | 15 => .int
  | 16 => .int
  | 17 => .int
  | 18 => .int
  | 19 => .int
  | 20 => .int
  | 21 => .boolean
  | 22 => .array .int
  | 23 => .array .boolean
  | 24 => .array .boolean
  | 25 => .array .boolean
  | 26 => .array .int
  | 27 => .array .int
  | 28 => .array .int
  | 29 => .object "java/util/ArrayList"
  | _ => .object "java/util/ArrayList"
abbrev wsX100 : List Cond := u_ws RX10 TX10 31
theorem nmX10 : ∀ a, a < 31 → ∀ b, b < 31 → a ≠ b → (TX10 a).2.1 ≠ (TX10 b).2.1 := by decide +kernel
theorem tyX10_ok : ∀ k, k < 31 → parseFieldDescriptor (TX10 k).2.2.1 = some (tyX10 k) := by decide +kernel
abbrev cX10_init : ByteArray := prog_12_method_1_code
def yX10_init : MethodName := ⟨RX10, "<init>", "()V"⟩
abbrev cX10_tiles : ByteArray := prog_12_method_3_code
def yX10_tiles : MethodName := ⟨RX10, "tiles", "()I"⟩
abbrev cX10_bright : ByteArray := prog_12_method_4_code
def yX10_bright : MethodName := ⟨RX10, "bright", "()I"⟩
abbrev cX10_shines : ByteArray := prog_12_method_5_code
def yX10_shines : MethodName := ⟨RX10, "shines", "()Z"⟩
abbrev cX10_lit : ByteArray := prog_12_method_6_code
def yX10_lit : MethodName := ⟨RX10, "lit", "(I)Z"⟩
abbrev cX10_steps : ByteArray := prog_12_method_7_code
def yX10_steps : MethodName := ⟨RX10, "steps", "()I"⟩
abbrev cX10_beside : ByteArray := prog_12_method_8_code
def yX10_beside : MethodName := ⟨RX10, "beside", "(II)I"⟩
abbrev cX10_ahead : ByteArray := prog_12_method_9_code
def yX10_ahead : MethodName := ⟨RX10, "ahead", "()I"⟩
abbrev cX10_block : ByteArray := prog_12_method_10_code
def yX10_block : MethodName := ⟨RX10, "block", "()I"⟩
abbrev cX10_prowl : ByteArray := prog_12_method_11_code
def yX10_prowl : MethodName := ⟨RX10, "prowl", "()V"⟩
abbrev cX10_walk : ByteArray := prog_12_method_12_code
def yX10_walk : MethodName := ⟨RX10, "walk", "()V"⟩
abbrev cX10_rank : ByteArray := prog_12_method_13_code
def yX10_rank : MethodName := ⟨RX10, "rank", "(I)I"⟩
abbrev cX10_dawn : ByteArray := prog_12_method_14_code
def yX10_dawn : MethodName := ⟨RX10, "dawn", "()V"⟩
abbrev cX10_relocate : ByteArray := prog_12_method_15_code
def yX10_relocate : MethodName := ⟨RX10, "relocate", "()V"⟩
abbrev cX10_advance : ByteArray := prog_12_method_16_code
def yX10_advance : MethodName := ⟨RX10, "advance", "(I)I"⟩
def RX11 : String := "MoonlitFloorModel"
def TX11 : u_T := fun k => match k with
  | _ => ("", "", "", false)
def tyX11 : Nat → FieldType := fun k => match k with
  | _ => .int
abbrev wsX110 : List Cond := u_ws RX11 TX11 0
theorem nmX11 : ∀ a, a < 0 → ∀ b, b < 0 → a ≠ b → (TX11 a).2.1 ≠ (TX11 b).2.1 := by decide +kernel
theorem tyX11_ok : ∀ k, k < 0 → parseFieldDescriptor (TX11 k).2.2.1 = some (tyX11 k) := by decide +kernel
def RJx145de : String := "java/io/Serializable"
def TJx145de : u_T := fun k => match k with
  | _ => ("", "", "", false)
def tyJx145de : Nat → FieldType := fun k => match k with
  | _ => .int
abbrev wsJx145de0 : List Cond := u_ws RJx145de TJx145de 0
theorem nmJx145de : ∀ a, a < 0 → ∀ b, b < 0 → a ≠ b → (TJx145de a).2.1 ≠ (TJx145de b).2.1 := by decide +kernel
theorem tyJx145de_ok : ∀ k, k < 0 → parseFieldDescriptor (TJx145de k).2.2.1 = some (tyJx145de k) := by decide +kernel
def RJ5 : String := "java/lang/AbstractStringBuilder"
def TJ5 : u_T := fun k => match k with
  | _ => ("", "", "", false)
def tyJ5 : Nat → FieldType := fun k => match k with
  | _ => .int
abbrev wsJ50 : List Cond := u_ws RJ5 TJ5 0
theorem nmJ5 : ∀ a, a < 0 → ∀ b, b < 0 → a ≠ b → (TJ5 a).2.1 ≠ (TJ5 b).2.1 := by decide +kernel
theorem tyJ5_ok : ∀ k, k < 0 → parseFieldDescriptor (TJ5 k).2.2.1 = some (tyJ5 k) := by decide +kernel
abbrev cJ5_init_d00df : ByteArray := prog_15_method_2_code
def yJ5_init_d00df : MethodName := ⟨RJ5, "<init>", "(I)V"⟩
abbrev cJ5_init_a7421 : ByteArray := prog_15_method_3_code
def yJ5_init_a7421 : MethodName := ⟨RJ5, "<init>", "(Ljava/lang/String;)V"⟩
abbrev cJ5_length_8abf5 : ByteArray := prog_15_method_6_code
def yJ5_length_8abf5 : MethodName := ⟨RJ5, "length", "()I"⟩
abbrev cJ5_ensureCapacityInternal_d00df : ByteArray := prog_15_method_9_code
def yJ5_ensureCapacityInternal_d00df : MethodName := ⟨RJ5, "ensureCapacityInternal", "(I)V"⟩
abbrev cJ5_newCapacity_0f7a4 : ByteArray := prog_15_method_10_code
def yJ5_newCapacity_0f7a4 : MethodName := ⟨RJ5, "newCapacity", "(I)I"⟩
abbrev cJ5_inflate_da8c8 : ByteArray := prog_15_method_11_code
def yJ5_inflate_da8c8 : MethodName := ⟨RJ5, "inflate", "()V"⟩
abbrev cJ5_charAt_5068e : ByteArray := prog_15_method_14_code
def yJ5_charAt_5068e : MethodName := ⟨RJ5, "charAt", "(I)C"⟩
abbrev cJ5_append_cf1ce : ByteArray := prog_15_method_22_code
def yJ5_append_cf1ce : MethodName := ⟨RJ5, "append", "(Ljava/lang/String;)Ljava/lang/AbstractStringBuilder;"⟩
abbrev cJ5_appendNull_278bc : ByteArray := prog_15_method_26_code
def yJ5_appendNull_278bc : MethodName := ⟨RJ5, "appendNull", "()Ljava/lang/AbstractStringBuilder;"⟩
abbrev cJ5_append_3fe6f : ByteArray := prog_15_method_31_code
def yJ5_append_3fe6f : MethodName := ⟨RJ5, "append", "(C)Ljava/lang/AbstractStringBuilder;"⟩
abbrev cJ5_append_c97b9 : ByteArray := prog_15_method_32_code
def yJ5_append_c97b9 : MethodName := ⟨RJ5, "append", "(I)Ljava/lang/AbstractStringBuilder;"⟩
abbrev cJ5_getValue_6d5f1 : ByteArray := prog_15_method_64_code
def yJ5_getValue_6d5f1 : MethodName := ⟨RJ5, "getValue", "()[B"⟩
abbrev cJ5_isLatin1_aae02 : ByteArray := prog_15_method_68_code
def yJ5_isLatin1_aae02 : MethodName := ⟨RJ5, "isLatin1", "()Z"⟩
abbrev cJ5_inflateIfNeededFor_a7421 : ByteArray := prog_15_method_71_code
def yJ5_inflateIfNeededFor_a7421 : MethodName := ⟨RJ5, "inflateIfNeededFor", "(Ljava/lang/String;)V"⟩
abbrev cJ5_putStringAt_47b60 : ByteArray := prog_15_method_73_code
def yJ5_putStringAt_47b60 : MethodName := ⟨RJ5, "putStringAt", "(ILjava/lang/String;)V"⟩
def RJx2cfe8 : String := "java/lang/Appendable"
def TJx2cfe8 : u_T := fun k => match k with
  | _ => ("", "", "", false)
def tyJx2cfe8 : Nat → FieldType := fun k => match k with
  | _ => .int
abbrev wsJx2cfe80 : List Cond := u_ws RJx2cfe8 TJx2cfe8 0
theorem nmJx2cfe8 : ∀ a, a < 0 → ∀ b, b < 0 → a ≠ b → (TJx2cfe8 a).2.1 ≠ (TJx2cfe8 b).2.1 := by decide +kernel
theorem tyJx2cfe8_ok : ∀ k, k < 0 → parseFieldDescriptor (TJx2cfe8 k).2.2.1 = some (tyJx2cfe8 k) := by decide +kernel
def RJx9f9b0 : String := "java/lang/CharSequence"
def TJx9f9b0 : u_T := fun k => match k with
  | _ => ("", "", "", false)
def tyJx9f9b0 : Nat → FieldType := fun k => match k with
  | _ => .int
abbrev wsJx9f9b00 : List Cond := u_ws RJx9f9b0 TJx9f9b0 0
theorem nmJx9f9b0 : ∀ a, a < 0 → ∀ b, b < 0 → a ≠ b → (TJx9f9b0 a).2.1 ≠ (TJx9f9b0 b).2.1 := by decide +kernel
theorem tyJx9f9b0_ok : ∀ k, k < 0 → parseFieldDescriptor (TJx9f9b0 k).2.2.1 = some (tyJx9f9b0 k) := by decide +kernel
def RJx8e188 : String := "java/lang/Cloneable"
def TJx8e188 : u_T := fun k => match k with
  | _ => ("", "", "", false)
def tyJx8e188 : Nat → FieldType := fun k => match k with
  | _ => .int
abbrev wsJx8e1880 : List Cond := u_ws RJx8e188 TJx8e188 0
theorem nmJx8e188 : ∀ a, a < 0 → ∀ b, b < 0 → a ≠ b → (TJx8e188 a).2.1 ≠ (TJx8e188 b).2.1 := by decide +kernel
theorem tyJx8e188_ok : ∀ k, k < 0 → parseFieldDescriptor (TJx8e188 k).2.2.1 = some (tyJx8e188 k) := by decide +kernel
def RJxb160c : String := "java/lang/Comparable"
def TJxb160c : u_T := fun k => match k with
  | _ => ("", "", "", false)
def tyJxb160c : Nat → FieldType := fun k => match k with
  | _ => .int
abbrev wsJxb160c0 : List Cond := u_ws RJxb160c TJxb160c 0
theorem nmJxb160c : ∀ a, a < 0 → ∀ b, b < 0 → a ≠ b → (TJxb160c a).2.1 ≠ (TJxb160c b).2.1 := by decide +kernel
theorem tyJxb160c_ok : ∀ k, k < 0 → parseFieldDescriptor (TJxb160c k).2.2.1 = some (tyJxb160c k) := by decide +kernel
def RJx29ce0 : String := "java/lang/Enum"
def TJx29ce0 : u_T := fun k => match k with
  | _ => ("", "", "", false)
def tyJx29ce0 : Nat → FieldType := fun k => match k with
  | _ => .int
abbrev wsJx29ce00 : List Cond := u_ws RJx29ce0 TJx29ce0 0
theorem nmJx29ce0 : ∀ a, a < 0 → ∀ b, b < 0 → a ≠ b → (TJx29ce0 a).2.1 ≠ (TJx29ce0 b).2.1 := by decide +kernel
theorem tyJx29ce0_ok : ∀ k, k < 0 → parseFieldDescriptor (TJx29ce0 k).2.2.1 = some (tyJx29ce0 k) := by decide +kernel
abbrev cJx29ce0_ordinal_8abf5 : ByteArray := prog_20_method_2_code
def yJx29ce0_ordinal_8abf5 : MethodName := ⟨RJx29ce0, "ordinal", "()I"⟩
def RJ6 : String := "java/lang/Integer"
def TJ6 : u_T := fun k => match k with
  | _ => ("", "", "", false)
def tyJ6 : Nat → FieldType := fun k => match k with
  | _ => .int
abbrev wsJ60 : List Cond := u_ws RJ6 TJ6 0
theorem nmJ6 : ∀ a, a < 0 → ∀ b, b < 0 → a ≠ b → (TJ6 a).2.1 ≠ (TJ6 b).2.1 := by decide +kernel
theorem tyJ6_ok : ∀ k, k < 0 → parseFieldDescriptor (TJ6 k).2.2.1 = some (tyJ6 k) := by decide +kernel
abbrev cJ6_getChars_ba4f3 : ByteArray := prog_25_method_12_code
def yJ6_getChars_ba4f3 : MethodName := ⟨RJ6, "getChars", "(II[B)I"⟩
abbrev cJ6_stringSize_0f7a4 : ByteArray := prog_25_method_13_code
def yJ6_stringSize_0f7a4 : MethodName := ⟨RJ6, "stringSize", "(I)I"⟩
abbrev cJ6_numberOfLeadingZeros_0f7a4 : ByteArray := prog_25_method_47_code
def yJ6_numberOfLeadingZeros_0f7a4 : MethodName := ⟨RJ6, "numberOfLeadingZeros", "(I)I"⟩
abbrev cJ6_numberOfTrailingZeros_0f7a4 : ByteArray := prog_25_method_48_code
def yJ6_numberOfTrailingZeros_0f7a4 : MethodName := ⟨RJ6, "numberOfTrailingZeros", "(I)I"⟩
def RJxab1ab : String := "java/lang/Iterable"
def TJxab1ab : u_T := fun k => match k with
  | _ => ("", "", "", false)
def tyJxab1ab : Nat → FieldType := fun k => match k with
  | _ => .int
abbrev wsJxab1ab0 : List Cond := u_ws RJxab1ab TJxab1ab 0
theorem nmJxab1ab : ∀ a, a < 0 → ∀ b, b < 0 → a ≠ b → (TJxab1ab a).2.1 ≠ (TJxab1ab b).2.1 := by decide +kernel
theorem tyJxab1ab_ok : ∀ k, k < 0 → parseFieldDescriptor (TJxab1ab k).2.2.1 = some (tyJxab1ab k) := by decide +kernel
def RJ13 : String := "java/lang/Long"
def TJ13 : u_T := fun k => match k with
  | _ => ("", "", "", false)
def tyJ13 : Nat → FieldType := fun k => match k with
  | _ => .int
abbrev wsJ130 : List Cond := u_ws RJ13 TJ13 0
theorem nmJ13 : ∀ a, a < 0 → ∀ b, b < 0 → a ≠ b → (TJ13 a).2.1 ≠ (TJ13 b).2.1 := by decide +kernel
theorem tyJ13_ok : ∀ k, k < 0 → parseFieldDescriptor (TJ13 k).2.2.1 = some (tyJ13 k) := by decide +kernel
abbrev cJ13_numberOfLeadingZeros_95d88 : ByteArray := prog_27_method_48_code
def yJ13_numberOfLeadingZeros_95d88 : MethodName := ⟨RJ13, "numberOfLeadingZeros", "(J)I"⟩
abbrev cJ13_numberOfTrailingZeros_95d88 : ByteArray := prog_27_method_49_code
def yJ13_numberOfTrailingZeros_95d88 : MethodName := ⟨RJ13, "numberOfTrailingZeros", "(J)I"⟩
def RJ9 : String := "java/lang/Math"
def TJ9 : u_T := fun k => match k with
  | _ => ("", "", "", false)
def tyJ9 : Nat → FieldType := fun k => match k with
  | _ => .int
abbrev wsJ90 : List Cond := u_ws RJ9 TJ9 0
theorem nmJ9 : ∀ a, a < 0 → ∀ b, b < 0 → a ≠ b → (TJ9 a).2.1 ≠ (TJ9 b).2.1 := by decide +kernel
theorem tyJ9_ok : ∀ k, k < 0 → parseFieldDescriptor (TJ9 k).2.2.1 = some (tyJ9 k) := by decide +kernel
abbrev cJ9_abs_0f7a4 : ByteArray := prog_28_method_59_code
def yJ9_abs_0f7a4 : MethodName := ⟨RJ9, "abs", "(I)I"⟩
abbrev cJ9_max_7cf53 : ByteArray := prog_28_method_65_code
def yJ9_max_7cf53 : MethodName := ⟨RJ9, "max", "(II)I"⟩
abbrev cJ9_min_7cf53 : ByteArray := prog_28_method_69_code
def yJ9_min_7cf53 : MethodName := ⟨RJ9, "min", "(II)I"⟩
def RJxd2413 : String := "java/lang/Number"
def TJxd2413 : u_T := fun k => match k with
  | _ => ("", "", "", false)
def tyJxd2413 : Nat → FieldType := fun k => match k with
  | _ => .int
abbrev wsJxd24130 : List Cond := u_ws RJxd2413 TJxd2413 0
theorem nmJxd2413 : ∀ a, a < 0 → ∀ b, b < 0 → a ≠ b → (TJxd2413 a).2.1 ≠ (TJxd2413 b).2.1 := by decide +kernel
theorem tyJxd2413_ok : ∀ k, k < 0 → parseFieldDescriptor (TJxd2413 k).2.2.1 = some (tyJxd2413 k) := by decide +kernel
def RJ0 : String := "java/lang/String"
def TJ0 : u_T := fun k => match k with
  | 0 => ("java/lang/String", "value", "[B", true)
  | 1 => ("java/lang/String", "coder", "B", true)
  | 2 => ("java/lang/String", "hash", "I", false)
  | _ => ("java/lang/String", "hashIsZero", "Z", false)
def tyJ0 : Nat → FieldType := fun k => match k with
  | 0 => .array .byte
  | 1 => .byte
  | 2 => .int
  | _ => .boolean
abbrev wsJ00 : List Cond := u_ws RJ0 TJ0 4
theorem nmJ0 : ∀ a, a < 4 → ∀ b, b < 4 → a ≠ b → (TJ0 a).2.1 ≠ (TJ0 b).2.1 := by decide +kernel
theorem tyJ0_ok : ∀ k, k < 4 → parseFieldDescriptor (TJ0 k).2.2.1 = some (tyJ0 k) := by decide +kernel
abbrev cJ0_init_81219 : ByteArray := prog_31_method_53_code
def yJ0_init_81219 : MethodName := ⟨RJ0, "<init>", "(Ljava/lang/StringBuilder;)V"⟩
abbrev cJ0_length_8abf5 : ByteArray := prog_31_method_54_code
def yJ0_length_8abf5 : MethodName := ⟨RJ0, "length", "()I"⟩
abbrev cJ0_charAt_5068e : ByteArray := prog_31_method_56_code
def yJ0_charAt_5068e : MethodName := ⟨RJ0, "charAt", "(I)C"⟩
abbrev cJ0_getBytes_840e7 : ByteArray := prog_31_method_147_code
def yJ0_getBytes_840e7 : MethodName := ⟨RJ0, "getBytes", "([BIB)V"⟩
abbrev cJ0_init_db425 : ByteArray := prog_31_method_150_code
def yJ0_init_db425 : MethodName := ⟨RJ0, "<init>", "(Ljava/lang/AbstractStringBuilder;Ljava/lang/Void;)V"⟩
abbrev cJ0_coder_7d493 : ByteArray := prog_31_method_152_code
def yJ0_coder_7d493 : MethodName := ⟨RJ0, "coder", "()B"⟩
abbrev cJ0_isLatin1_aae02 : ByteArray := prog_31_method_154_code
def yJ0_isLatin1_aae02 : MethodName := ⟨RJ0, "isLatin1", "()Z"⟩
abbrev cJ0_checkIndex_df160 : ByteArray := prog_31_method_155_code
def yJ0_checkIndex_df160 : MethodName := ⟨RJ0, "checkIndex", "(II)V"⟩
abbrev cJ0_checkBoundsOffCount_cabcc : ByteArray := prog_31_method_157_code
def yJ0_checkBoundsOffCount_cabcc : MethodName := ⟨RJ0, "checkBoundsOffCount", "(III)I"⟩
abbrev cJ0_checkBoundsBeginEnd_23922 : ByteArray := prog_31_method_158_code
def yJ0_checkBoundsBeginEnd_23922 : MethodName := ⟨RJ0, "checkBoundsBeginEnd", "(III)V"⟩
def RJ4 : String := "java/lang/StringBuilder"
def TJ4 : u_T := fun k => match k with
  | 0 => ("java/lang/AbstractStringBuilder", "value", "[B", false)
  | 1 => ("java/lang/AbstractStringBuilder", "coder", "B", false)
  | 2 => ("java/lang/AbstractStringBuilder", "maybeLatin1", "Z", false)
  | _ => ("java/lang/AbstractStringBuilder", "count", "I", false)
def tyJ4 : Nat → FieldType := fun k => match k with
  | 0 => .array .byte
  | 1 => .byte
  | 2 => .boolean
  | _ => .int
abbrev wsJ40 : List Cond := u_ws RJ4 TJ4 4
theorem nmJ4 : ∀ a, a < 4 → ∀ b, b < 4 → a ≠ b → (TJ4 a).2.1 ≠ (TJ4 b).2.1 := by decide +kernel
theorem tyJ4_ok : ∀ k, k < 4 → parseFieldDescriptor (TJ4 k).2.2.1 = some (tyJ4 k) := by decide +kernel
abbrev cJ4_init_da8c8 : ByteArray := prog_32_method_1_code
def yJ4_init_da8c8 : MethodName := ⟨RJ4, "<init>", "()V"⟩
abbrev cJ4_init_a7421 : ByteArray := prog_32_method_3_code
def yJ4_init_a7421 : MethodName := ⟨RJ4, "<init>", "(Ljava/lang/String;)V"⟩
abbrev cJ4_append_15ec4 : ByteArray := prog_32_method_7_code
def yJ4_append_15ec4 : MethodName := ⟨RJ4, "append", "(Ljava/lang/String;)Ljava/lang/StringBuilder;"⟩
abbrev cJ4_append_cf468 : ByteArray := prog_32_method_14_code
def yJ4_append_cf468 : MethodName := ⟨RJ4, "append", "(C)Ljava/lang/StringBuilder;"⟩
abbrev cJ4_append_bf812 : ByteArray := prog_32_method_15_code
def yJ4_append_bf812 : MethodName := ⟨RJ4, "append", "(I)Ljava/lang/StringBuilder;"⟩
abbrev cJ4_toString_0e30d : ByteArray := prog_32_method_42_code
def yJ4_toString_0e30d : MethodName := ⟨RJ4, "toString", "()Ljava/lang/String;"⟩
abbrev cJ4_append_cf1ce : ByteArray := prog_32_method_80_code
def yJ4_append_cf1ce : MethodName := ⟨RJ4, "append", "(Ljava/lang/String;)Ljava/lang/AbstractStringBuilder;"⟩
abbrev cJ4_charAt_5068e : ByteArray := prog_32_method_88_code
def yJ4_charAt_5068e : MethodName := ⟨RJ4, "charAt", "(I)C"⟩
abbrev cJ4_length_8abf5 : ByteArray := prog_32_method_93_code
def yJ4_length_8abf5 : MethodName := ⟨RJ4, "length", "()I"⟩
def RJ1 : String := "java/lang/StringLatin1"
def TJ1 : u_T := fun k => match k with
  | _ => ("", "", "", false)
def tyJ1 : Nat → FieldType := fun k => match k with
  | _ => .int
abbrev wsJ10 : List Cond := u_ws RJ1 TJ1 0
theorem nmJ1 : ∀ a, a < 0 → ∀ b, b < 0 → a ≠ b → (TJ1 a).2.1 ≠ (TJ1 b).2.1 := by decide +kernel
theorem tyJ1_ok : ∀ k, k < 0 → parseFieldDescriptor (TJ1 k).2.2.1 = some (tyJ1 k) := by decide +kernel
abbrev cJ1_charAt_3b067 : ByteArray := prog_33_method_2_code
def yJ1_charAt_3b067 : MethodName := ⟨RJ1, "charAt", "([BI)C"⟩
abbrev cJ1_canEncode_fc78d : ByteArray := prog_33_method_3_code
def yJ1_canEncode_fc78d : MethodName := ⟨RJ1, "canEncode", "(C)Z"⟩
abbrev cJ1_inflate_0e8fd : ByteArray := prog_33_method_50_code
def yJ1_inflate_0e8fd : MethodName := ⟨RJ1, "inflate", "([BI[BII)V"⟩
def RJ2 : String := "java/lang/StringUTF16"
def TJ2 : u_T := fun k => match k with
  | _ => ("", "", "", false)
def tyJ2 : Nat → FieldType := fun k => match k with
  | _ => .int
abbrev wsJ20 : List Cond := u_ws RJ2 TJ2 0
theorem nmJ2 : ∀ a, a < 0 → ∀ b, b < 0 → a ≠ b → (TJ2 a).2.1 ≠ (TJ2 b).2.1 := by decide +kernel
theorem tyJ2_ok : ∀ k, k < 0 → parseFieldDescriptor (TJ2 k).2.2.1 = some (tyJ2 k) := by decide +kernel
abbrev cJ2_newBytesFor_77867 : ByteArray := prog_34_method_2_code
def yJ2_newBytesFor_77867 : MethodName := ⟨RJ2, "newBytesFor", "(I)[B"⟩
abbrev cJ2_newBytesLength_0f7a4 : ByteArray := prog_34_method_3_code
def yJ2_newBytesLength_0f7a4 : MethodName := ⟨RJ2, "newBytesLength", "(I)I"⟩
abbrev cJ2_putChar_b72d1 : ByteArray := prog_34_method_4_code
def yJ2_putChar_b72d1 : MethodName := ⟨RJ2, "putChar", "([BII)V"⟩
abbrev cJ2_getChar_3b067 : ByteArray := prog_34_method_5_code
def yJ2_getChar_3b067 : MethodName := ⟨RJ2, "getChar", "([BI)C"⟩
abbrev cJ2_length_9d52b : ByteArray := prog_34_method_6_code
def yJ2_length_9d52b : MethodName := ⟨RJ2, "length", "([B)I"⟩
abbrev cJ2_coderFromArrayLen_85cad : ByteArray := prog_34_method_15_code
def yJ2_coderFromArrayLen_85cad : MethodName := ⟨RJ2, "coderFromArrayLen", "([BI)B"⟩
abbrev cJ2_compress_39247 : ByteArray := prog_34_method_17_code
def yJ2_compress_39247 : MethodName := ⟨RJ2, "compress", "([BII)[B"⟩
abbrev cJ2_compress_5af95 : ByteArray := prog_34_method_22_code
def yJ2_compress_5af95 : MethodName := ⟨RJ2, "compress", "([BI[BII)I"⟩
abbrev cJ2_putCharSB_b72d1 : ByteArray := prog_34_method_71_code
def yJ2_putCharSB_b72d1 : MethodName := ⟨RJ2, "putCharSB", "([BII)V"⟩
abbrev cJ2_getChars_46870 : ByteArray := prog_34_method_77_code
def yJ2_getChars_46870 : MethodName := ⟨RJ2, "getChars", "(III[B)I"⟩
abbrev cJ2_putCharsAt_cd4e5 : ByteArray := prog_34_method_81_code
def yJ2_putCharsAt_cd4e5 : MethodName := ⟨RJ2, "putCharsAt", "([BICCCC)I"⟩
abbrev cJ2_charAt_3b067 : ByteArray := prog_34_method_83_code
def yJ2_charAt_3b067 : MethodName := ⟨RJ2, "charAt", "([BI)C"⟩
abbrev cJ2_inflate_0e8fd : ByteArray := prog_34_method_86_code
def yJ2_inflate_0e8fd : MethodName := ⟨RJ2, "inflate", "([BI[BII)V"⟩
abbrev cJ2_getChars_ba4f3 : ByteArray := prog_34_method_89_code
def yJ2_getChars_ba4f3 : MethodName := ⟨RJ2, "getChars", "(II[B)I"⟩
abbrev cJ2_checkIndex_2214a : ByteArray := prog_34_method_91_code
def yJ2_checkIndex_2214a : MethodName := ⟨RJ2, "checkIndex", "(I[B)V"⟩
abbrev cJ2_checkBoundsBeginEnd_d044e : ByteArray := prog_34_method_93_code
def yJ2_checkBoundsBeginEnd_d044e : MethodName := ⟨RJ2, "checkBoundsBeginEnd", "(II[B)V"⟩
abbrev cJ2_checkBoundsOffCount_d044e : ByteArray := prog_34_method_94_code
def yJ2_checkBoundsOffCount_d044e : MethodName := ⟨RJ2, "checkBoundsOffCount", "(II[B)V"⟩
def RJ10 : String := "java/lang/System"
def TJ10 : u_T := fun k => match k with
  | _ => ("", "", "", false)
def tyJ10 : Nat → FieldType := fun k => match k with
  | _ => .int
abbrev wsJ100 : List Cond := u_ws RJ10 TJ10 0
theorem nmJ10 : ∀ a, a < 0 → ∀ b, b < 0 → a ≠ b → (TJ10 a).2.1 ≠ (TJ10 b).2.1 := by decide +kernel
theorem tyJ10_ok : ∀ k, k < 0 → parseFieldDescriptor (TJ10 k).2.2.1 = some (tyJ10 k) := by decide +kernel
def RJxfd54e : String := "java/lang/constant/Constable"
def TJxfd54e : u_T := fun k => match k with
  | _ => ("", "", "", false)
def tyJxfd54e : Nat → FieldType := fun k => match k with
  | _ => .int
abbrev wsJxfd54e0 : List Cond := u_ws RJxfd54e TJxfd54e 0
theorem nmJxfd54e : ∀ a, a < 0 → ∀ b, b < 0 → a ≠ b → (TJxfd54e a).2.1 ≠ (TJxfd54e b).2.1 := by decide +kernel
theorem tyJxfd54e_ok : ∀ k, k < 0 → parseFieldDescriptor (TJxfd54e k).2.2.1 = some (tyJxfd54e k) := by decide +kernel
def RJx3cf43 : String := "java/lang/constant/ConstantDesc"
def TJx3cf43 : u_T := fun k => match k with
  | _ => ("", "", "", false)
def tyJx3cf43 : Nat → FieldType := fun k => match k with
  | _ => .int
abbrev wsJx3cf430 : List Cond := u_ws RJx3cf43 TJx3cf43 0
theorem nmJx3cf43 : ∀ a, a < 0 → ∀ b, b < 0 → a ≠ b → (TJx3cf43 a).2.1 ≠ (TJx3cf43 b).2.1 := by decide +kernel
theorem tyJx3cf43_ok : ∀ k, k < 0 → parseFieldDescriptor (TJx3cf43 k).2.2.1 = some (tyJx3cf43 k) := by decide +kernel
def RJxa1e45 : String := "java/util/AbstractCollection"
def TJxa1e45 : u_T := fun k => match k with
  | _ => ("", "", "", false)
def tyJxa1e45 : Nat → FieldType := fun k => match k with
  | _ => .int
abbrev wsJxa1e450 : List Cond := u_ws RJxa1e45 TJxa1e45 0
theorem nmJxa1e45 : ∀ a, a < 0 → ∀ b, b < 0 → a ≠ b → (TJxa1e45 a).2.1 ≠ (TJxa1e45 b).2.1 := by decide +kernel
theorem tyJxa1e45_ok : ∀ k, k < 0 → parseFieldDescriptor (TJxa1e45 k).2.2.1 = some (tyJxa1e45 k) := by decide +kernel
abbrev cJxa1e45_init_da8c8 : ByteArray := prog_39_method_1_code
def yJxa1e45_init_da8c8 : MethodName := ⟨RJxa1e45, "<init>", "()V"⟩
def RJxc12de : String := "java/util/AbstractList"
def TJxc12de : u_T := fun k => match k with
  | _ => ("", "", "", false)
def tyJxc12de : Nat → FieldType := fun k => match k with
  | _ => .int
abbrev wsJxc12de0 : List Cond := u_ws RJxc12de TJxc12de 0
theorem nmJxc12de : ∀ a, a < 0 → ∀ b, b < 0 → a ≠ b → (TJxc12de a).2.1 ≠ (TJxc12de b).2.1 := by decide +kernel
theorem tyJxc12de_ok : ∀ k, k < 0 → parseFieldDescriptor (TJxc12de k).2.2.1 = some (tyJxc12de k) := by decide +kernel
abbrev cJxc12de_init_da8c8 : ByteArray := prog_40_method_1_code
def yJxc12de_init_da8c8 : MethodName := ⟨RJxc12de, "<init>", "()V"⟩
def RJx4a65c : String := "java/util/ArrayList"
def TJx4a65c : u_T := fun k => match k with
  | 0 => ("java/util/AbstractList", "modCount", "I", false)
  | 1 => ("java/util/ArrayList", "elementData", "[Ljava/lang/Object;", false)
  | _ => ("java/util/ArrayList", "size", "I", false)
def tyJx4a65c : Nat → FieldType := fun k => match k with
  | 0 => .int
  | 1 => .array (.object "java/lang/Object")
  | _ => .int
abbrev wsJx4a65c0 : List Cond := u_ws RJx4a65c TJx4a65c 3
theorem nmJx4a65c : ∀ a, a < 3 → ∀ b, b < 3 → a ≠ b → (TJx4a65c a).2.1 ≠ (TJx4a65c b).2.1 := by decide +kernel
theorem tyJx4a65c_ok : ∀ k, k < 3 → parseFieldDescriptor (TJx4a65c k).2.2.1 = some (tyJx4a65c k) := by decide +kernel
abbrev cJx4a65c_init_da8c8 : ByteArray := prog_41_method_2_code
def yJx4a65c_init_da8c8 : MethodName := ⟨RJx4a65c, "<init>", "()V"⟩
abbrev cJx4a65c_grow_92f84 : ByteArray := prog_41_method_6_code
def yJx4a65c_grow_92f84 : MethodName := ⟨RJx4a65c, "grow", "(I)[Ljava/lang/Object;"⟩
abbrev cJx4a65c_grow_d5877 : ByteArray := prog_41_method_7_code
def yJx4a65c_grow_d5877 : MethodName := ⟨RJx4a65c, "grow", "()[Ljava/lang/Object;"⟩
abbrev cJx4a65c_size_8abf5 : ByteArray := prog_41_method_8_code
def yJx4a65c_size_8abf5 : MethodName := ⟨RJx4a65c, "size", "()I"⟩
abbrev cJx4a65c_elementData_915e3 : ByteArray := prog_41_method_18_code
def yJx4a65c_elementData_915e3 : MethodName := ⟨RJx4a65c, "elementData", "(I)Ljava/lang/Object;"⟩
abbrev cJx4a65c_get_915e3 : ByteArray := prog_41_method_20_code
def yJx4a65c_get_915e3 : MethodName := ⟨RJx4a65c, "get", "(I)Ljava/lang/Object;"⟩
abbrev cJx4a65c_add_72be8 : ByteArray := prog_41_method_24_code
def yJx4a65c_add_72be8 : MethodName := ⟨RJx4a65c, "add", "(Ljava/lang/Object;[Ljava/lang/Object;I)V"⟩
abbrev cJx4a65c_add_9ea2d : ByteArray := prog_41_method_25_code
def yJx4a65c_add_9ea2d : MethodName := ⟨RJx4a65c, "add", "(Ljava/lang/Object;)Z"⟩
abbrev cJx4a65c_add_7a177 : ByteArray := prog_41_method_26_code
def yJx4a65c_add_7a177 : MethodName := ⟨RJx4a65c, "add", "(ILjava/lang/Object;)V"⟩
abbrev cJx4a65c_remove_915e3 : ByteArray := prog_41_method_29_code
def yJx4a65c_remove_915e3 : MethodName := ⟨RJx4a65c, "remove", "(I)Ljava/lang/Object;"⟩
abbrev cJx4a65c_fastRemove_b59b0 : ByteArray := prog_41_method_39_code
def yJx4a65c_fastRemove_b59b0 : MethodName := ⟨RJx4a65c, "fastRemove", "([Ljava/lang/Object;I)V"⟩
abbrev cJx4a65c_rangeCheckForAdd_d00df : ByteArray := prog_41_method_45_code
def yJx4a65c_rangeCheckForAdd_d00df : MethodName := ⟨RJx4a65c, "rangeCheckForAdd", "(I)V"⟩
def RJ7 : String := "java/util/Arrays"
def TJ7 : u_T := fun k => match k with
  | _ => ("", "", "", false)
def tyJ7 : Nat → FieldType := fun k => match k with
  | _ => .int
abbrev wsJ70 : List Cond := u_ws RJ7 TJ7 0
theorem nmJ7 : ∀ a, a < 0 → ∀ b, b < 0 → a ≠ b → (TJ7 a).2.1 ≠ (TJ7 b).2.1 := by decide +kernel
theorem tyJ7_ok : ∀ k, k < 0 → parseFieldDescriptor (TJ7 k).2.2.1 = some (tyJ7 k) := by decide +kernel
abbrev cJ7_equals_331f6 : ByteArray := prog_42_method_81_code
def yJ7_equals_331f6 : MethodName := ⟨RJ7, "equals", "([J[J)Z"⟩
abbrev cJ7_fill_d0a16 : ByteArray := prog_42_method_101_code
def yJ7_fill_d0a16 : MethodName := ⟨RJ7, "fill", "([JJ)V"⟩
abbrev cJ7_fill_53178 : ByteArray := prog_42_method_103_code
def yJ7_fill_53178 : MethodName := ⟨RJ7, "fill", "([II)V"⟩
abbrev cJ7_copyOf_1904c : ByteArray := prog_42_method_119_code
def yJ7_copyOf_1904c : MethodName := ⟨RJ7, "copyOf", "([Ljava/lang/Object;I)[Ljava/lang/Object;"⟩
abbrev cJ7_copyOf_6403c : ByteArray := prog_42_method_120_code
def yJ7_copyOf_6403c : MethodName := ⟨RJ7, "copyOf", "([Ljava/lang/Object;ILjava/lang/Class;)[Ljava/lang/Object;"⟩
abbrev cJ7_copyOf_9075b : ByteArray := prog_42_method_121_code
def yJ7_copyOf_9075b : MethodName := ⟨RJ7, "copyOf", "([BI)[B"⟩
abbrev cJ7_checkLength_df160 : ByteArray := prog_42_method_131_code
def yJ7_checkLength_df160 : MethodName := ⟨RJ7, "checkLength", "(II)V"⟩
abbrev cJ7_copyOfRange_39247 : ByteArray := prog_42_method_132_code
def yJ7_copyOfRange_39247 : MethodName := ⟨RJ7, "copyOfRange", "([BII)[B"⟩
abbrev cJ7_copyOfRangeByte_39247 : ByteArray := prog_42_method_133_code
def yJ7_copyOfRangeByte_39247 : MethodName := ⟨RJ7, "copyOfRangeByte", "([BII)[B"⟩
def RJx5ef63 : String := "java/util/Collection"
def TJx5ef63 : u_T := fun k => match k with
  | _ => ("", "", "", false)
def tyJx5ef63 : Nat → FieldType := fun k => match k with
  | _ => .int
abbrev wsJx5ef630 : List Cond := u_ws RJx5ef63 TJx5ef63 0
theorem nmJx5ef63 : ∀ a, a < 0 → ∀ b, b < 0 → a ≠ b → (TJx5ef63 a).2.1 ≠ (TJx5ef63 b).2.1 := by decide +kernel
theorem tyJx5ef63_ok : ∀ k, k < 0 → parseFieldDescriptor (TJx5ef63 k).2.2.1 = some (tyJx5ef63 k) := by decide +kernel
def RJxbd725 : String := "java/util/List"
def TJxbd725 : u_T := fun k => match k with
  | _ => ("", "", "", false)
def tyJxbd725 : Nat → FieldType := fun k => match k with
  | _ => .int
abbrev wsJxbd7250 : List Cond := u_ws RJxbd725 TJxbd725 0
theorem nmJxbd725 : ∀ a, a < 0 → ∀ b, b < 0 → a ≠ b → (TJxbd725 a).2.1 ≠ (TJxbd725 b).2.1 := by decide +kernel
theorem tyJxbd725_ok : ∀ k, k < 0 → parseFieldDescriptor (TJxbd725 k).2.2.1 = some (tyJxbd725 k) := by decide +kernel
def RJ15 : String := "java/util/Objects"
def TJ15 : u_T := fun k => match k with
  | _ => ("", "", "", false)
def tyJ15 : Nat → FieldType := fun k => match k with
  | _ => .int
abbrev wsJ150 : List Cond := u_ws RJ15 TJ15 0
theorem nmJ15 : ∀ a, a < 0 → ∀ b, b < 0 → a ≠ b → (TJ15 a).2.1 ≠ (TJ15 b).2.1 := by decide +kernel
theorem tyJ15_ok : ∀ k, k < 0 → parseFieldDescriptor (TJ15 k).2.2.1 = some (tyJ15 k) := by decide +kernel
abbrev cJ15_checkIndex_7cf53 : ByteArray := prog_45_method_17_code
def yJ15_checkIndex_7cf53 : MethodName := ⟨RJ15, "checkIndex", "(II)I"⟩
def RJxf0a74 : String := "java/util/RandomAccess"
def TJxf0a74 : u_T := fun k => match k with
  | _ => ("", "", "", false)
def tyJxf0a74 : Nat → FieldType := fun k => match k with
  | _ => .int
abbrev wsJxf0a740 : List Cond := u_ws RJxf0a74 TJxf0a74 0
theorem nmJxf0a74 : ∀ a, a < 0 → ∀ b, b < 0 → a ≠ b → (TJxf0a74 a).2.1 ≠ (TJxf0a74 b).2.1 := by decide +kernel
theorem tyJxf0a74_ok : ∀ k, k < 0 → parseFieldDescriptor (TJxf0a74 k).2.2.1 = some (tyJxf0a74 k) := by decide +kernel
def RJxa66e6 : String := "java/util/SequencedCollection"
def TJxa66e6 : u_T := fun k => match k with
  | _ => ("", "", "", false)
def tyJxa66e6 : Nat → FieldType := fun k => match k with
  | _ => .int
abbrev wsJxa66e60 : List Cond := u_ws RJxa66e6 TJxa66e6 0
theorem nmJxa66e6 : ∀ a, a < 0 → ∀ b, b < 0 → a ≠ b → (TJxa66e6 a).2.1 ≠ (TJxa66e6 b).2.1 := by decide +kernel
theorem tyJxa66e6_ok : ∀ k, k < 0 → parseFieldDescriptor (TJxa66e6 k).2.2.1 = some (tyJxa66e6 k) := by decide +kernel
def RJx9a822 : String := "jdk/internal/misc/Unsafe"
def TJx9a822 : u_T := fun k => match k with
  | _ => ("", "", "", false)
def tyJx9a822 : Nat → FieldType := fun k => match k with
  | _ => .int
abbrev wsJx9a8220 : List Cond := u_ws RJx9a822 TJx9a822 0
theorem nmJx9a822 : ∀ a, a < 0 → ∀ b, b < 0 → a ≠ b → (TJx9a822 a).2.1 ≠ (TJx9a822 b).2.1 := by decide +kernel
theorem tyJx9a822_ok : ∀ k, k < 0 → parseFieldDescriptor (TJx9a822 k).2.2.1 = some (tyJx9a822 k) := by decide +kernel
abbrev cJx9a822_getLongUnaligned_f02c6 : ByteArray := prog_48_method_334_code
def yJx9a822_getLongUnaligned_f02c6 : MethodName := ⟨RJx9a822, "getLongUnaligned", "(Ljava/lang/Object;J)J"⟩
abbrev cJx9a822_getIntUnaligned_25a47 : ByteArray := prog_48_method_336_code
def yJx9a822_getIntUnaligned_25a47 : MethodName := ⟨RJx9a822, "getIntUnaligned", "(Ljava/lang/Object;J)I"⟩
abbrev cJx9a822_pickPos_7cf53 : ByteArray := prog_48_method_350_code
def yJx9a822_pickPos_7cf53 : MethodName := ⟨RJx9a822, "pickPos", "(II)I"⟩
abbrev cJx9a822_makeLong_0477f : ByteArray := prog_48_method_351_code
def yJx9a822_makeLong_0477f : MethodName := ⟨RJx9a822, "makeLong", "(BBBBBBBB)J"⟩
abbrev cJx9a822_makeLong_4b46d : ByteArray := prog_48_method_352_code
def yJx9a822_makeLong_4b46d : MethodName := ⟨RJx9a822, "makeLong", "(SSSS)J"⟩
abbrev cJx9a822_makeLong_a216e : ByteArray := prog_48_method_353_code
def yJx9a822_makeLong_a216e : MethodName := ⟨RJx9a822, "makeLong", "(II)J"⟩
abbrev cJx9a822_makeInt_4e28c : ByteArray := prog_48_method_354_code
def yJx9a822_makeInt_4e28c : MethodName := ⟨RJx9a822, "makeInt", "(SS)I"⟩
abbrev cJx9a822_makeInt_86272 : ByteArray := prog_48_method_355_code
def yJx9a822_makeInt_86272 : MethodName := ⟨RJx9a822, "makeInt", "(BBBB)I"⟩
abbrev cJx9a822_toUnsignedInt_4d018 : ByteArray := prog_48_method_366_code
def yJx9a822_toUnsignedInt_4d018 : MethodName := ⟨RJx9a822, "toUnsignedInt", "(B)I"⟩
abbrev cJx9a822_toUnsignedInt_f1ed4 : ByteArray := prog_48_method_367_code
def yJx9a822_toUnsignedInt_f1ed4 : MethodName := ⟨RJx9a822, "toUnsignedInt", "(S)I"⟩
abbrev cJx9a822_toUnsignedLong_c5be9 : ByteArray := prog_48_method_368_code
def yJx9a822_toUnsignedLong_c5be9 : MethodName := ⟨RJx9a822, "toUnsignedLong", "(B)J"⟩
abbrev cJx9a822_toUnsignedLong_51cfc : ByteArray := prog_48_method_369_code
def yJx9a822_toUnsignedLong_51cfc : MethodName := ⟨RJx9a822, "toUnsignedLong", "(S)J"⟩
abbrev cJx9a822_toUnsignedLong_3e8ac : ByteArray := prog_48_method_370_code
def yJx9a822_toUnsignedLong_3e8ac : MethodName := ⟨RJx9a822, "toUnsignedLong", "(I)J"⟩
def RJxf92f9 : String := "jdk/internal/misc/UnsafeConstants"
def TJxf92f9 : u_T := fun k => match k with
  | _ => ("", "", "", false)
def tyJxf92f9 : Nat → FieldType := fun k => match k with
  | _ => .int
abbrev wsJxf92f90 : List Cond := u_ws RJxf92f9 TJxf92f9 0
theorem nmJxf92f9 : ∀ a, a < 0 → ∀ b, b < 0 → a ≠ b → (TJxf92f9 a).2.1 ≠ (TJxf92f9 b).2.1 := by decide +kernel
theorem tyJxf92f9_ok : ∀ k, k < 0 → parseFieldDescriptor (TJxf92f9 k).2.2.1 = some (tyJxf92f9 k) := by decide +kernel
def RJ8 : String := "jdk/internal/util/ArraysSupport"
def TJ8 : u_T := fun k => match k with
  | _ => ("", "", "", false)
def tyJ8 : Nat → FieldType := fun k => match k with
  | _ => .int
abbrev wsJ80 : List Cond := u_ws RJ8 TJ8 0
theorem nmJ8 : ∀ a, a < 0 → ∀ b, b < 0 → a ≠ b → (TJ8 a).2.1 ≠ (TJ8 b).2.1 := by decide +kernel
theorem tyJ8_ok : ∀ k, k < 0 → parseFieldDescriptor (TJ8 k).2.2.1 = some (tyJ8 k) := by decide +kernel
abbrev cJ8_vectorizedMismatch_456ae : ByteArray := prog_50_method_3_code
def yJ8_vectorizedMismatch_456ae : MethodName := ⟨RJ8, "vectorizedMismatch", "(Ljava/lang/Object;JLjava/lang/Object;JII)I"⟩
abbrev cJ8_mismatch_974f6 : ByteArray := prog_50_method_23_code
def yJ8_mismatch_974f6 : MethodName := ⟨RJ8, "mismatch", "([J[JI)I"⟩
abbrev cJ8_newLength_cabcc : ByteArray := prog_50_method_27_code
def yJ8_newLength_cabcc : MethodName := ⟨RJ8, "newLength", "(III)I"⟩
abbrev cJ8_hugeLength_7cf53 : ByteArray := prog_50_method_28_code
def yJ8_hugeLength_7cf53 : MethodName := ⟨RJ8, "hugeLength", "(II)I"⟩
def RJ3 : String := "jdk/internal/util/Preconditions"
def TJ3 : u_T := fun k => match k with
  | _ => ("", "", "", false)
def tyJ3 : Nat → FieldType := fun k => match k with
  | _ => .int
abbrev wsJ30 : List Cond := u_ws RJ3 TJ3 0
theorem nmJ3 : ∀ a, a < 0 → ∀ b, b < 0 → a ≠ b → (TJ3 a).2.1 ≠ (TJ3 b).2.1 := by decide +kernel
theorem tyJ3_ok : ∀ k, k < 0 → parseFieldDescriptor (TJ3 k).2.2.1 = some (tyJ3 k) := by decide +kernel
abbrev cJ3_checkIndex_8e157 : ByteArray := prog_51_method_11_code
def yJ3_checkIndex_8e157 : MethodName := ⟨RJ3, "checkIndex", "(IILjava/util/function/BiFunction;)I"⟩
abbrev cJ3_checkFromToIndex_8c36e : ByteArray := prog_51_method_12_code
def yJ3_checkFromToIndex_8c36e : MethodName := ⟨RJ3, "checkFromToIndex", "(IIILjava/util/function/BiFunction;)I"⟩
abbrev cJ3_checkFromIndexSize_8c36e : ByteArray := prog_51_method_13_code
def yJ3_checkFromIndexSize_8c36e : MethodName := ⟨RJ3, "checkFromIndexSize", "(IIILjava/util/function/BiFunction;)I"⟩
def RL : String := "MoonlitFloorLaw"
abbrev cL_put : ByteArray := method_2_code
def yL_put : MethodName := ⟨RL, "put", "(LMoonlitFloor;[II)V"⟩
abbrev cL_flush : ByteArray := method_3_code
def yL_flush : MethodName := ⟨RL, "flush", "(LMoonlitFloor;[I)V"⟩
abbrev cL_said : ByteArray := method_5_code
def yL_said : MethodName := ⟨RL, "said", "(LMoonlitFloor;[I)I"⟩
abbrev cL_cell : ByteArray := method_7_code
def yL_cell : MethodName := ⟨RL, "cell", "([II)I"⟩
abbrev cL_floor : ByteArray := method_8_code
def yL_floor : MethodName := ⟨RL, "floor", "([I)LMoonlitFloorLaw$Floor;"⟩
abbrev cL_text : ByteArray := method_9_code
def yL_text : MethodName := ⟨RL, "text", "(LMoonlitFloorLaw$Floor;I)Ljava/lang/String;"⟩
abbrev cL_told : ByteArray := method_10_code
def yL_told : MethodName := ⟨RL, "told", "(LMoonlitFloor;[ILjava/lang/CharSequence;)I"⟩
abbrev cL_law : ByteArray := code
def yL_law : MethodName := ⟨RL, "law", "([I)Z"⟩
abbrev cL_isOneRow : ByteArray := method_14_code
def yL_isOneRow : MethodName := ⟨RL, "isOneRow", "(LMoonlitFloor;LMoonlitFloorLaw$Floor;)Z"⟩
abbrev cL_isPlaced : ByteArray := method_15_code
def yL_isPlaced : MethodName := ⟨RL, "isPlaced", "(LMoonlitFloor;)Z"⟩
abbrev cL_sees : ByteArray := method_16_code
def yL_sees : MethodName := ⟨RL, "sees", "(LMoonlitFloor;LMoonlitFloorLaw$Floor;[J)V"⟩
abbrev vwCl : List vw_C := [(RJ0, TJ0, 4), (RJ4, TJ4, 4), (RJx4a65c, TJx4a65c, 3), (RJx4a65c, TJx4a65c, 3), (RX1, TX1, 5), (RX2, TX2, 13), (RX3, TX3, 3), (RX4, TX4, 11), (RX6, TX6, 5), (RX7, TX7, 9), (RX8, TX8, 14), (RX9, TX9, 8), (RX10, TX10, 31)]
/-! the words of the tables that go through calls: one list for all methods -/
def sg_T : List Cond := lw_tbl.filter goodWord
theorem sg_mem {w : Cond} (h : w ∈ lw_tbl) (hg : goodWord w = true) : w ∈ sg_T := List.mem_filter.mpr ⟨h, hg⟩
theorem sg_in0 {w : Cond} (i : Nat) (h : (k2_sels lw_privs)[i]? = some w) (hg : goodWord w = true) : w ∈ sg_T := sg_mem (List.mem_append_left _ (List.mem_of_getElem? h)) hg
theorem sg_in1 {w : Cond} (i : Nat) (h : tables_1_1[i]? = some w) (hg : goodWord w = true) : w ∈ sg_T := sg_mem (List.mem_append_right _ (show w ∈ tables_1_1 ++ (tables_1_2 ++ (tables_1_3 ++ (tables_1_4 ++ (tables_1_5 ++ (tables_1_6 ++ (tables_1_7 ++ (tables_1_8 ++ (tables_1_9)))))))) from (List.mem_append_left _ (List.mem_of_getElem? h)))) hg
theorem sg_in2 {w : Cond} (i : Nat) (h : tables_1_2[i]? = some w) (hg : goodWord w = true) : w ∈ sg_T := sg_mem (List.mem_append_right _ (show w ∈ tables_1_1 ++ (tables_1_2 ++ (tables_1_3 ++ (tables_1_4 ++ (tables_1_5 ++ (tables_1_6 ++ (tables_1_7 ++ (tables_1_8 ++ (tables_1_9)))))))) from (List.mem_append_right _ (List.mem_append_left _ (List.mem_of_getElem? h))))) hg
theorem sg_in3 {w : Cond} (i : Nat) (h : tables_1_3[i]? = some w) (hg : goodWord w = true) : w ∈ sg_T := sg_mem (List.mem_append_right _ (show w ∈ tables_1_1 ++ (tables_1_2 ++ (tables_1_3 ++ (tables_1_4 ++ (tables_1_5 ++ (tables_1_6 ++ (tables_1_7 ++ (tables_1_8 ++ (tables_1_9)))))))) from (List.mem_append_right _ (List.mem_append_right _ (List.mem_append_left _ (List.mem_of_getElem? h)))))) hg
theorem sg_in4 {w : Cond} (i : Nat) (h : tables_1_4[i]? = some w) (hg : goodWord w = true) : w ∈ sg_T := sg_mem (List.mem_append_right _ (show w ∈ tables_1_1 ++ (tables_1_2 ++ (tables_1_3 ++ (tables_1_4 ++ (tables_1_5 ++ (tables_1_6 ++ (tables_1_7 ++ (tables_1_8 ++ (tables_1_9)))))))) from (List.mem_append_right _ (List.mem_append_right _ (List.mem_append_right _ (List.mem_append_left _ (List.mem_of_getElem? h))))))) hg
theorem sg_in5 {w : Cond} (i : Nat) (h : tables_1_5[i]? = some w) (hg : goodWord w = true) : w ∈ sg_T := sg_mem (List.mem_append_right _ (show w ∈ tables_1_1 ++ (tables_1_2 ++ (tables_1_3 ++ (tables_1_4 ++ (tables_1_5 ++ (tables_1_6 ++ (tables_1_7 ++ (tables_1_8 ++ (tables_1_9)))))))) from (List.mem_append_right _ (List.mem_append_right _ (List.mem_append_right _ (List.mem_append_right _ (List.mem_append_left _ (List.mem_of_getElem? h)))))))) hg
theorem sg_in6 {w : Cond} (i : Nat) (h : tables_1_6[i]? = some w) (hg : goodWord w = true) : w ∈ sg_T := sg_mem (List.mem_append_right _ (show w ∈ tables_1_1 ++ (tables_1_2 ++ (tables_1_3 ++ (tables_1_4 ++ (tables_1_5 ++ (tables_1_6 ++ (tables_1_7 ++ (tables_1_8 ++ (tables_1_9)))))))) from (List.mem_append_right _ (List.mem_append_right _ (List.mem_append_right _ (List.mem_append_right _ (List.mem_append_right _ (List.mem_append_left _ (List.mem_of_getElem? h))))))))) hg
theorem sg_in7 {w : Cond} (i : Nat) (h : tables_1_7[i]? = some w) (hg : goodWord w = true) : w ∈ sg_T := sg_mem (List.mem_append_right _ (show w ∈ tables_1_1 ++ (tables_1_2 ++ (tables_1_3 ++ (tables_1_4 ++ (tables_1_5 ++ (tables_1_6 ++ (tables_1_7 ++ (tables_1_8 ++ (tables_1_9)))))))) from (List.mem_append_right _ (List.mem_append_right _ (List.mem_append_right _ (List.mem_append_right _ (List.mem_append_right _ (List.mem_append_right _ (List.mem_append_left _ (List.mem_of_getElem? h)))))))))) hg
theorem sg_in8 {w : Cond} (i : Nat) (h : tables_1_8[i]? = some w) (hg : goodWord w = true) : w ∈ sg_T := sg_mem (List.mem_append_right _ (show w ∈ tables_1_1 ++ (tables_1_2 ++ (tables_1_3 ++ (tables_1_4 ++ (tables_1_5 ++ (tables_1_6 ++ (tables_1_7 ++ (tables_1_8 ++ (tables_1_9)))))))) from (List.mem_append_right _ (List.mem_append_right _ (List.mem_append_right _ (List.mem_append_right _ (List.mem_append_right _ (List.mem_append_right _ (List.mem_append_right _ (List.mem_append_left _ (List.mem_of_getElem? h))))))))))) hg
theorem sg_in9 {w : Cond} (i : Nat) (h : tables_1_9[i]? = some w) (hg : goodWord w = true) : w ∈ sg_T := sg_mem (List.mem_append_right _ (show w ∈ tables_1_1 ++ (tables_1_2 ++ (tables_1_3 ++ (tables_1_4 ++ (tables_1_5 ++ (tables_1_6 ++ (tables_1_7 ++ (tables_1_8 ++ (tables_1_9)))))))) from (List.mem_append_right _ (List.mem_append_right _ (List.mem_append_right _ (List.mem_append_right _ (List.mem_append_right _ (List.mem_append_right _ (List.mem_append_right _ (List.mem_append_right _ (List.mem_of_getElem? h))))))))))) hg
theorem sg_gT (x : Cond) : GoodIn (x :: sg_T) sg_T := fun w h => ⟨List.mem_cons_of_mem _ h, good_of_word (List.mem_filter.mp h).2⟩
theorem sg_g1 {x w : Cond} {ws : List Cond} (h : w ∈ sg_T) (k : GoodIn (x :: sg_T) ws) : GoodIn (x :: sg_T) (w :: ws) := fun v hv => (List.mem_cons.mp hv).elim (fun e => by rw [e]; exact sg_gT x w h) (k v)
theorem sg_gV {x : Cond} {own C : String} {idx : Nat} {y : MethodName} {b : ByteArray} {n : Nat} {r : Option FieldType} (h1 : Cond.methodLink own idx y ∈ sg_T) (h2 : Cond.instanceMethod y ∈ sg_T) (h3 : Cond.selects C y y ∈ sg_T) (h4 : Cond.initialized C ∈ sg_T) (h5 : Cond.code y b n r ∈ sg_T) : GoodIn (x :: sg_T) (wsV own idx C y (Cond.code y b n r :: sg_T)) := sg_g1 h1 (sg_g1 h2 (sg_g1 h3 (sg_g1 h4 (sg_g1 h5 (sg_gT x)))))
theorem sg_gS {x : Cond} {own : String} {idx : Nat} {y : MethodName} {b : ByteArray} {n : Nat} {r : Option FieldType} (h1 : Cond.methodLink own idx y ∈ sg_T) (h2 : Cond.static y ∈ sg_T) (h4 : Cond.initialized y.cls ∈ sg_T) (h5 : Cond.code y b n r ∈ sg_T) : GoodIn (x :: sg_T) (va_wsS own idx y (Cond.code y b n r :: sg_T)) := sg_g1 h1 (sg_g1 h2 (sg_g1 h4 (sg_g1 h5 (sg_gT x))))
theorem sg_gC {x : Cond} {y : MethodName} {b : ByteArray} {n : Nat} {r : Option FieldType} (h5 : Cond.code y b n r ∈ sg_T) : GoodIn (x :: sg_T) (Cond.code y b n r :: sg_T) := sg_g1 h5 (sg_gT x)
