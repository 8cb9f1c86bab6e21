def RX0 : String := "BallotBus$Accounts"
def TX0 : u_T := fun k => match k with
  | 0 => ("BallotBus$Accounts", "credits", "[I", true)
  | 1 => ("BallotBus$Accounts", "debts", "[I", true)
  | 2 => ("BallotBus$Accounts", "silences", "[I", true)
  | 3 => ("BallotBus$Accounts", "answers", "[I", true)
  | 4 => ("BallotBus$Accounts", "lengths", "[I", true)
  | _ => ("BallotBus$Accounts", "vetoes", "[I", true)
def tyX0 : Nat → FieldType := fun k => match k with
  | 0 => .array .int
  | 1 => .array .int
  | 2 => .array .int
  | 3 => .array .int
  | 4 => .array .int
  | _ => .array .int
theorem nmX0 : ∀ a, a < 6 → ∀ b, b < 6 → a ≠ b → (TX0 a).2.1 ≠ (TX0 b).2.1 := by decide +kernel
theorem tyX0_ok : ∀ k, k < 6 → parseFieldDescriptor (TX0 k).2.2.1 = some (tyX0 k) := by decide +kernel
abbrev cX0_init : ByteArray := prog_2_method_1_code
def yX0_init : MethodName := ⟨RX0, "<init>", "()V"⟩
abbrev cX0_begin : ByteArray := prog_2_method_2_code
def yX0_begin : MethodName := ⟨RX0, "begin", "([I)V"⟩
abbrev cX0_copyFrom : ByteArray := prog_2_method_3_code
def yX0_copyFrom : MethodName := ⟨RX0, "copyFrom", "(LBallotBus$Accounts;)V"⟩
abbrev cX0_settleFromCredits : ByteArray := prog_2_method_7_code
def yX0_settleFromCredits : MethodName := ⟨RX0, "settleFromCredits", "(I)I"⟩
abbrev cX0_book : ByteArray := prog_2_method_8_code
def yX0_book : MethodName := ⟨RX0, "book", "(II)I"⟩
def RX1 : String := "BallotBus$AnswerLog"
def TX1 : u_T := fun k => match k with
  | 0 => ("BallotBus$AnswerLog", "cells", "[I", true)
  | 1 => ("BallotBus$AnswerLog", "next", "I", false)
  | _ => ("BallotBus$AnswerLog", "size", "I", false)
def tyX1 : Nat → FieldType := fun k => match k with
  | 0 => .array .int
  | 1 => .int
  | _ => .int
theorem nmX1 : ∀ a, a < 3 → ∀ b, b < 3 → a ≠ b → (TX1 a).2.1 ≠ (TX1 b).2.1 := by decide +kernel
theorem tyX1_ok : ∀ k, k < 3 → parseFieldDescriptor (TX1 k).2.2.1 = some (tyX1 k) := by decide +kernel
abbrev cX1_init : ByteArray := prog_3_method_1_code
def yX1_init : MethodName := ⟨RX1, "<init>", "()V"⟩
abbrev cX1_clear : ByteArray := prog_3_method_2_code
def yX1_clear : MethodName := ⟨RX1, "clear", "()V"⟩
abbrev cX1_copyFrom : ByteArray := prog_3_method_3_code
def yX1_copyFrom : MethodName := ⟨RX1, "copyFrom", "(LBallotBus$AnswerLog;)V"⟩
abbrev cX1_add : ByteArray := prog_3_method_4_code
def yX1_add : MethodName := ⟨RX1, "add", "(LBallotBus$Requests;III)V"⟩
def RX2 : String := "BallotBus$History"
def TX2 : u_T := fun k => match k with
  | 0 => ("BallotBus$History", "states", "[LBallotBus$State;", true)
  | 1 => ("BallotBus$History", "latest", "I", false)
  | _ => ("BallotBus$History", "size", "I", false)
def tyX2 : Nat → FieldType := fun k => match k with
  | 0 => .array (.object "BallotBus$State")
  | 1 => .int
  | _ => .int
theorem nmX2 : ∀ a, a < 3 → ∀ b, b < 3 → a ≠ b → (TX2 a).2.1 ≠ (TX2 b).2.1 := by decide +kernel
theorem tyX2_ok : ∀ k, k < 3 → parseFieldDescriptor (TX2 k).2.2.1 = some (tyX2 k) := by decide +kernel
abbrev cX2_init : ByteArray := prog_4_method_1_code
def yX2_init : MethodName := ⟨RX2, "<init>", "(LBallotBus$Setup;)V"⟩
abbrev cX2_push : ByteArray := prog_4_method_2_code
def yX2_push : MethodName := ⟨RX2, "push", "(LBallotBus$State;)V"⟩
abbrev cX2_pop : ByteArray := prog_4_method_3_code
def yX2_pop : MethodName := ⟨RX2, "pop", "(LBallotBus$State;)V"⟩
def RX3 : String := "BallotBus$Input"
def TX3 : u_T := fun k => match k with
  | 0 => ("BallotBus$Input", "bytes", "[B", true)
  | _ => ("BallotBus$Input", "length", "I", false)
def tyX3 : Nat → FieldType := fun k => match k with
  | 0 => .array .byte
  | _ => .int
theorem nmX3 : ∀ a, a < 2 → ∀ b, b < 2 → a ≠ b → (TX3 a).2.1 ≠ (TX3 b).2.1 := by decide +kernel
theorem tyX3_ok : ∀ k, k < 2 → parseFieldDescriptor (TX3 k).2.2.1 = some (tyX3 k) := by decide +kernel
abbrev cX3_init : ByteArray := prog_5_method_1_code
def yX3_init : MethodName := ⟨RX3, "<init>", "()V"⟩
abbrev cX3_append : ByteArray := prog_5_method_2_code
def yX3_append : MethodName := ⟨RX3, "append", "(I)V"⟩
abbrev cX3_byteAt : ByteArray := prog_5_method_3_code
def yX3_byteAt : MethodName := ⟨RX3, "byteAt", "(I)I"⟩
abbrev cX3_isLetter : ByteArray := prog_5_method_4_code
def yX3_isLetter : MethodName := ⟨RX3, "isLetter", "(I)Z"⟩
abbrev cX3_isDigit : ByteArray := prog_5_method_5_code
def yX3_isDigit : MethodName := ⟨RX3, "isDigit", "(I)Z"⟩
abbrev cX3_isBlank : ByteArray := prog_5_method_6_code
def yX3_isBlank : MethodName := ⟨RX3, "isBlank", "(I)Z"⟩
abbrev cX3_nameAt : ByteArray := prog_5_method_8_code
def yX3_nameAt : MethodName := ⟨RX3, "nameAt", "(II)J"⟩
def RX4 : String := "BallotBus$Poll"
def TX4 : u_T := fun k => match k with
  | 0 => ("BallotBus$Poll", "kinds", "I", false)
  | 1 => ("BallotBus$Poll", "weight", "I", false)
  | 2 => ("BallotBus$Poll", "scores", "[I", true)
  | 3 => ("BallotBus$Poll", "defeated", "[I", true)
  | 4 => ("BallotBus$Poll", "placed", "[[I", true)
  | _ => ("BallotBus$Poll", "ahead", "[[I", true)
def tyX4 : Nat → FieldType := fun k => match k with
  | 0 => .int
  | 1 => .int
  | 2 => .array .int
  | 3 => .array .int
  | 4 => .array (.array .int)
  | _ => .array (.array .int)
theorem nmX4 : ∀ a, a < 6 → ∀ b, b < 6 → a ≠ b → (TX4 a).2.1 ≠ (TX4 b).2.1 := by decide +kernel
theorem tyX4_ok : ∀ k, k < 6 → parseFieldDescriptor (TX4 k).2.2.1 = some (tyX4 k) := by decide +kernel
abbrev cX4_init : ByteArray := prog_6_method_1_code
def yX4_init : MethodName := ⟨RX4, "<init>", "()V"⟩
abbrev cX4_countVotes : ByteArray := prog_6_method_2_code
def yX4_countVotes : MethodName := ⟨RX4, "countVotes", "(LBallotBus$State;I)V"⟩
abbrev cX4_clear : ByteArray := prog_6_method_3_code
def yX4_clear : MethodName := ⟨RX4, "clear", "(I)V"⟩
abbrev cX4_addBallot : ByteArray := prog_6_method_4_code
def yX4_addBallot : MethodName := ⟨RX4, "addBallot", "([II)V"⟩
abbrev cX4_defeats : ByteArray := prog_6_method_5_code
def yX4_defeats : MethodName := ⟨RX4, "defeats", "(II)Z"⟩
abbrev cX4_rank : ByteArray := prog_6_method_7_code
def yX4_rank : MethodName := ⟨RX4, "rank", "(I[I)V"⟩
abbrev cX4_isAbove : ByteArray := prog_6_method_8_code
def yX4_isAbove : MethodName := ⟨RX4, "isAbove", "(III)Z"⟩
abbrev cX4_hasMoreFirsts : ByteArray := prog_6_method_9_code
def yX4_hasMoreFirsts : MethodName := ⟨RX4, "hasMoreFirsts", "(II)Z"⟩
def RX5 : String := "BallotBus$Requests"
def TX5 : u_T := fun k => match k with
  | 0 => ("BallotBus$Requests", "cells", "[[I", true)
  | 1 => ("BallotBus$Requests", "size", "I", false)
  | _ => ("BallotBus$Requests", "current", "I", false)
def tyX5 : Nat → FieldType := fun k => match k with
  | 0 => .array (.array .int)
  | 1 => .int
  | _ => .int
theorem nmX5 : ∀ a, a < 3 → ∀ b, b < 3 → a ≠ b → (TX5 a).2.1 ≠ (TX5 b).2.1 := by decide +kernel
theorem tyX5_ok : ∀ k, k < 3 → parseFieldDescriptor (TX5 k).2.2.1 = some (tyX5 k) := by decide +kernel
abbrev cX5_init : ByteArray := prog_7_method_1_code
def yX5_init : MethodName := ⟨RX5, "<init>", "()V"⟩
abbrev cX5_clear : ByteArray := prog_7_method_2_code
def yX5_clear : MethodName := ⟨RX5, "clear", "()V"⟩
abbrev cX5_copyFrom : ByteArray := prog_7_method_3_code
def yX5_copyFrom : MethodName := ⟨RX5, "copyFrom", "(LBallotBus$Requests;)V"⟩
abbrev cX5_add : ByteArray := prog_7_method_4_code
def yX5_add : MethodName := ⟨RX5, "add", "(IIIII)V"⟩
abbrev cX5_removeAt : ByteArray := prog_7_method_5_code
def yX5_removeAt : MethodName := ⟨RX5, "removeAt", "(I)V"⟩
abbrev cX5_indexOf : ByteArray := prog_7_method_6_code
def yX5_indexOf : MethodName := ⟨RX5, "indexOf", "(I)I"⟩
abbrev cX5_serialAt : ByteArray := prog_7_method_7_code
def yX5_serialAt : MethodName := ⟨RX5, "serialAt", "(I)I"⟩
abbrev cX5_waits : ByteArray := prog_7_method_8_code
def yX5_waits : MethodName := ⟨RX5, "waits", "(I)Z"⟩
abbrev cX5_waiting : ByteArray := prog_7_method_9_code
def yX5_waiting : MethodName := ⟨RX5, "waiting", "()I"⟩
abbrev cX5_waitingWith : ByteArray := prog_7_method_10_code
def yX5_waitingWith : MethodName := ⟨RX5, "waitingWith", "(II)I"⟩
def RX6 : String := "BallotBus$Rows"
def TX6 : u_T := fun k => match k with
  | _ => ("", "", "", false)
def tyX6 : Nat → FieldType := fun k => match k with
  | _ => .int
theorem nmX6 : ∀ a, a < 0 → ∀ b, b < 0 → a ≠ b → (TX6 a).2.1 ≠ (TX6 b).2.1 := by decide +kernel
theorem tyX6_ok : ∀ k, k < 0 → parseFieldDescriptor (TX6 k).2.2.1 = some (tyX6 k) := by decide +kernel
abbrev cX6_number : ByteArray := prog_8_method_2_code
def yX6_number : MethodName := ⟨RX6, "number", "([I)V"⟩
abbrev cX6_copy : ByteArray := prog_8_method_3_code
def yX6_copy : MethodName := ⟨RX6, "copy", "([I[I)V"⟩
abbrev cX6_placeOf : ByteArray := prog_8_method_4_code
def yX6_placeOf : MethodName := ⟨RX6, "placeOf", "([III)I"⟩
abbrev cX6_decode : ByteArray := prog_8_method_9_code
def yX6_decode : MethodName := ⟨RX6, "decode", "(I[II)Z"⟩
def RX7 : String := "BallotBus$Setup"
def TX7 : u_T := fun k => match k with
  | 0 => ("BallotBus$Setup", "kinds", "I", false)
  | 1 => ("BallotBus$Setup", "kindNames", "[J", true)
  | 2 => ("BallotBus$Setup", "manners", "[I", true)
  | 3 => ("BallotBus$Setup", "askers", "I", false)
  | 4 => ("BallotBus$Setup", "askerNames", "[J", true)
  | 5 => ("BallotBus$Setup", "credits", "[I", true)
  | 6 => ("BallotBus$Setup", "weights", "[I", true)
  | 7 => ("BallotBus$Setup", "tally", "I", false)
  | 8 => ("BallotBus$Setup", "settings", "[I", true)
  | _ => ("BallotBus$Setup", "requests", "LBallotBus$Requests;", true)
def tyX7 : Nat → FieldType := fun k => match k with
  | 0 => .int
  | 1 => .array .long
  | 2 => .array .int
  | 3 => .int
  | 4 => .array .long
  | 5 => .array .int
  | 6 => .array .int
  | 7 => .int
  | 8 => .array .int
  | _ => .object "BallotBus$Requests"
theorem nmX7 : ∀ a, a < 10 → ∀ b, b < 10 → a ≠ b → (TX7 a).2.1 ≠ (TX7 b).2.1 := by decide +kernel
theorem tyX7_ok : ∀ k, k < 10 → parseFieldDescriptor (TX7 k).2.2.1 = some (tyX7 k) := by decide +kernel
abbrev cX7_init : ByteArray := prog_9_method_1_code
def yX7_init : MethodName := ⟨RX7, "<init>", "()V"⟩
abbrev cX7_clear : ByteArray := prog_9_method_2_code
def yX7_clear : MethodName := ⟨RX7, "clear", "()V"⟩
abbrev cX7_setDefaults : ByteArray := prog_9_method_3_code
def yX7_setDefaults : MethodName := ⟨RX7, "setDefaults", "()V"⟩
abbrev cX7_addKind : ByteArray := prog_9_method_4_code
def yX7_addKind : MethodName := ⟨RX7, "addKind", "(JI)V"⟩
abbrev cX7_addAsker : ByteArray := prog_9_method_5_code
def yX7_addAsker : MethodName := ⟨RX7, "addAsker", "(JII)V"⟩
abbrev cX7_kindNamed : ByteArray := prog_9_method_6_code
def yX7_kindNamed : MethodName := ⟨RX7, "kindNamed", "(J)I"⟩
abbrev cX7_askerNamed : ByteArray := prog_9_method_7_code
def yX7_askerNamed : MethodName := ⟨RX7, "askerNamed", "(J)I"⟩
def RX8 : String := "BallotBus$SetupReader"
def TX8 : u_T := fun k => match k with
  | 0 => ("BallotBus$SetupReader", "tokens", "LBallotBus$Tokens;", true)
  | 1 => ("BallotBus$SetupReader", "setup", "LBallotBus$Setup;", false)
  | 2 => ("BallotBus$SetupReader", "told", "I", false)
  | 3 => ("BallotBus$SetupReader", "code", "I", false)
  | _ => ("BallotBus$SetupReader", "offset", "I", false)
def tyX8 : Nat → FieldType := fun k => match k with
  | 0 => .object "BallotBus$Tokens"
  | 1 => .object "BallotBus$Setup"
  | 2 => .int
  | 3 => .int
  | _ => .int
theorem nmX8 : ∀ a, a < 5 → ∀ b, b < 5 → a ≠ b → (TX8 a).2.1 ≠ (TX8 b).2.1 := by decide +kernel
theorem tyX8_ok : ∀ k, k < 5 → parseFieldDescriptor (TX8 k).2.2.1 = some (tyX8 k) := by decide +kernel
abbrev cX8_init : ByteArray := prog_10_method_1_code
def yX8_init : MethodName := ⟨RX8, "<init>", "(LBallotBus$Input;)V"⟩
abbrev cX8_read : ByteArray := prog_10_method_2_code
def yX8_read : MethodName := ⟨RX8, "read", "(LBallotBus$Setup;)Z"⟩
abbrev cX8_fail : ByteArray := prog_10_method_3_code
def yX8_fail : MethodName := ⟨RX8, "fail", "(I)Z"⟩
abbrev cX8_readSemicolon : ByteArray := prog_10_method_4_code
def yX8_readSemicolon : MethodName := ⟨RX8, "readSemicolon", "()Z"⟩
abbrev cX8_readStatement : ByteArray := prog_10_method_5_code
def yX8_readStatement : MethodName := ⟨RX8, "readStatement", "()Z"⟩
abbrev cX8_readKind : ByteArray := prog_10_method_6_code
def yX8_readKind : MethodName := ⟨RX8, "readKind", "()Z"⟩
abbrev cX8_readManner : ByteArray := prog_10_method_7_code
def yX8_readManner : MethodName := ⟨RX8, "readManner", "()I"⟩
abbrev cX8_readAsker : ByteArray := prog_10_method_8_code
def yX8_readAsker : MethodName := ⟨RX8, "readAsker", "()Z"⟩
abbrev cX8_readRequest : ByteArray := prog_10_method_9_code
def yX8_readRequest : MethodName := ⟨RX8, "readRequest", "()Z"⟩
abbrev cX8_readTally : ByteArray := prog_10_method_10_code
def yX8_readTally : MethodName := ⟨RX8, "readTally", "()Z"⟩
abbrev cX8_readSetting : ByteArray := prog_10_method_11_code
def yX8_readSetting : MethodName := ⟨RX8, "readSetting", "(III)Z"⟩
abbrev cX8_readNumber : ByteArray := prog_10_method_12_code
def yX8_readNumber : MethodName := ⟨RX8, "readNumber", "(II)I"⟩
def RX9 : String := "BallotBus$State"
def TX9 : u_T := fun k => match k with
  | 0 => ("BallotBus$State", "setup", "LBallotBus$Setup;", false)
  | 1 => ("BallotBus$State", "time", "I", false)
  | 2 => ("BallotBus$State", "tally", "I", false)
  | 3 => ("BallotBus$State", "turn", "I", false)
  | 4 => ("BallotBus$State", "hasCast", "Z", false)
  | 5 => ("BallotBus$State", "vetoed", "I", false)
  | 6 => ("BallotBus$State", "votings", "I", false)
  | 7 => ("BallotBus$State", "asked", "I", false)
  | 8 => ("BallotBus$State", "answered", "I", false)
  | 9 => ("BallotBus$State", "order", "[I", true)
  | 10 => ("BallotBus$State", "manners", "[I", true)
  | 11 => ("BallotBus$State", "kindAnswers", "[I", true)
  | 12 => ("BallotBus$State", "kindWaits", "[J", true)
  | 13 => ("BallotBus$State", "ballots", "[[I", true)
  | 14 => ("BallotBus$State", "accounts", "LBallotBus$Accounts;", true)
  | 15 => ("BallotBus$State", "requests", "LBallotBus$Requests;", true)
  | _ => ("BallotBus$State", "log", "LBallotBus$AnswerLog;", true)
def tyX9 : Nat → FieldType := fun k => match k with
  | 0 => .object "BallotBus$Setup"
  | 1 => .int
  | 2 => .int
  | 3 => .int
  | 4 => .boolean
  | 5 => .int
  | 6 => .int
  | 7 => .int
  | 8 => .int
  | 9 => .array .int
  | 10 => .array .int
  | 11 => .array .int
  | 12 => .array .long
  | 13 => .array (.array .int)
  | 14 => .object "BallotBus$Accounts"
  | 15 => .object "BallotBus$Requests"
  | _ => .object "BallotBus$AnswerLog"
theorem nmX9 : ∀ a, a < 17 → ∀ b, b < 17 → a ≠ b → (TX9 a).2.1 ≠ (TX9 b).2.1 := by decide +kernel
theorem tyX9_ok : ∀ k, k < 17 → parseFieldDescriptor (TX9 k).2.2.1 = some (tyX9 k) := by decide +kernel
abbrev cX9_init : ByteArray := prog_11_method_1_code
def yX9_init : MethodName := ⟨RX9, "<init>", "(LBallotBus$Setup;)V"⟩
abbrev cX9_begin : ByteArray := prog_11_method_2_code
def yX9_begin : MethodName := ⟨RX9, "begin", "(LBallotBus$Setup;)V"⟩
abbrev cX9_copyFrom : ByteArray := prog_11_method_3_code
def yX9_copyFrom : MethodName := ⟨RX9, "copyFrom", "(LBallotBus$State;)V"⟩
abbrev cX9_isHeard : ByteArray := prog_11_method_4_code
def yX9_isHeard : MethodName := ⟨RX9, "isHeard", "(I)Z"⟩
abbrev cX9_isVetoed : ByteArray := prog_11_method_5_code
def yX9_isVetoed : MethodName := ⟨RX9, "isVetoed", "(I)Z"⟩
abbrev cX9_answersOf : ByteArray := prog_11_method_6_code
def yX9_answersOf : MethodName := ⟨RX9, "answersOf", "(I)I"⟩
abbrev cX9_firstOf : ByteArray := prog_11_method_7_code
def yX9_firstOf : MethodName := ⟨RX9, "firstOf", "(I)I"⟩
abbrev cX9_inLine : ByteArray := prog_11_method_8_code
def yX9_inLine : MethodName := ⟨RX9, "inLine", "(II)I"⟩
abbrev cX9_numberAhead : ByteArray := prog_11_method_9_code
def yX9_numberAhead : MethodName := ⟨RX9, "numberAhead", "(II)I"⟩
abbrev cX9_isInLine : ByteArray := prog_11_method_10_code
def yX9_isInLine : MethodName := ⟨RX9, "isInLine", "(II)Z"⟩
abbrev cX9_rankInLine : ByteArray := prog_11_method_11_code
def yX9_rankInLine : MethodName := ⟨RX9, "rankInLine", "(I)I"⟩
abbrev cX9_take : ByteArray := prog_11_method_12_code
def yX9_take : MethodName := ⟨RX9, "take", "(III)I"⟩
abbrev cX9_takeBallot : ByteArray := prog_11_method_13_code
def yX9_takeBallot : MethodName := ⟨RX9, "takeBallot", "([I)V"⟩
abbrev cX9_pass : ByteArray := prog_11_method_16_code
def yX9_pass : MethodName := ⟨RX9, "pass", "(ILBallotBus$Poll;)V"⟩
abbrev cX9_tick : ByteArray := prog_11_method_17_code
def yX9_tick : MethodName := ⟨RX9, "tick", "(LBallotBus$Poll;)V"⟩
abbrev cX9_isMultipleOf : ByteArray := prog_11_method_18_code
def yX9_isMultipleOf : MethodName := ⟨RX9, "isMultipleOf", "(I)Z"⟩
abbrev cX9_holdVote : ByteArray := prog_11_method_19_code
def yX9_holdVote : MethodName := ⟨RX9, "holdVote", "(LBallotBus$Poll;)V"⟩
abbrev cX9_passTurn : ByteArray := prog_11_method_20_code
def yX9_passTurn : MethodName := ⟨RX9, "passTurn", "()V"⟩
abbrev cX9_takeUp : ByteArray := prog_11_method_21_code
def yX9_takeUp : MethodName := ⟨RX9, "takeUp", "()V"⟩
abbrev cX9_work : ByteArray := prog_11_method_22_code
def yX9_work : MethodName := ⟨RX9, "work", "()V"⟩
abbrev cX9_finish : ByteArray := prog_11_method_23_code
def yX9_finish : MethodName := ⟨RX9, "finish", "(I)V"⟩
def RX10 : String := "BallotBus$Tokens"
def TX10 : u_T := fun k => match k with
  | 0 => ("BallotBus$Tokens", "text", "LBallotBus$Input;", true)
  | 1 => ("BallotBus$Tokens", "type", "I", false)
  | 2 => ("BallotBus$Tokens", "start", "I", false)
  | _ => ("BallotBus$Tokens", "end", "I", false)
def tyX10 : Nat → FieldType := fun k => match k with
  | 0 => .object "BallotBus$Input"
  | 1 => .int
  | 2 => .int
  | _ => .int
theorem nmX10 : ∀ a, a < 4 → ∀ b, b < 4 → a ≠ b → (TX10 a).2.1 ≠ (TX10 b).2.1 := by decide +kernel
theorem tyX10_ok : ∀ k, k < 4 → parseFieldDescriptor (TX10 k).2.2.1 = some (tyX10 k) := by decide +kernel
abbrev cX10_init : ByteArray := prog_12_method_1_code
def yX10_init : MethodName := ⟨RX10, "<init>", "(LBallotBus$Input;)V"⟩
abbrev cX10_open : ByteArray := prog_12_method_2_code
def yX10_open : MethodName := ⟨RX10, "open", "()V"⟩
abbrev cX10_advance : ByteArray := prog_12_method_3_code
def yX10_advance : MethodName := ⟨RX10, "advance", "()V"⟩
abbrev cX10_size : ByteArray := prog_12_method_4_code
def yX10_size : MethodName := ⟨RX10, "size", "()I"⟩
abbrev cX10_is : ByteArray := prog_12_method_5_code
def yX10_is : MethodName := ⟨RX10, "is", "(Ljava/lang/String;)Z"⟩
abbrev cX10_isName : ByteArray := prog_12_method_6_code
def yX10_isName : MethodName := ⟨RX10, "isName", "()Z"⟩
abbrev cX10_isQuoted : ByteArray := prog_12_method_7_code
def yX10_isQuoted : MethodName := ⟨RX10, "isQuoted", "()Z"⟩
abbrev cX10_name : ByteArray := prog_12_method_8_code
def yX10_name : MethodName := ⟨RX10, "name", "()J"⟩
abbrev cX10_isNumber : ByteArray := prog_12_method_9_code
def yX10_isNumber : MethodName := ⟨RX10, "isNumber", "()Z"⟩
abbrev cX10_number : ByteArray := prog_12_method_10_code
def yX10_number : MethodName := ⟨RX10, "number", "()I"⟩
def RX11 : String := "BallotBus"
def TX11 : u_T := fun k => match k with
  | 0 => ("BallotBus", "input", "LBallotBus$Input;", true)
  | 1 => ("BallotBus", "reader", "LBallotBus$SetupReader;", true)
  | 2 => ("BallotBus", "output", "[B", true)
  | 3 => ("BallotBus", "outputLength", "I", false)
  | 4 => ("BallotBus", "faultCode", "I", false)
  | 5 => ("BallotBus", "faultOffset", "I", false)
  | 6 => ("BallotBus", "setup", "LBallotBus$Setup;", false)
  | 7 => ("BallotBus", "draft", "LBallotBus$Setup;", false)
  | 8 => ("BallotBus", "state", "LBallotBus$State;", true)
  | 9 => ("BallotBus", "trial", "LBallotBus$State;", true)
  | 10 => ("BallotBus", "saved", "LBallotBus$State;", true)
  | 11 => ("BallotBus", "hasSaved", "Z", false)
  | 12 => ("BallotBus", "history", "LBallotBus$History;", true)
  | 13 => ("BallotBus", "poll", "LBallotBus$Poll;", true)
  | 14 => ("BallotBus", "firstRow", "[I", true)
  | _ => ("BallotBus", "secondRow", "[I", true)
def tyX11 : Nat → FieldType := fun k => match k with
  | 0 => .object "BallotBus$Input"
  | 1 => .object "BallotBus$SetupReader"
  | 2 => .array .byte
  | 3 => .int
  | 4 => .int
  | 5 => .int
  | 6 => .object "BallotBus$Setup"
  | 7 => .object "BallotBus$Setup"
  | 8 => .object "BallotBus$State"
  | 9 => .object "BallotBus$State"
  | 10 => .object "BallotBus$State"
  | 11 => .boolean
  | 12 => .object "BallotBus$History"
  | 13 => .object "BallotBus$Poll"
  | 14 => .array .int
  | _ => .array .int
theorem nmX11 : ∀ a, a < 16 → ∀ b, b < 16 → a ≠ b → (TX11 a).2.1 ≠ (TX11 b).2.1 := by decide +kernel
theorem tyX11_ok : ∀ k, k < 16 → parseFieldDescriptor (TX11 k).2.2.1 = some (tyX11 k) := by decide +kernel
abbrev cX11_init : ByteArray := prog_1_method_1_code
def yX11_init : MethodName := ⟨RX11, "<init>", "()V"⟩
abbrev cX11_feed : ByteArray := prog_1_method_2_code
def yX11_feed : MethodName := ⟨RX11, "feed", "(IIIII)I"⟩
abbrev cX11_truncate : ByteArray := prog_1_method_3_code
def yX11_truncate : MethodName := ⟨RX11, "truncate", "(I)Z"⟩
abbrev cX11_parse : ByteArray := prog_1_method_4_code
def yX11_parse : MethodName := ⟨RX11, "parse", "()I"⟩
abbrev cX11_count : ByteArray := prog_1_method_7_code
def yX11_count : MethodName := ⟨RX11, "count", "(I)I"⟩
abbrev cX11_asker : ByteArray := prog_1_method_9_code
def yX11_asker : MethodName := ⟨RX11, "asker", "(II)I"⟩
abbrev cX11_kind : ByteArray := prog_1_method_10_code
def yX11_kind : MethodName := ⟨RX11, "kind", "(II)I"⟩
abbrev cX11_order : ByteArray := prog_1_method_12_code
def yX11_order : MethodName := ⟨RX11, "order", "(I)I"⟩
abbrev cX11_request : ByteArray := prog_1_method_13_code
def yX11_request : MethodName := ⟨RX11, "request", "(II)I"⟩
abbrev cX11_line : ByteArray := prog_1_method_14_code
def yX11_line : MethodName := ⟨RX11, "line", "(II)I"⟩
abbrev cX11_progress : ByteArray := prog_1_method_15_code
def yX11_progress : MethodName := ⟨RX11, "progress", "()I"⟩
abbrev cX11_points : ByteArray := prog_1_method_17_code
def yX11_points : MethodName := ⟨RX11, "points", "(I)I"⟩
abbrev cX11_wins : ByteArray := prog_1_method_20_code
def yX11_wins : MethodName := ⟨RX11, "wins", "(I)I"⟩
abbrev cX11_champion : ByteArray := prog_1_method_21_code
def yX11_champion : MethodName := ⟨RX11, "champion", "()I"⟩
abbrev cX11_voted : ByteArray := prog_1_method_22_code
def yX11_voted : MethodName := ⟨RX11, "voted", "(II)I"⟩
abbrev cX11_debts : ByteArray := prog_1_method_30_code
def yX11_debts : MethodName := ⟨RX11, "debts", "()I"⟩
abbrev cX11_run : ByteArray := prog_1_method_32_code
def yX11_run : MethodName := ⟨RX11, "run", "(I)I"⟩
abbrev cX11_ask : ByteArray := prog_1_method_33_code
def yX11_ask : MethodName := ⟨RX11, "ask", "(III)I"⟩
abbrev cX11_cast : ByteArray := prog_1_method_35_code
def yX11_cast : MethodName := ⟨RX11, "cast", "(I)I"⟩
abbrev cX11_payBack : ByteArray := prog_1_method_37_code
def yX11_payBack : MethodName := ⟨RX11, "payBack", "(I)I"⟩
abbrev cX11_setTally : ByteArray := prog_1_method_38_code
def yX11_setTally : MethodName := ⟨RX11, "setTally", "(I)I"⟩
abbrev cX11_setManner : ByteArray := prog_1_method_39_code
def yX11_setManner : MethodName := ⟨RX11, "setManner", "(II)I"⟩
abbrev cX11_undo : ByteArray := prog_1_method_40_code
def yX11_undo : MethodName := ⟨RX11, "undo", "()I"⟩
abbrev cX11_answersIn : ByteArray := prog_1_method_42_code
def yX11_answersIn : MethodName := ⟨RX11, "answersIn", "(II)I"⟩
abbrev cX11_bestTally : ByteArray := prog_1_method_44_code
def yX11_bestTally : MethodName := ⟨RX11, "bestTally", "(I)I"⟩
abbrev cX11_emptyIn : ByteArray := prog_1_method_47_code
def yX11_emptyIn : MethodName := ⟨RX11, "emptyIn", "()I"⟩
abbrev cX11_saveState : ByteArray := prog_1_method_50_code
def yX11_saveState : MethodName := ⟨RX11, "saveState", "()I"⟩
abbrev cX11_restoreState : ByteArray := prog_1_method_51_code
def yX11_restoreState : MethodName := ⟨RX11, "restoreState", "()I"⟩
abbrev cX11_checkAsker : ByteArray := prog_1_method_52_code
def yX11_checkAsker : MethodName := ⟨RX11, "checkAsker", "(I)V"⟩
abbrev cX11_checkKind : ByteArray := prog_1_method_53_code
def yX11_checkKind : MethodName := ⟨RX11, "checkKind", "(I)V"⟩
abbrev cX11_checkTally : ByteArray := prog_1_method_54_code
def yX11_checkTally : MethodName := ⟨RX11, "checkTally", "(I)V"⟩
abbrev cX11_checkTicks : ByteArray := prog_1_method_55_code
def yX11_checkTicks : MethodName := ⟨RX11, "checkTicks", "(II)V"⟩
abbrev cX11_indexOfRequest : ByteArray := prog_1_method_56_code
def yX11_indexOfRequest : MethodName := ⟨RX11, "indexOfRequest", "(I)I"⟩
abbrev cX11_voteNow : ByteArray := prog_1_method_57_code
def yX11_voteNow : MethodName := ⟨RX11, "voteNow", "(II[I)V"⟩
def RX12 : String := "BallotBusModel"
def TX12 : u_T := fun k => match k with
  | _ => ("", "", "", false)
def tyX12 : Nat → FieldType := fun k => match k with
  | _ => .int
theorem nmX12 : ∀ a, a < 0 → ∀ b, b < 0 → a ≠ b → (TX12 a).2.1 ≠ (TX12 b).2.1 := by decide +kernel
theorem tyX12_ok : ∀ k, k < 0 → parseFieldDescriptor (TX12 k).2.2.1 = some (tyX12 k) := by decide +kernel
def RJx145de : String := "java/io/Serializable"
def TJx145de : u_T := fun k => match k with
  | _ => ("", "", "", false)
def tyJx145de : Nat → FieldType := fun k => match k with
  | _ => .int
def RJ5 : String := "java/lang/AbstractStringBuilder"
def TJ5 : u_T := fun k => match k with
  | _ => ("", "", "", false)
def tyJ5 : Nat → FieldType := fun k => match k with
  | _ => .int
abbrev cJ5_init_d00df : ByteArray := prog_16_method_2_code
def yJ5_init_d00df : MethodName := ⟨RJ5, "<init>", "(I)V"⟩
abbrev cJ5_length_8abf5 : ByteArray := prog_16_method_6_code
def yJ5_length_8abf5 : MethodName := ⟨RJ5, "length", "()I"⟩
abbrev cJ5_ensureCapacityInternal_d00df : ByteArray := prog_16_method_9_code
def yJ5_ensureCapacityInternal_d00df : MethodName := ⟨RJ5, "ensureCapacityInternal", "(I)V"⟩
abbrev cJ5_newCapacity_0f7a4 : ByteArray := prog_16_method_10_code
def yJ5_newCapacity_0f7a4 : MethodName := ⟨RJ5, "newCapacity", "(I)I"⟩
abbrev cJ5_inflate_da8c8 : ByteArray := prog_16_method_11_code
def yJ5_inflate_da8c8 : MethodName := ⟨RJ5, "inflate", "()V"⟩
abbrev cJ5_append_cf1ce : ByteArray := prog_16_method_22_code
def yJ5_append_cf1ce : MethodName := ⟨RJ5, "append", "(Ljava/lang/String;)Ljava/lang/AbstractStringBuilder;"⟩
abbrev cJ5_appendNull_278bc : ByteArray := prog_16_method_26_code
def yJ5_appendNull_278bc : MethodName := ⟨RJ5, "appendNull", "()Ljava/lang/AbstractStringBuilder;"⟩
abbrev cJ5_append_3fe6f : ByteArray := prog_16_method_31_code
def yJ5_append_3fe6f : MethodName := ⟨RJ5, "append", "(C)Ljava/lang/AbstractStringBuilder;"⟩
abbrev cJ5_append_c97b9 : ByteArray := prog_16_method_32_code
def yJ5_append_c97b9 : MethodName := ⟨RJ5, "append", "(I)Ljava/lang/AbstractStringBuilder;"⟩
abbrev cJ5_getValue_6d5f1 : ByteArray := prog_16_method_64_code
def yJ5_getValue_6d5f1 : MethodName := ⟨RJ5, "getValue", "()[B"⟩
abbrev cJ5_isLatin1_aae02 : ByteArray := prog_16_method_68_code
def yJ5_isLatin1_aae02 : MethodName := ⟨RJ5, "isLatin1", "()Z"⟩
abbrev cJ5_inflateIfNeededFor_a7421 : ByteArray := prog_16_method_71_code
def yJ5_inflateIfNeededFor_a7421 : MethodName := ⟨RJ5, "inflateIfNeededFor", "(Ljava/lang/String;)V"⟩
abbrev cJ5_putStringAt_47b60 : ByteArray := prog_16_method_73_code
def yJ5_putStringAt_47b60 : MethodName := ⟨RJ5, "putStringAt", "(ILjava/lang/String;)V"⟩
def RJx2cfe8 : String := "java/lang/Appendable"
def TJx2cfe8 : u_T := fun k => match k with
  | _ => ("", "", "", false)
def tyJx2cfe8 : Nat → FieldType := fun k => match k with
  | _ => .int
def RJx9f9b0 : String := "java/lang/CharSequence"
def TJx9f9b0 : u_T := fun k => match k with
  | _ => ("", "", "", false)
def tyJx9f9b0 : Nat → FieldType := fun k => match k with
  | _ => .int
def RJx8e188 : String := "java/lang/Cloneable"
def TJx8e188 : u_T := fun k => match k with
  | _ => ("", "", "", false)
def tyJx8e188 : Nat → FieldType := fun k => match k with
  | _ => .int
def RJxb160c : String := "java/lang/Comparable"
def TJxb160c : u_T := fun k => match k with
  | _ => ("", "", "", false)
def tyJxb160c : Nat → FieldType := fun k => match k with
  | _ => .int
def RJ6 : String := "java/lang/Integer"
def TJ6 : u_T := fun k => match k with
  | _ => ("", "", "", false)
def tyJ6 : Nat → FieldType := fun k => match k with
  | _ => .int
abbrev cJ6_getChars_ba4f3 : ByteArray := prog_25_method_12_code
def yJ6_getChars_ba4f3 : MethodName := ⟨RJ6, "getChars", "(II[B)I"⟩
abbrev cJ6_stringSize_0f7a4 : ByteArray := prog_25_method_13_code
def yJ6_stringSize_0f7a4 : MethodName := ⟨RJ6, "stringSize", "(I)I"⟩
def RJ9 : String := "java/lang/Math"
def TJ9 : u_T := fun k => match k with
  | _ => ("", "", "", false)
def tyJ9 : Nat → FieldType := fun k => match k with
  | _ => .int
abbrev cJ9_max_7cf53 : ByteArray := prog_26_method_65_code
def yJ9_max_7cf53 : MethodName := ⟨RJ9, "max", "(II)I"⟩
abbrev cJ9_min_7cf53 : ByteArray := prog_26_method_69_code
def yJ9_min_7cf53 : MethodName := ⟨RJ9, "min", "(II)I"⟩
def RJxd2413 : String := "java/lang/Number"
def TJxd2413 : u_T := fun k => match k with
  | _ => ("", "", "", false)
def tyJxd2413 : Nat → FieldType := fun k => match k with
  | _ => .int
def RJ0 : String := "java/lang/String"
def TJ0 : u_T := fun k => match k with
  | 0 => ("java/lang/String", "value", "[B", true)
  | 1 => ("java/lang/String", "coder", "B", true)
  | 2 => ("java/lang/String", "hash", "I", false)
  | _ => ("java/lang/String", "hashIsZero", "Z", false)
def tyJ0 : Nat → FieldType := fun k => match k with
  | 0 => .array .byte
  | 1 => .byte
  | 2 => .int
  | _ => .boolean
abbrev cJ0_init_81219 : ByteArray := prog_29_method_53_code
def yJ0_init_81219 : MethodName := ⟨RJ0, "<init>", "(Ljava/lang/StringBuilder;)V"⟩
abbrev cJ0_length_8abf5 : ByteArray := prog_29_method_54_code
def yJ0_length_8abf5 : MethodName := ⟨RJ0, "length", "()I"⟩
abbrev cJ0_charAt_5068e : ByteArray := prog_29_method_56_code
def yJ0_charAt_5068e : MethodName := ⟨RJ0, "charAt", "(I)C"⟩
abbrev cJ0_getBytes_840e7 : ByteArray := prog_29_method_147_code
def yJ0_getBytes_840e7 : MethodName := ⟨RJ0, "getBytes", "([BIB)V"⟩
abbrev cJ0_init_db425 : ByteArray := prog_29_method_150_code
def yJ0_init_db425 : MethodName := ⟨RJ0, "<init>", "(Ljava/lang/AbstractStringBuilder;Ljava/lang/Void;)V"⟩
abbrev cJ0_coder_7d493 : ByteArray := prog_29_method_152_code
def yJ0_coder_7d493 : MethodName := ⟨RJ0, "coder", "()B"⟩
abbrev cJ0_isLatin1_aae02 : ByteArray := prog_29_method_154_code
def yJ0_isLatin1_aae02 : MethodName := ⟨RJ0, "isLatin1", "()Z"⟩
abbrev cJ0_checkIndex_df160 : ByteArray := prog_29_method_155_code
def yJ0_checkIndex_df160 : MethodName := ⟨RJ0, "checkIndex", "(II)V"⟩
abbrev cJ0_checkBoundsOffCount_cabcc : ByteArray := prog_29_method_157_code
def yJ0_checkBoundsOffCount_cabcc : MethodName := ⟨RJ0, "checkBoundsOffCount", "(III)I"⟩
abbrev cJ0_checkBoundsBeginEnd_23922 : ByteArray := prog_29_method_158_code
def yJ0_checkBoundsBeginEnd_23922 : MethodName := ⟨RJ0, "checkBoundsBeginEnd", "(III)V"⟩
def RJ4 : String := "java/lang/StringBuilder"
def TJ4 : u_T := fun k => match k with
  | 0 => ("java/lang/AbstractStringBuilder", "value", "[B", false)
  | 1 => ("java/lang/AbstractStringBuilder", "coder", "B", false)
  | 2 => ("java/lang/AbstractStringBuilder", "maybeLatin1", "Z", false)
  | _ => ("java/lang/AbstractStringBuilder", "count", "I", false)
def tyJ4 : Nat → FieldType := fun k => match k with
  | 0 => .array .byte
  | 1 => .byte
  | 2 => .boolean
  | _ => .int
abbrev cJ4_init_da8c8 : ByteArray := prog_30_method_1_code
def yJ4_init_da8c8 : MethodName := ⟨RJ4, "<init>", "()V"⟩
abbrev cJ4_append_15ec4 : ByteArray := prog_30_method_7_code
def yJ4_append_15ec4 : MethodName := ⟨RJ4, "append", "(Ljava/lang/String;)Ljava/lang/StringBuilder;"⟩
abbrev cJ4_append_cf468 : ByteArray := prog_30_method_14_code
def yJ4_append_cf468 : MethodName := ⟨RJ4, "append", "(C)Ljava/lang/StringBuilder;"⟩
abbrev cJ4_append_bf812 : ByteArray := prog_30_method_15_code
def yJ4_append_bf812 : MethodName := ⟨RJ4, "append", "(I)Ljava/lang/StringBuilder;"⟩
abbrev cJ4_toString_0e30d : ByteArray := prog_30_method_42_code
def yJ4_toString_0e30d : MethodName := ⟨RJ4, "toString", "()Ljava/lang/String;"⟩
abbrev cJ4_length_8abf5 : ByteArray := prog_30_method_93_code
def yJ4_length_8abf5 : MethodName := ⟨RJ4, "length", "()I"⟩
def RJ1 : String := "java/lang/StringLatin1"
def TJ1 : u_T := fun k => match k with
  | _ => ("", "", "", false)
def tyJ1 : Nat → FieldType := fun k => match k with
  | _ => .int
abbrev cJ1_charAt_3b067 : ByteArray := prog_31_method_2_code
def yJ1_charAt_3b067 : MethodName := ⟨RJ1, "charAt", "([BI)C"⟩
abbrev cJ1_canEncode_fc78d : ByteArray := prog_31_method_3_code
def yJ1_canEncode_fc78d : MethodName := ⟨RJ1, "canEncode", "(C)Z"⟩
abbrev cJ1_inflate_0e8fd : ByteArray := prog_31_method_50_code
def yJ1_inflate_0e8fd : MethodName := ⟨RJ1, "inflate", "([BI[BII)V"⟩
def RJ2 : String := "java/lang/StringUTF16"
def TJ2 : u_T := fun k => match k with
  | _ => ("", "", "", false)
def tyJ2 : Nat → FieldType := fun k => match k with
  | _ => .int
abbrev cJ2_newBytesFor_77867 : ByteArray := prog_32_method_2_code
def yJ2_newBytesFor_77867 : MethodName := ⟨RJ2, "newBytesFor", "(I)[B"⟩
abbrev cJ2_newBytesLength_0f7a4 : ByteArray := prog_32_method_3_code
def yJ2_newBytesLength_0f7a4 : MethodName := ⟨RJ2, "newBytesLength", "(I)I"⟩
abbrev cJ2_putChar_b72d1 : ByteArray := prog_32_method_4_code
def yJ2_putChar_b72d1 : MethodName := ⟨RJ2, "putChar", "([BII)V"⟩
abbrev cJ2_getChar_3b067 : ByteArray := prog_32_method_5_code
def yJ2_getChar_3b067 : MethodName := ⟨RJ2, "getChar", "([BI)C"⟩
abbrev cJ2_length_9d52b : ByteArray := prog_32_method_6_code
def yJ2_length_9d52b : MethodName := ⟨RJ2, "length", "([B)I"⟩
abbrev cJ2_coderFromArrayLen_85cad : ByteArray := prog_32_method_15_code
def yJ2_coderFromArrayLen_85cad : MethodName := ⟨RJ2, "coderFromArrayLen", "([BI)B"⟩
abbrev cJ2_compress_39247 : ByteArray := prog_32_method_17_code
def yJ2_compress_39247 : MethodName := ⟨RJ2, "compress", "([BII)[B"⟩
abbrev cJ2_compress_5af95 : ByteArray := prog_32_method_22_code
def yJ2_compress_5af95 : MethodName := ⟨RJ2, "compress", "([BI[BII)I"⟩
abbrev cJ2_putCharSB_b72d1 : ByteArray := prog_32_method_71_code
def yJ2_putCharSB_b72d1 : MethodName := ⟨RJ2, "putCharSB", "([BII)V"⟩
abbrev cJ2_getChars_46870 : ByteArray := prog_32_method_77_code
def yJ2_getChars_46870 : MethodName := ⟨RJ2, "getChars", "(III[B)I"⟩
abbrev cJ2_putCharsAt_cd4e5 : ByteArray := prog_32_method_81_code
def yJ2_putCharsAt_cd4e5 : MethodName := ⟨RJ2, "putCharsAt", "([BICCCC)I"⟩
abbrev cJ2_charAt_3b067 : ByteArray := prog_32_method_83_code
def yJ2_charAt_3b067 : MethodName := ⟨RJ2, "charAt", "([BI)C"⟩
abbrev cJ2_inflate_0e8fd : ByteArray := prog_32_method_86_code
def yJ2_inflate_0e8fd : MethodName := ⟨RJ2, "inflate", "([BI[BII)V"⟩
abbrev cJ2_getChars_ba4f3 : ByteArray := prog_32_method_89_code
def yJ2_getChars_ba4f3 : MethodName := ⟨RJ2, "getChars", "(II[B)I"⟩
abbrev cJ2_checkIndex_2214a : ByteArray := prog_32_method_91_code
def yJ2_checkIndex_2214a : MethodName := ⟨RJ2, "checkIndex", "(I[B)V"⟩
abbrev cJ2_checkBoundsBeginEnd_d044e : ByteArray := prog_32_method_93_code
def yJ2_checkBoundsBeginEnd_d044e : MethodName := ⟨RJ2, "checkBoundsBeginEnd", "(II[B)V"⟩
abbrev cJ2_checkBoundsOffCount_d044e : ByteArray := prog_32_method_94_code
def yJ2_checkBoundsOffCount_d044e : MethodName := ⟨RJ2, "checkBoundsOffCount", "(II[B)V"⟩
def RJ10 : String := "java/lang/System"
def TJ10 : u_T := fun k => match k with
  | _ => ("", "", "", false)
def tyJ10 : Nat → FieldType := fun k => match k with
  | _ => .int
def RJxfd54e : String := "java/lang/constant/Constable"
def TJxfd54e : u_T := fun k => match k with
  | _ => ("", "", "", false)
def tyJxfd54e : Nat → FieldType := fun k => match k with
  | _ => .int
def RJx3cf43 : String := "java/lang/constant/ConstantDesc"
def TJx3cf43 : u_T := fun k => match k with
  | _ => ("", "", "", false)
def tyJx3cf43 : Nat → FieldType := fun k => match k with
  | _ => .int
def RJ7 : String := "java/util/Arrays"
def TJ7 : u_T := fun k => match k with
  | _ => ("", "", "", false)
def tyJ7 : Nat → FieldType := fun k => match k with
  | _ => .int
abbrev cJ7_copyOf_9075b : ByteArray := prog_37_method_121_code
def yJ7_copyOf_9075b : MethodName := ⟨RJ7, "copyOf", "([BI)[B"⟩
abbrev cJ7_checkLength_df160 : ByteArray := prog_37_method_131_code
def yJ7_checkLength_df160 : MethodName := ⟨RJ7, "checkLength", "(II)V"⟩
abbrev cJ7_copyOfRange_39247 : ByteArray := prog_37_method_132_code
def yJ7_copyOfRange_39247 : MethodName := ⟨RJ7, "copyOfRange", "([BII)[B"⟩
abbrev cJ7_copyOfRangeByte_39247 : ByteArray := prog_37_method_133_code
def yJ7_copyOfRangeByte_39247 : MethodName := ⟨RJ7, "copyOfRangeByte", "([BII)[B"⟩
def RJ8 : String := "jdk/internal/util/ArraysSupport"
def TJ8 : u_T := fun k => match k with
  | _ => ("", "", "", false)
def tyJ8 : Nat → FieldType := fun k => match k with
  | _ => .int
abbrev cJ8_newLength_cabcc : ByteArray := prog_39_method_27_code
def yJ8_newLength_cabcc : MethodName := ⟨RJ8, "newLength", "(III)I"⟩
abbrev cJ8_hugeLength_7cf53 : ByteArray := prog_39_method_28_code
def yJ8_hugeLength_7cf53 : MethodName := ⟨RJ8, "hugeLength", "(II)I"⟩
def RJ3 : String := "jdk/internal/util/Preconditions"
def TJ3 : u_T := fun k => match k with
  | _ => ("", "", "", false)
def tyJ3 : Nat → FieldType := fun k => match k with
  | _ => .int
abbrev cJ3_checkIndex_8e157 : ByteArray := prog_40_method_11_code
def yJ3_checkIndex_8e157 : MethodName := ⟨RJ3, "checkIndex", "(IILjava/util/function/BiFunction;)I"⟩
abbrev cJ3_checkFromToIndex_8c36e : ByteArray := prog_40_method_12_code
def yJ3_checkFromToIndex_8c36e : MethodName := ⟨RJ3, "checkFromToIndex", "(IIILjava/util/function/BiFunction;)I"⟩
abbrev cJ3_checkFromIndexSize_8c36e : ByteArray := prog_40_method_13_code
def yJ3_checkFromIndexSize_8c36e : MethodName := ⟨RJ3, "checkFromIndexSize", "(IIILjava/util/function/BiFunction;)I"⟩
def RL : String := "BallotBusLaw"
abbrev cL_cell : ByteArray := method_2_code
def yL_cell : MethodName := ⟨RL, "cell", "([II)I"⟩
abbrev cL_draw : ByteArray := method_3_code
def yL_draw : MethodName := ⟨RL, "draw", "([IIII)I"⟩
abbrev cL_feed : ByteArray := method_4_code
def yL_feed : MethodName := ⟨RL, "feed", "(LBallotBus;Ljava/lang/String;)V"⟩
abbrev cL_parsed : ByteArray := method_5_code
def yL_parsed : MethodName := ⟨RL, "parsed", "(LBallotBus;Ljava/lang/String;)I"⟩
abbrev cL_manner : ByteArray := method_6_code
def yL_manner : MethodName := ⟨RL, "manner", "(I)Ljava/lang/String;"⟩
abbrev cL_setup : ByteArray := method_7_code
def yL_setup : MethodName := ⟨RL, "setup", "([III)Ljava/lang/String;"⟩
abbrev cL_ballot : ByteArray := method_8_code
def yL_ballot : MethodName := ⟨RL, "ballot", "([III)I"⟩
abbrev cL_act : ByteArray := method_9_code
def yL_act : MethodName := ⟨RL, "act", "(LBallotBus;[IIII)I"⟩
abbrev cL_isSound : ByteArray := method_10_code
def yL_isSound : MethodName := ⟨RL, "isSound", "(LBallotBus;II)Z"⟩
abbrev cL_law : ByteArray := code
def yL_law : MethodName := ⟨RL, "law", "([I)Z"⟩
abbrev vwCl : List vw_C := [(RJ0, TJ0, 4), (RJ4, TJ4, 4), (RX0, TX0, 6), (RX1, TX1, 3), (RX2, TX2, 3), (RX3, TX3, 2), (RX4, TX4, 6), (RX5, TX5, 3), (RX7, TX7, 10), (RX8, TX8, 5), (RX9, TX9, 17), (RX10, TX10, 4), (RX11, TX11, 16)]
