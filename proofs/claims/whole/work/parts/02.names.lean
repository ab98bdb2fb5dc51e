def RX0 : String := "BettingBook$Bet"
def TX0 : u_T := fun k => match k with
  | 0 => ("BettingBook$Bet", "one", "I", true)
  | 1 => ("BettingBook$Bet", "other", "I", true)
  | 2 => ("BettingBook$Bet", "coin", "I", true)
  | 3 => ("BettingBook$Bet", "otherCoin", "I", true)
  | 4 => ("BettingBook$Bet", "that", "LBettingBook$Claim;", true)
  | 5 => ("BettingBook$Bet", "off", "LBettingBook$Claim;", true)
  | _ => ("BettingBook$Bet", "twice", "LBettingBook$Claim;", true)
def tyX0 : Nat → FieldType := fun k => match k with
  | 0 => .int
  | 1 => .int
  | 2 => .int
  | 3 => .int
  | 4 => .object "BettingBook$Claim"
  | 5 => .object "BettingBook$Claim"
  | _ => .object "BettingBook$Claim"
abbrev wsX00 : List Cond := u_ws RX0 TX0 7
theorem nmX0 : ∀ a, a < 7 → ∀ b, b < 7 → a ≠ b → (TX0 a).2.1 ≠ (TX0 b).2.1 := by decide +kernel
theorem tyX0_ok : ∀ k, k < 7 → parseFieldDescriptor (TX0 k).2.2.1 = some (tyX0 k) := by decide +kernel
abbrev cX0_init : ByteArray := prog_2_method_1_code
def yX0_init : MethodName := ⟨RX0, "<init>", "(IIIILBettingBook$Claim;LBettingBook$Claim;LBettingBook$Claim;)V"⟩
abbrev cX0_stake : ByteArray := prog_2_method_2_code
def yX0_stake : MethodName := ⟨RX0, "stake", "(I)I"⟩
abbrev cX0_outcomeIn : ByteArray := prog_2_method_3_code
def yX0_outcomeIn : MethodName := ⟨RX0, "outcomeIn", "([I)I"⟩
abbrev cX0_coinOf : ByteArray := prog_2_method_4_code
def yX0_coinOf : MethodName := ⟨RX0, "coinOf", "(I)I"⟩
def RX1 : String := "BettingBook$Claim"
def TX1 : u_T := fun k => match k with
  | 0 => ("BettingBook$Claim", "kind", "I", true)
  | 1 => ("BettingBook$Claim", "what", "I", true)
  | 2 => ("BettingBook$Claim", "by", "I", true)
  | 3 => ("BettingBook$Claim", "parts", "LBettingBook$Claim;", true)
  | _ => ("BettingBook$Claim", "next", "LBettingBook$Claim;", false)
def tyX1 : Nat → FieldType := fun k => match k with
  | 0 => .int
  | 1 => .int
  | 2 => .int
  | 3 => .object "BettingBook$Claim"
  | _ => .object "BettingBook$Claim"
abbrev wsX10 : List Cond := u_ws RX1 TX1 5
theorem nmX1 : ∀ a, a < 5 → ∀ b, b < 5 → a ≠ b → (TX1 a).2.1 ≠ (TX1 b).2.1 := by decide +kernel
theorem tyX1_ok : ∀ k, k < 5 → parseFieldDescriptor (TX1 k).2.2.1 = some (tyX1 k) := by decide +kernel
abbrev cX1_init : ByteArray := prog_3_method_1_code
def yX1_init : MethodName := ⟨RX1, "<init>", "(IIILBettingBook$Claim;)V"⟩
abbrev cX1_of : ByteArray := prog_3_method_2_code
def yX1_of : MethodName := ⟨RX1, "of", "(III)LBettingBook$Claim;"⟩
abbrev cX1_over : ByteArray := prog_3_method_3_code
def yX1_over : MethodName := ⟨RX1, "over", "(ILBettingBook$Claim;)LBettingBook$Claim;"⟩
abbrev cX1_isTrue : ByteArray := prog_3_method_4_code
def yX1_isTrue : MethodName := ⟨RX1, "isTrue", "(LBettingBook$Claim;[II)Z"⟩
abbrev cX1_comesBy : ByteArray := prog_3_method_5_code
def yX1_comesBy : MethodName := ⟨RX1, "comesBy", "(II)Z"⟩
abbrev cX1_comesBefore : ByteArray := prog_3_method_6_code
def yX1_comesBefore : MethodName := ⟨RX1, "comesBefore", "(II)Z"⟩
abbrev cX1_countBy : ByteArray := prog_3_method_7_code
def yX1_countBy : MethodName := ⟨RX1, "countBy", "([II)I"⟩
def RX2 : String := "BettingBook$Club"
def TX2 : u_T := fun k => match k with
  | 0 => ("BettingBook$Club", "things", "I", false)
  | 1 => ("BettingBook$Club", "members", "I", false)
  | 2 => ("BettingBook$Club", "betCount", "I", false)
  | 3 => ("BettingBook$Club", "ruleCount", "I", false)
  | 4 => ("BettingBook$Club", "statements", "I", false)
  | 5 => ("BettingBook$Club", "thingNames", "[J", true)
  | 6 => ("BettingBook$Club", "from", "[I", true)
  | 7 => ("BettingBook$Club", "until", "[I", true)
  | 8 => ("BettingBook$Club", "memberNames", "[J", true)
  | 9 => ("BettingBook$Club", "ruleFirst", "[I", true)
  | 10 => ("BettingBook$Club", "ruleSecond", "[I", true)
  | 11 => ("BettingBook$Club", "ruleDays", "[I", true)
  | _ => ("BettingBook$Club", "bets", "[LBettingBook$Bet;", true)
def tyX2 : Nat → FieldType := fun k => match k with
  | 0 => .int
  | 1 => .int
  | 2 => .int
  | 3 => .int
  | 4 => .int
  | 5 => .array .long
  | 6 => .array .int
  | 7 => .array .int
  | 8 => .array .long
  | 9 => .array .int
  | 10 => .array .int
  | 11 => .array .int
  | _ => .array (.object "BettingBook$Bet")
abbrev wsX20 : List Cond := u_ws RX2 TX2 13
theorem nmX2 : ∀ a, a < 13 → ∀ b, b < 13 → a ≠ b → (TX2 a).2.1 ≠ (TX2 b).2.1 := by decide +kernel
theorem tyX2_ok : ∀ k, k < 13 → parseFieldDescriptor (TX2 k).2.2.1 = some (tyX2 k) := by decide +kernel
abbrev cX2_init : ByteArray := prog_4_method_1_code
def yX2_init : MethodName := ⟨RX2, "<init>", "()V"⟩
abbrev cX2_hasThing : ByteArray := prog_4_method_2_code
def yX2_hasThing : MethodName := ⟨RX2, "hasThing", "(I)Z"⟩
abbrev cX2_hasMember : ByteArray := prog_4_method_3_code
def yX2_hasMember : MethodName := ⟨RX2, "hasMember", "(I)Z"⟩
abbrev cX2_betAt : ByteArray := prog_4_method_4_code
def yX2_betAt : MethodName := ⟨RX2, "betAt", "(I)LBettingBook$Bet;"⟩
abbrev cX2_isFree : ByteArray := prog_4_method_5_code
def yX2_isFree : MethodName := ⟨RX2, "isFree", "(J)Z"⟩
abbrev cX2_addThing : ByteArray := prog_4_method_6_code
def yX2_addThing : MethodName := ⟨RX2, "addThing", "(JII)V"⟩
abbrev cX2_addMember : ByteArray := prog_4_method_7_code
def yX2_addMember : MethodName := ⟨RX2, "addMember", "(J)V"⟩
abbrev cX2_addRule : ByteArray := prog_4_method_8_code
def yX2_addRule : MethodName := ⟨RX2, "addRule", "(III)V"⟩
abbrev cX2_addBet : ByteArray := prog_4_method_9_code
def yX2_addBet : MethodName := ⟨RX2, "addBet", "(LBettingBook$Bet;)V"⟩
abbrev cX2_cellOf : ByteArray := prog_4_method_10_code
def yX2_cellOf : MethodName := ⟨RX2, "cellOf", "([I)J"⟩
abbrev cX2_isInTime : ByteArray := prog_4_method_11_code
def yX2_isInTime : MethodName := ⟨RX2, "isInTime", "([I)Z"⟩
abbrev cX2_isPossible : ByteArray := prog_4_method_12_code
def yX2_isPossible : MethodName := ⟨RX2, "isPossible", "([I)Z"⟩
abbrev cX2_isKept : ByteArray := prog_4_method_13_code
def yX2_isKept : MethodName := ⟨RX2, "isKept", "(III)Z"⟩
def RX3 : String := "BettingBook$Gains"
def TX3 : u_T := fun k => match k with
  | _ => ("BettingBook$Gains", "coins", "[I", true)
def tyX3 : Nat → FieldType := fun k => match k with
  | _ => .array .int
abbrev wsX30 : List Cond := u_ws RX3 TX3 1
theorem nmX3 : ∀ a, a < 1 → ∀ b, b < 1 → a ≠ b → (TX3 a).2.1 ≠ (TX3 b).2.1 := by decide +kernel
theorem tyX3_ok : ∀ k, k < 1 → parseFieldDescriptor (TX3 k).2.2.1 = some (tyX3 k) := by decide +kernel
abbrev cX3_init : ByteArray := prog_5_method_1_code
def yX3_init : MethodName := ⟨RX3, "<init>", "()V"⟩
abbrev cX3_clear : ByteArray := prog_5_method_2_code
def yX3_clear : MethodName := ⟨RX3, "clear", "()V"⟩
abbrev cX3_ofMember : ByteArray := prog_5_method_3_code
def yX3_ofMember : MethodName := ⟨RX3, "ofMember", "(LBettingBook$Club;LBettingBook$Ledger;I)V"⟩
abbrev cX3_addSide : ByteArray := prog_5_method_4_code
def yX3_addSide : MethodName := ⟨RX3, "addSide", "(LBettingBook$Bet;II)V"⟩
abbrev cX3_sum : ByteArray := prog_5_method_5_code
def yX3_sum : MethodName := ⟨RX3, "sum", "(J)I"⟩
def RX4 : String := "BettingBook$Ledger"
def TX4 : u_T := fun k => match k with
  | 0 => ("BettingBook$Ledger", "today", "I", false)
  | 1 => ("BettingBook$Ledger", "sidesSold", "I", false)
  | 2 => ("BettingBook$Ledger", "came", "[I", true)
  | 3 => ("BettingBook$Ledger", "holders", "[I", true)
  | _ => ("BettingBook$Ledger", "balance", "[I", true)
def tyX4 : Nat → FieldType := fun k => match k with
  | 0 => .int
  | 1 => .int
  | 2 => .array .int
  | 3 => .array .int
  | _ => .array .int
abbrev wsX40 : List Cond := u_ws RX4 TX4 5
theorem nmX4 : ∀ a, a < 5 → ∀ b, b < 5 → a ≠ b → (TX4 a).2.1 ≠ (TX4 b).2.1 := by decide +kernel
theorem tyX4_ok : ∀ k, k < 5 → parseFieldDescriptor (TX4 k).2.2.1 = some (tyX4 k) := by decide +kernel
abbrev cX4_init : ByteArray := prog_6_method_1_code
def yX4_init : MethodName := ⟨RX4, "<init>", "()V"⟩
abbrev cX4_open : ByteArray := prog_6_method_2_code
def yX4_open : MethodName := ⟨RX4, "open", "(LBettingBook$Club;)V"⟩
abbrev cX4_become : ByteArray := prog_6_method_3_code
def yX4_become : MethodName := ⟨RX4, "become", "(LBettingBook$Ledger;)V"⟩
abbrev cX4_holder : ByteArray := prog_6_method_4_code
def yX4_holder : MethodName := ⟨RX4, "holder", "(II)I"⟩
abbrev cX4_sellSide : ByteArray := prog_6_method_5_code
def yX4_sellSide : MethodName := ⟨RX4, "sellSide", "(IIII)V"⟩
abbrev cX4_credit : ByteArray := prog_6_method_6_code
def yX4_credit : MethodName := ⟨RX4, "credit", "(III)V"⟩
abbrev cX4_cameBits : ByteArray := prog_6_method_7_code
def yX4_cameBits : MethodName := ⟨RX4, "cameBits", "()I"⟩
abbrev cX4_allowedDigits : ByteArray := prog_6_method_8_code
def yX4_allowedDigits : MethodName := ⟨RX4, "allowedDigits", "(I)I"⟩
abbrev cX4_copyRow : ByteArray := prog_6_method_9_code
def yX4_copyRow : MethodName := ⟨RX4, "copyRow", "([I[I)V"⟩
def RX5 : String := "BettingBook$Odds"
def TX5 : u_T := fun k => match k with
  | _ => ("BettingBook$Odds", "parts", "[I", true)
def tyX5 : Nat → FieldType := fun k => match k with
  | _ => .array .int
abbrev wsX50 : List Cond := u_ws RX5 TX5 1
theorem nmX5 : ∀ a, a < 1 → ∀ b, b < 1 → a ≠ b → (TX5 a).2.1 ≠ (TX5 b).2.1 := by decide +kernel
theorem tyX5_ok : ∀ k, k < 1 → parseFieldDescriptor (TX5 k).2.2.1 = some (tyX5 k) := by decide +kernel
abbrev cX5_init : ByteArray := prog_7_method_1_code
def yX5_init : MethodName := ⟨RX5, "<init>", "()V"⟩
abbrev cX5_clear : ByteArray := prog_7_method_2_code
def yX5_clear : MethodName := ⟨RX5, "clear", "()V"⟩
abbrev cX5_setParts : ByteArray := prog_7_method_3_code
def yX5_setParts : MethodName := ⟨RX5, "setParts", "(III)V"⟩
abbrev cX5_areWhole : ByteArray := prog_7_method_4_code
def yX5_areWhole : MethodName := ⟨RX5, "areWhole", "(I)Z"⟩
abbrev cX5_worthOf : ByteArray := prog_7_method_5_code
def yX5_worthOf : MethodName := ⟨RX5, "worthOf", "(LBettingBook$RowTable;LBettingBook$Gains;I)J"⟩
abbrev cX5_weightOf : ByteArray := prog_7_method_6_code
def yX5_weightOf : MethodName := ⟨RX5, "weightOf", "(II)J"⟩
abbrev cX5_commonDivisor : ByteArray := prog_7_method_7_code
def yX5_commonDivisor : MethodName := ⟨RX5, "commonDivisor", "(JJ)J"⟩
def RX6 : String := "BettingBook$RowTable"
def TX6 : u_T := fun k => match k with
  | 0 => ("BettingBook$RowTable", "things", "I", false)
  | 1 => ("BettingBook$RowTable", "size", "I", false)
  | 2 => ("BettingBook$RowTable", "possible", "I", false)
  | 3 => ("BettingBook$RowTable", "left", "I", false)
  | 4 => ("BettingBook$RowTable", "certain", "J", false)
  | 5 => ("BettingBook$RowTable", "cells", "[J", false)
  | 6 => ("BettingBook$RowTable", "classes", "[B", false)
  | 7 => ("BettingBook$RowTable", "digits", "[I", true)
  | _ => ("BettingBook$RowTable", "allowed", "[I", true)
def tyX6 : Nat → FieldType := fun k => match k with
  | 0 => .int
  | 1 => .int
  | 2 => .int
  | 3 => .int
  | 4 => .long
  | 5 => .array .long
  | 6 => .array .byte
  | 7 => .array .int
  | _ => .array .int
abbrev wsX60 : List Cond := u_ws RX6 TX6 9
theorem nmX6 : ∀ a, a < 9 → ∀ b, b < 9 → a ≠ b → (TX6 a).2.1 ≠ (TX6 b).2.1 := by decide +kernel
theorem tyX6_ok : ∀ k, k < 9 → parseFieldDescriptor (TX6 k).2.2.1 = some (tyX6 k) := by decide +kernel
abbrev cX6_init : ByteArray := prog_8_method_1_code
def yX6_init : MethodName := ⟨RX6, "<init>", "()V"⟩
abbrev cX6_fill : ByteArray := prog_8_method_2_code
def yX6_fill : MethodName := ⟨RX6, "fill", "(LBettingBook$Club;)V"⟩
abbrev cX6_mark : ByteArray := prog_8_method_3_code
def yX6_mark : MethodName := ⟨RX6, "mark", "(LBettingBook$Ledger;)I"⟩
abbrev cX6_cellAt : ByteArray := prog_8_method_4_code
def yX6_cellAt : MethodName := ⟨RX6, "cellAt", "(I)J"⟩
abbrev cX6_isSure : ByteArray := prog_8_method_5_code
def yX6_isSure : MethodName := ⟨RX6, "isSure", "(I)Z"⟩
abbrev cX6_leftCode : ByteArray := prog_8_method_6_code
def yX6_leftCode : MethodName := ⟨RX6, "leftCode", "(I)I"⟩
abbrev cX6_countLeft : ByteArray := prog_8_method_7_code
def yX6_countLeft : MethodName := ⟨RX6, "countLeft", "(II)I"⟩
abbrev cX6_decidedOn : ByteArray := prog_8_method_8_code
def yX6_decidedOn : MethodName := ⟨RX6, "decidedOn", "(II)I"⟩
abbrev cX6_lastDecided : ByteArray := prog_8_method_9_code
def yX6_lastDecided : MethodName := ⟨RX6, "lastDecided", "(I)I"⟩
abbrev cX6_hangingOn : ByteArray := prog_8_method_10_code
def yX6_hangingOn : MethodName := ⟨RX6, "hangingOn", "(I)I"⟩
abbrev cX6_fewestThings : ByteArray := prog_8_method_11_code
def yX6_fewestThings : MethodName := ⟨RX6, "fewestThings", "(LBettingBook$RowTable;IIII)I"⟩
abbrev cX6_fewer : ByteArray := prog_8_method_12_code
def yX6_fewer : MethodName := ⟨RX6, "fewer", "(II)I"⟩
abbrev cX6_dropThing : ByteArray := prog_8_method_13_code
def yX6_dropThing : MethodName := ⟨RX6, "dropThing", "(III)Z"⟩
abbrev cX6_forgetDay : ByteArray := prog_8_method_14_code
def yX6_forgetDay : MethodName := ⟨RX6, "forgetDay", "(I)Z"⟩
abbrev cX6_joinDay : ByteArray := prog_8_method_15_code
def yX6_joinDay : MethodName := ⟨RX6, "joinDay", "(III)Z"⟩
abbrev cX6_isMixed : ByteArray := prog_8_method_16_code
def yX6_isMixed : MethodName := ⟨RX6, "isMixed", "(I)Z"⟩
abbrev cX6_classAt : ByteArray := prog_8_method_17_code
def yX6_classAt : MethodName := ⟨RX6, "classAt", "(I)I"⟩
abbrev cX6_setClass : ByteArray := prog_8_method_18_code
def yX6_setClass : MethodName := ⟨RX6, "setClass", "(II)V"⟩
abbrev cX6_partingDay : ByteArray := prog_8_method_19_code
def yX6_partingDay : MethodName := ⟨RX6, "partingDay", "(II)I"⟩
abbrev cX6_areAllowed : ByteArray := prog_8_method_20_code
def yX6_areAllowed : MethodName := ⟨RX6, "areAllowed", "()Z"⟩
abbrev cX6_stepDigits : ByteArray := prog_8_method_21_code
def yX6_stepDigits : MethodName := ⟨RX6, "stepDigits", "()V"⟩
abbrev cX6_singleOutcomes : ByteArray := prog_8_method_22_code
def yX6_singleOutcomes : MethodName := ⟨RX6, "singleOutcomes", "(J)J"⟩
def RX7 : String := "BettingBook$Teller"
def TX7 : u_T := fun k => match k with
  | 0 => ("BettingBook$Teller", "tokens", "LBettingBook$Tokens;", true)
  | _ => ("BettingBook$Teller", "club", "LBettingBook$Club;", true)
def tyX7 : Nat → FieldType := fun k => match k with
  | 0 => .object "BettingBook$Tokens"
  | _ => .object "BettingBook$Club"
abbrev wsX70 : List Cond := u_ws RX7 TX7 2
theorem nmX7 : ∀ a, a < 2 → ∀ b, b < 2 → a ≠ b → (TX7 a).2.1 ≠ (TX7 b).2.1 := by decide +kernel
theorem tyX7_ok : ∀ k, k < 2 → parseFieldDescriptor (TX7 k).2.2.1 = some (tyX7 k) := by decide +kernel
abbrev cX7_init : ByteArray := prog_9_method_1_code
def yX7_init : MethodName := ⟨RX7, "<init>", "(LBettingBook$Tokens;LBettingBook$Club;)V"⟩
abbrev cX7_tellAll : ByteArray := prog_9_method_2_code
def yX7_tellAll : MethodName := ⟨RX7, "tellAll", "()Z"⟩
abbrev cX7_tellThing : ByteArray := prog_9_method_3_code
def yX7_tellThing : MethodName := ⟨RX7, "tellThing", "()Z"⟩
abbrev cX7_tellMember : ByteArray := prog_9_method_4_code
def yX7_tellMember : MethodName := ⟨RX7, "tellMember", "()Z"⟩
abbrev cX7_tellRule : ByteArray := prog_9_method_5_code
def yX7_tellRule : MethodName := ⟨RX7, "tellRule", "(Z)Z"⟩
abbrev cX7_tellBet : ByteArray := prog_9_method_6_code
def yX7_tellBet : MethodName := ⟨RX7, "tellBet", "()Z"⟩
abbrev cX7_any : ByteArray := prog_9_method_7_code
def yX7_any : MethodName := ⟨RX7, "any", "(I)LBettingBook$Claim;"⟩
abbrev cX7_one : ByteArray := prog_9_method_8_code
def yX7_one : MethodName := ⟨RX7, "one", "(I)LBettingBook$Claim;"⟩
abbrev cX7_least : ByteArray := prog_9_method_9_code
def yX7_least : MethodName := ⟨RX7, "least", "()LBettingBook$Claim;"⟩
abbrev cX7_ofThing : ByteArray := prog_9_method_10_code
def yX7_ofThing : MethodName := ⟨RX7, "ofThing", "()LBettingBook$Claim;"⟩
def RX8 : String := "BettingBook$Tokens"
def TX8 : u_T := fun k => match k with
  | 0 => ("BettingBook$Tokens", "kinds", "[I", true)
  | 1 => ("BettingBook$Tokens", "starts", "[I", true)
  | 2 => ("BettingBook$Tokens", "values", "[J", true)
  | _ => ("BettingBook$Tokens", "taken", "I", false)
def tyX8 : Nat → FieldType := fun k => match k with
  | 0 => .array .int
  | 1 => .array .int
  | 2 => .array .long
  | _ => .int
abbrev wsX80 : List Cond := u_ws RX8 TX8 4
theorem nmX8 : ∀ a, a < 4 → ∀ b, b < 4 → a ≠ b → (TX8 a).2.1 ≠ (TX8 b).2.1 := by decide +kernel
theorem tyX8_ok : ∀ k, k < 4 → parseFieldDescriptor (TX8 k).2.2.1 = some (tyX8 k) := by decide +kernel
abbrev cX8_init : ByteArray := prog_10_method_1_code
def yX8_init : MethodName := ⟨RX8, "<init>", "()V"⟩
abbrev cX8_read : ByteArray := prog_10_method_2_code
def yX8_read : MethodName := ⟨RX8, "read", "([BI)V"⟩
abbrev cX8_atEnd : ByteArray := prog_10_method_3_code
def yX8_atEnd : MethodName := ⟨RX8, "atEnd", "()Z"⟩
abbrev cX8_nextStart : ByteArray := prog_10_method_4_code
def yX8_nextStart : MethodName := ⟨RX8, "nextStart", "()I"⟩
abbrev cX8_isNext : ByteArray := prog_10_method_5_code
def yX8_isNext : MethodName := ⟨RX8, "isNext", "(LBettingBook$Word;)Z"⟩
abbrev cX8_isNext_ : ByteArray := prog_10_method_6_code
def yX8_isNext_ : MethodName := ⟨RX8, "isNext", "(C)Z"⟩
abbrev cX8_take : ByteArray := prog_10_method_7_code
def yX8_take : MethodName := ⟨RX8, "take", "(LBettingBook$Word;)Z"⟩
abbrev cX8_take_ : ByteArray := prog_10_method_8_code
def yX8_take_ : MethodName := ⟨RX8, "take", "(C)Z"⟩
abbrev cX8_takeNumber : ByteArray := prog_10_method_9_code
def yX8_takeNumber : MethodName := ⟨RX8, "takeNumber", "(II)I"⟩
abbrev cX8_takeTold : ByteArray := prog_10_method_10_code
def yX8_takeTold : MethodName := ⟨RX8, "takeTold", "([JII)I"⟩
abbrev cX8_name : ByteArray := prog_10_method_11_code
def yX8_name : MethodName := ⟨RX8, "name", "()J"⟩
abbrev cX8_skip : ByteArray := prog_10_method_12_code
def yX8_skip : MethodName := ⟨RX8, "skip", "()V"⟩
abbrev cX8_put : ByteArray := prog_10_method_13_code
def yX8_put : MethodName := ⟨RX8, "put", "(III)V"⟩
abbrev cX8_extend : ByteArray := prog_10_method_14_code
def yX8_extend : MethodName := ⟨RX8, "extend", "(III)V"⟩
abbrev cX8_kindOf : ByteArray := prog_10_method_15_code
def yX8_kindOf : MethodName := ⟨RX8, "kindOf", "(I)I"⟩
def RX9 : String := "BettingBook$Winner"
def TX9 : u_T := fun k => match k with
  | 0 => ("BettingBook$Winner", "chosen", "[LBettingBook$Bet;", true)
  | 1 => ("BettingBook$Winner", "numbers", "[I", true)
  | 2 => ("BettingBook$Winner", "chosenCount", "I", false)
  | 3 => ("BettingBook$Winner", "combinations", "[J", false)
  | 4 => ("BettingBook$Winner", "combinationCount", "I", false)
  | 5 => ("BettingBook$Winner", "bestCode", "I", false)
  | _ => ("BettingBook$Winner", "bestCoin", "I", false)
def tyX9 : Nat → FieldType := fun k => match k with
  | 0 => .array (.object "BettingBook$Bet")
  | 1 => .array .int
  | 2 => .int
  | 3 => .array .long
  | 4 => .int
  | 5 => .int
  | _ => .int
abbrev wsX90 : List Cond := u_ws RX9 TX9 7
theorem nmX9 : ∀ a, a < 7 → ∀ b, b < 7 → a ≠ b → (TX9 a).2.1 ≠ (TX9 b).2.1 := by decide +kernel
theorem tyX9_ok : ∀ k, k < 7 → parseFieldDescriptor (TX9 k).2.2.1 = some (tyX9 k) := by decide +kernel
abbrev cX9_init : ByteArray := prog_11_method_1_code
def yX9_init : MethodName := ⟨RX9, "<init>", "()V"⟩
abbrev cX9_choose : ByteArray := prog_11_method_2_code
def yX9_choose : MethodName := ⟨RX9, "choose", "(LBettingBook$Club;LBettingBook$RowTable;I)Z"⟩
abbrev cX9_search : ByteArray := prog_11_method_3_code
def yX9_search : MethodName := ⟨RX9, "search", "(LBettingBook$Gains;)V"⟩
abbrev cX9_combine : ByteArray := prog_11_method_4_code
def yX9_combine : MethodName := ⟨RX9, "combine", "(LBettingBook$RowTable;)V"⟩
abbrev cX9_addCombination : ByteArray := prog_11_method_5_code
def yX9_addCombination : MethodName := ⟨RX9, "addCombination", "(J)V"⟩
abbrev cX9_takeSides : ByteArray := prog_11_method_6_code
def yX9_takeSides : MethodName := ⟨RX9, "takeSides", "(ILBettingBook$Gains;)I"⟩
abbrev cX9_canOnlyWin : ByteArray := prog_11_method_7_code
def yX9_canOnlyWin : MethodName := ⟨RX9, "canOnlyWin", "(LBettingBook$Gains;)Z"⟩
def RX10 : String := "BettingBook$Word"
def TX10 : u_T := fun k => match k with
  | _ => ("", "", "", false)
def tyX10 : Nat → FieldType := fun k => match k with
  | _ => .int
abbrev wsX100 : List Cond := u_ws RX10 TX10 0
theorem nmX10 : ∀ a, a < 0 → ∀ b, b < 0 → a ≠ b → (TX10 a).2.1 ≠ (TX10 b).2.1 := by decide +kernel
theorem tyX10_ok : ∀ k, k < 0 → parseFieldDescriptor (TX10 k).2.2.1 = some (tyX10 k) := by decide +kernel
abbrev cX10_isOne : ByteArray := prog_12_method_4_code
def yX10_isOne : MethodName := ⟨RX10, "isOne", "(J)Z"⟩
def RX11 : String := "BettingBook"
def TX11 : u_T := fun k => match k with
  | 0 => ("BettingBook", "tape", "[B", true)
  | 1 => ("BettingBook", "taped", "I", false)
  | 2 => ("BettingBook", "faultPlace", "I", false)
  | 3 => ("BettingBook", "booksTaken", "I", false)
  | 4 => ("BettingBook", "tokens", "LBettingBook$Tokens;", true)
  | 5 => ("BettingBook", "club", "LBettingBook$Club;", false)
  | 6 => ("BettingBook", "table", "LBettingBook$RowTable;", true)
  | 7 => ("BettingBook", "ledger", "LBettingBook$Ledger;", true)
  | 8 => ("BettingBook", "images", "[LBettingBook$Ledger;", true)
  | 9 => ("BettingBook", "imagesMade", "I", false)
  | 10 => ("BettingBook", "odds", "LBettingBook$Odds;", true)
  | 11 => ("BettingBook", "gains", "LBettingBook$Gains;", true)
  | 12 => ("BettingBook", "winner", "LBettingBook$Winner;", true)
  | 13 => ("BettingBook", "owed", "[I", true)
  | _ => ("BettingBook", "groups", "[I", true)
def tyX11 : Nat → FieldType := fun k => match k with
  | 0 => .array .byte
  | 1 => .int
  | 2 => .int
  | 3 => .int
  | 4 => .object "BettingBook$Tokens"
  | 5 => .object "BettingBook$Club"
  | 6 => .object "BettingBook$RowTable"
  | 7 => .object "BettingBook$Ledger"
  | 8 => .array (.object "BettingBook$Ledger")
  | 9 => .int
  | 10 => .object "BettingBook$Odds"
  | 11 => .object "BettingBook$Gains"
  | 12 => .object "BettingBook$Winner"
  | 13 => .array .int
  | _ => .array .int
abbrev wsX110 : List Cond := u_ws RX11 TX11 15
theorem nmX11 : ∀ a, a < 15 → ∀ b, b < 15 → a ≠ b → (TX11 a).2.1 ≠ (TX11 b).2.1 := by decide +kernel
theorem tyX11_ok : ∀ k, k < 15 → parseFieldDescriptor (TX11 k).2.2.1 = some (tyX11 k) := by decide +kernel
abbrev cX11_init : ByteArray := prog_1_method_1_code
def yX11_init : MethodName := ⟨RX11, "<init>", "()V"⟩
abbrev cX11_feed : ByteArray := prog_1_method_2_code
def yX11_feed : MethodName := ⟨RX11, "feed", "(IIIII)I"⟩
abbrev cX11_book : ByteArray := prog_1_method_3_code
def yX11_book : MethodName := ⟨RX11, "book", "(I)I"⟩
abbrev cX11_fault : ByteArray := prog_1_method_4_code
def yX11_fault : MethodName := ⟨RX11, "fault", "()I"⟩
abbrev cX11_told : ByteArray := prog_1_method_5_code
def yX11_told : MethodName := ⟨RX11, "told", "(I)I"⟩
abbrev cX11_wager : ByteArray := prog_1_method_6_code
def yX11_wager : MethodName := ⟨RX11, "wager", "(II)I"⟩
abbrev cX11_day : ByteArray := prog_1_method_7_code
def yX11_day : MethodName := ⟨RX11, "day", "(I)I"⟩
abbrev cX11_come : ByteArray := prog_1_method_8_code
def yX11_come : MethodName := ⟨RX11, "come", "(I)I"⟩
abbrev cX11_chance : ByteArray := prog_1_method_9_code
def yX11_chance : MethodName := ⟨RX11, "chance", "(III)Z"⟩
abbrev cX11_sell : ByteArray := prog_1_method_10_code
def yX11_sell : MethodName := ⟨RX11, "sell", "(IIII)Z"⟩
abbrev cX11_paid : ByteArray := prog_1_method_11_code
def yX11_paid : MethodName := ⟨RX11, "paid", "(III)Z"⟩
abbrev cX11_rows : ByteArray := prog_1_method_12_code
def yX11_rows : MethodName := ⟨RX11, "rows", "(I)I"⟩
abbrev cX11_fits : ByteArray := prog_1_method_13_code
def yX11_fits : MethodName := ⟨RX11, "fits", "(I)I"⟩
abbrev cX11_pays : ByteArray := prog_1_method_14_code
def yX11_pays : MethodName := ⟨RX11, "pays", "(II)I"⟩
abbrev cX11_sure : ByteArray := prog_1_method_15_code
def yX11_sure : MethodName := ⟨RX11, "sure", "(II)I"⟩
abbrev cX11_split : ByteArray := prog_1_method_16_code
def yX11_split : MethodName := ⟨RX11, "split", "(II)I"⟩
abbrev cX11_when : ByteArray := prog_1_method_17_code
def yX11_when : MethodName := ⟨RX11, "when", "(II)I"⟩
abbrev cX11_latest : ByteArray := prog_1_method_18_code
def yX11_latest : MethodName := ⟨RX11, "latest", "(I)I"⟩
abbrev cX11_hang : ByteArray := prog_1_method_19_code
def yX11_hang : MethodName := ⟨RX11, "hang", "(I)I"⟩
abbrev cX11_same : ByteArray := prog_1_method_20_code
def yX11_same : MethodName := ⟨RX11, "same", "(II)I"⟩
abbrev cX11_has : ByteArray := prog_1_method_21_code
def yX11_has : MethodName := ⟨RX11, "has", "(I)I"⟩
abbrev cX11_may : ByteArray := prog_1_method_22_code
def yX11_may : MethodName := ⟨RX11, "may", "(II)I"⟩
abbrev cX11_end : ByteArray := prog_1_method_23_code
def yX11_end : MethodName := ⟨RX11, "end", "(II)I"⟩
abbrev cX11_settle : ByteArray := prog_1_method_24_code
def yX11_settle : MethodName := ⟨RX11, "settle", "()I"⟩
abbrev cX11_best : ByteArray := prog_1_method_25_code
def yX11_best : MethodName := ⟨RX11, "best", "(I)I"⟩
abbrev cX11_win : ByteArray := prog_1_method_26_code
def yX11_win : MethodName := ⟨RX11, "win", "(II)I"⟩
abbrev cX11_worth : ByteArray := prog_1_method_27_code
def yX11_worth : MethodName := ⟨RX11, "worth", "(II)J"⟩
abbrev cX11_holds : ByteArray := prog_1_method_28_code
def yX11_holds : MethodName := ⟨RX11, "holds", "(II)J"⟩
abbrev cX11_luck : ByteArray := prog_1_method_29_code
def yX11_luck : MethodName := ⟨RX11, "luck", "(II)I"⟩
abbrev cX11_image : ByteArray := prog_1_method_30_code
def yX11_image : MethodName := ⟨RX11, "image", "()I"⟩
abbrev cX11_back : ByteArray := prog_1_method_31_code
def yX11_back : MethodName := ⟨RX11, "back", "(I)Z"⟩
abbrev cX11_count : ByteArray := prog_1_method_32_code
def yX11_count : MethodName := ⟨RX11, "count", "(I)I"⟩
abbrev cX11_putBytes : ByteArray := prog_1_method_33_code
def yX11_putBytes : MethodName := ⟨RX11, "putBytes", "(I)V"⟩
abbrev cX11_hasNow : ByteArray := prog_1_method_34_code
def yX11_hasNow : MethodName := ⟨RX11, "hasNow", "(I)I"⟩
abbrev cX11_at : ByteArray := prog_1_method_35_code
def yX11_at : MethodName := ⟨RX11, "at", "([II)I"⟩
abbrev cX11_at_ : ByteArray := prog_1_method_36_code
def yX11_at_ : MethodName := ⟨RX11, "at", "([JI)J"⟩
abbrev cX11_set : ByteArray := prog_1_method_37_code
def yX11_set : MethodName := ⟨RX11, "set", "([III)V"⟩
abbrev cX11_outcomeBits : ByteArray := prog_1_method_38_code
def yX11_outcomeBits : MethodName := ⟨RX11, "outcomeBits", "(JI)I"⟩
abbrev cX11_outcome : ByteArray := prog_1_method_39_code
def yX11_outcome : MethodName := ⟨RX11, "outcome", "(JI)I"⟩
abbrev cX11_power : ByteArray := prog_1_method_40_code
def yX11_power : MethodName := ⟨RX11, "power", "(II)I"⟩
def RX12 : String := "BettingBookModel"
def TX12 : u_T := fun k => match k with
  | 0 => ("BettingBookModel", "things", "I", false)
  | 1 => ("BettingBookModel", "members", "I", false)
  | 2 => ("BettingBookModel", "wagers", "I", false)
  | 3 => ("BettingBookModel", "statements", "I", false)
  | 4 => ("BettingBookModel", "links", "I", false)
  | 5 => ("BettingBookModel", "books", "I", false)
  | 6 => ("BettingBookModel", "from", "[I", true)
  | 7 => ("BettingBookModel", "until", "[I", true)
  | 8 => ("BettingBookModel", "first", "[I", true)
  | 9 => ("BettingBookModel", "second", "[I", true)
  | 10 => ("BettingBookModel", "coinFirst", "[I", true)
  | 11 => ("BettingBookModel", "coinSecond", "[I", true)
  | 12 => ("BettingBookModel", "linkKind", "[I", true)
  | 13 => ("BettingBookModel", "linkOne", "[I", true)
  | 14 => ("BettingBookModel", "linkOther", "[I", true)
  | 15 => ("BettingBookModel", "linkIn", "[I", true)
  | 16 => ("BettingBookModel", "claimAt", "[I", true)
  | 17 => ("BettingBookModel", "offAt", "[I", true)
  | 18 => ("BettingBookModel", "doubleAt", "[I", true)
  | 19 => ("BettingBookModel", "endAt", "[I", true)
  | 20 => ("BettingBookModel", "op", "[I", true)
  | 21 => ("BettingBookModel", "one", "[I", true)
  | 22 => ("BettingBookModel", "two", "[I", true)
  | 23 => ("BettingBookModel", "newThings", "I", false)
  | 24 => ("BettingBookModel", "newMembers", "I", false)
  | 25 => ("BettingBookModel", "newWagers", "I", false)
  | 26 => ("BettingBookModel", "newStatements", "I", false)
  | 27 => ("BettingBookModel", "newLinks", "I", false)
  | 28 => ("BettingBookModel", "stepMany", "I", false)
  | 29 => ("BettingBookModel", "thingName", "[J", true)
  | 30 => ("BettingBookModel", "memberName", "[J", true)
  | 31 => ("BettingBookModel", "taped", "I", false)
  | 32 => ("BettingBookModel", "size", "I", false)
  | 33 => ("BettingBookModel", "at", "I", false)
  | 34 => ("BettingBookModel", "deep", "I", false)
  | 35 => ("BettingBookModel", "fault", "I", false)
  | 36 => ("BettingBookModel", "tape", "[B", true)
  | 37 => ("BettingBookModel", "text", "[B", true)
  | 38 => ("BettingBookModel", "wordEnd", "I", false)
  | 39 => ("BettingBookModel", "read", "I", false)
  | 40 => ("BettingBookModel", "taken", "I", false)
  | 41 => ("BettingBookModel", "rows", "I", false)
  | 42 => ("BettingBookModel", "dayOf", "[I", true)
  | 43 => ("BettingBookModel", "state", "[B", true)
  | 44 => ("BettingBookModel", "does", "[B", true)
  | 45 => ("BettingBookModel", "pile", "[Z", true)
  | 46 => ("BettingBookModel", "today", "I", false)
  | 47 => ("BettingBookModel", "came", "I", false)
  | 48 => ("BettingBookModel", "cameOn", "[I", true)
  | 49 => ("BettingBookModel", "surePay", "I", false)
  | 50 => ("BettingBookModel", "decided", "[I", true)
  | 51 => ("BettingBookModel", "sold", "I", false)
  | 52 => ("BettingBookModel", "holder", "[I", true)
  | 53 => ("BettingBookModel", "coins", "[I", true)
  | 54 => ("BettingBookModel", "balance", "[I", true)
  | 55 => ("BettingBookModel", "groups", "[I", true)
  | 56 => ("BettingBookModel", "met", "[Z", true)
  | 57 => ("BettingBookModel", "chosen", "[I", true)
  | 58 => ("BettingBookModel", "chosenMany", "I", false)
  | 59 => ("BettingBookModel", "winCode", "I", false)
  | 60 => ("BettingBookModel", "winCoin", "I", false)
  | 61 => ("BettingBookModel", "chances", "[I", true)
  | 62 => ("BettingBookModel", "images", "I", false)
  | _ => ("BettingBookModel", "image", "[I", true)
def tyX12 : Nat → FieldType := fun k => match k with
  | 0 => .int
  | 1 => .int
  | 2 => .int
  | 3 => .int
  | 4 => .int
  | 5 => .int
  | 6 => .array .int
  | 7 => .array .int
  | 8 => .array .int
  | 9 => .array .int
  | 10 => .array .int
  | 11 => .array .int
  | 12 => .array .int
  | 13 => .array .int
  | 14 => .array .int
  | 15 => .array .int
  | 16 => .array .int
  | 17 => .array .int
  | 18 => .array .int
  | 19 => .array .int
  | 20 => .array .int
  | 21 => .array .int
  | 22 => .array .int
  | 23 => .int
  | 24 => .int
  | 25 => .int
  | 26 => .int
  | 27 => .int
  | 28 => .int
  | 29 => .array .long
  | 30 => .array .long
  | 31 => .int
  | 32 => .int
  | 33 => .int
  | 34 => .int
  | 35 => .int
  | 36 => .array .byte
  | 37 => .array .byte
  | 38 => .int
  | 39 => .int
  | 40 => .int
  | 41 => .int
  | 42 => .array .int
  | 43 => .array .byte
  | 44 => .array .byte
  | 45 => .array .boolean
  | 46 => .int
  | 47 => .int
  | 48 => .array .int
  | 49 => .int
  | 50 => .array .int
  | 51 => .int
  | 52 => .array .int
  | 53 => .array .int
  | 54 => .array .int
  | 55 => .array .int
  | 56 => .array .boolean
  | 57 => .array .int
  | 58 => .int
  | 59 => .int
  | 60 => .int
  | 61 => .array .int
  | 62 => .int
  | _ => .array .int
abbrev wsX120 : List Cond := u_ws RX12 TX12 64
theorem nmX12 : ∀ a, a < 64 → ∀ b, b < 64 → a ≠ b → (TX12 a).2.1 ≠ (TX12 b).2.1 := by decide +kernel
theorem tyX12_ok : ∀ k, k < 64 → parseFieldDescriptor (TX12 k).2.2.1 = some (tyX12 k) := by decide +kernel
abbrev cX12_init : ByteArray := prog_14_method_1_code
def yX12_init : MethodName := ⟨RX12, "<init>", "()V"⟩
abbrev cX12_isIn : ByteArray := prog_14_method_2_code
def yX12_isIn : MethodName := ⟨RX12, "isIn", "(III)Z"⟩
abbrev cX12_unit : ByteArray := prog_14_method_3_code
def yX12_unit : MethodName := ⟨RX12, "unit", "(Z)I"⟩
abbrev cX12_bit : ByteArray := prog_14_method_4_code
def yX12_bit : MethodName := ⟨RX12, "bit", "(II)Z"⟩
abbrev cX12_bits : ByteArray := prog_14_method_5_code
def yX12_bits : MethodName := ⟨RX12, "bits", "(I)I"⟩
abbrev cX12_feed : ByteArray := prog_14_method_6_code
def yX12_feed : MethodName := ⟨RX12, "feed", "(IIIII)I"⟩
abbrev cX12_four : ByteArray := prog_14_method_7_code
def yX12_four : MethodName := ⟨RX12, "four", "(I)V"⟩
abbrev cX12_blanks : ByteArray := prog_14_method_8_code
def yX12_blanks : MethodName := ⟨RX12, "blanks", "()V"⟩
abbrev cX12_word : ByteArray := prog_14_method_9_code
def yX12_word : MethodName := ⟨RX12, "word", "()J"⟩
abbrev cX12_takes : ByteArray := prog_14_method_10_code
def yX12_takes : MethodName := ⟨RX12, "takes", "(J)Z"⟩
abbrev cX12_takesSign : ByteArray := prog_14_method_11_code
def yX12_takesSign : MethodName := ⟨RX12, "takesSign", "(I)Z"⟩
abbrev cX12_takesNumber : ByteArray := prog_14_method_12_code
def yX12_takesNumber : MethodName := ⟨RX12, "takesNumber", "(II)Z"⟩
abbrev cX12_isKept : ByteArray := prog_14_method_13_code
def yX12_isKept : MethodName := ⟨RX12, "isKept", "(J)Z"⟩
abbrev cX12_find : ByteArray := prog_14_method_14_code
def yX12_find : MethodName := ⟨RX12, "find", "([JIJ)I"⟩
abbrev cX12_isNew : ByteArray := prog_14_method_15_code
def yX12_isNew : MethodName := ⟨RX12, "isNew", "(J)Z"⟩
abbrev cX12_takesThing : ByteArray := prog_14_method_16_code
def yX12_takesThing : MethodName := ⟨RX12, "takesThing", "(I)Z"⟩
abbrev cX12_takesMember : ByteArray := prog_14_method_17_code
def yX12_takesMember : MethodName := ⟨RX12, "takesMember", "(I)Z"⟩
abbrev cX12_thingTold : ByteArray := prog_14_method_18_code
def yX12_thingTold : MethodName := ⟨RX12, "thingTold", "()Z"⟩
abbrev cX12_memberTold : ByteArray := prog_14_method_19_code
def yX12_memberTold : MethodName := ⟨RX12, "memberTold", "()Z"⟩
abbrev cX12_linkTold : ByteArray := prog_14_method_20_code
def yX12_linkTold : MethodName := ⟨RX12, "linkTold", "(I)Z"⟩
abbrev cX12_betTold : ByteArray := prog_14_method_21_code
def yX12_betTold : MethodName := ⟨RX12, "betTold", "()Z"⟩
abbrev cX12_statement : ByteArray := prog_14_method_22_code
def yX12_statement : MethodName := ⟨RX12, "statement", "()Z"⟩
abbrev cX12_puts : ByteArray := prog_14_method_23_code
def yX12_puts : MethodName := ⟨RX12, "puts", "(III)V"⟩
abbrev cX12_opens : ByteArray := prog_14_method_24_code
def yX12_opens : MethodName := ⟨RX12, "opens", "()Z"⟩
abbrev cX12_any : ByteArray := prog_14_method_25_code
def yX12_any : MethodName := ⟨RX12, "any", "()Z"⟩
abbrev cX12_all : ByteArray := prog_14_method_26_code
def yX12_all : MethodName := ⟨RX12, "all", "()Z"⟩
abbrev cX12_single : ByteArray := prog_14_method_27_code
def yX12_single : MethodName := ⟨RX12, "single", "()Z"⟩
abbrev cX12_reads : ByteArray := prog_14_method_28_code
def yX12_reads : MethodName := ⟨RX12, "reads", "(I)Z"⟩
abbrev cX12_book : ByteArray := prog_14_method_29_code
def yX12_book : MethodName := ⟨RX12, "book", "(I)I"⟩
abbrev cX12_takesOver : ByteArray := prog_14_method_30_code
def yX12_takesOver : MethodName := ⟨RX12, "takesOver", "(II)V"⟩
abbrev cX12_fault : ByteArray := prog_14_method_31_code
def yX12_fault : MethodName := ⟨RX12, "fault", "()I"⟩
abbrev cX12_told : ByteArray := prog_14_method_32_code
def yX12_told : MethodName := ⟨RX12, "told", "(I)I"⟩
abbrev cX12_lays : ByteArray := prog_14_method_33_code
def yX12_lays : MethodName := ⟨RX12, "lays", "(I)Z"⟩
abbrev cX12_isPossibleNow : ByteArray := prog_14_method_34_code
def yX12_isPossibleNow : MethodName := ⟨RX12, "isPossibleNow", "()Z"⟩
abbrev cX12_comesBy : ByteArray := prog_14_method_35_code
def yX12_comesBy : MethodName := ⟨RX12, "comesBy", "(II)Z"⟩
abbrev cX12_tells : ByteArray := prog_14_method_36_code
def yX12_tells : MethodName := ⟨RX12, "tells", "(I)Z"⟩
abbrev cX12_isTrue : ByteArray := prog_14_method_37_code
def yX12_isTrue : MethodName := ⟨RX12, "isTrue", "(II)Z"⟩
abbrev cX12_doesNow : ByteArray := prog_14_method_38_code
def yX12_doesNow : MethodName := ⟨RX12, "doesNow", "(I)I"⟩
abbrev cX12_makes : ByteArray := prog_14_method_39_code
def yX12_makes : MethodName := ⟨RX12, "makes", "()V"⟩
abbrev cX12_isRow : ByteArray := prog_14_method_40_code
def yX12_isRow : MethodName := ⟨RX12, "isRow", "(I)Z"⟩
abbrev cX12_isPossible : ByteArray := prog_14_method_41_code
def yX12_isPossible : MethodName := ⟨RX12, "isPossible", "(I)Z"⟩
abbrev cX12_paysAt : ByteArray := prog_14_method_42_code
def yX12_paysAt : MethodName := ⟨RX12, "paysAt", "(II)I"⟩
abbrev cX12_isLeft : ByteArray := prog_14_method_43_code
def yX12_isLeft : MethodName := ⟨RX12, "isLeft", "(I)Z"⟩
abbrev cX12_leftMany : ByteArray := prog_14_method_44_code
def yX12_leftMany : MethodName := ⟨RX12, "leftMany", "()I"⟩
abbrev cX12_day : ByteArray := prog_14_method_45_code
def yX12_day : MethodName := ⟨RX12, "day", "(I)I"⟩
abbrev cX12_isThing : ByteArray := prog_14_method_46_code
def yX12_isThing : MethodName := ⟨RX12, "isThing", "(I)Z"⟩
abbrev cX12_isMember : ByteArray := prog_14_method_47_code
def yX12_isMember : MethodName := ⟨RX12, "isMember", "(I)Z"⟩
abbrev cX12_isWager : ByteArray := prog_14_method_48_code
def yX12_isWager : MethodName := ⟨RX12, "isWager", "(I)Z"⟩
abbrev cX12_come : ByteArray := prog_14_method_49_code
def yX12_come : MethodName := ⟨RX12, "come", "(I)I"⟩
abbrev cX12_rows : ByteArray := prog_14_method_50_code
def yX12_rows : MethodName := ⟨RX12, "rows", "(I)I"⟩
abbrev cX12_fits : ByteArray := prog_14_method_51_code
def yX12_fits : MethodName := ⟨RX12, "fits", "(I)I"⟩
abbrev cX12_pays : ByteArray := prog_14_method_52_code
def yX12_pays : MethodName := ⟨RX12, "pays", "(II)I"⟩
abbrev cX12_isSure : ByteArray := prog_14_method_53_code
def yX12_isSure : MethodName := ⟨RX12, "isSure", "(I)Z"⟩
abbrev cX12_sure : ByteArray := prog_14_method_54_code
def yX12_sure : MethodName := ⟨RX12, "sure", "(II)I"⟩
abbrev cX12_split : ByteArray := prog_14_method_55_code
def yX12_split : MethodName := ⟨RX12, "split", "(II)I"⟩
abbrev cX12_till : ByteArray := prog_14_method_56_code
def yX12_till : MethodName := ⟨RX12, "till", "(II)I"⟩
abbrev cX12_begins : ByteArray := prog_14_method_57_code
def yX12_begins : MethodName := ⟨RX12, "begins", "(II)V"⟩
abbrev cX12_when : ByteArray := prog_14_method_58_code
def yX12_when : MethodName := ⟨RX12, "when", "(II)I"⟩
abbrev cX12_latest : ByteArray := prog_14_method_59_code
def yX12_latest : MethodName := ⟨RX12, "latest", "(I)I"⟩
abbrev cX12_only : ByteArray := prog_14_method_60_code
def yX12_only : MethodName := ⟨RX12, "only", "(II)I"⟩
abbrev cX12_hangsOn : ByteArray := prog_14_method_61_code
def yX12_hangsOn : MethodName := ⟨RX12, "hangsOn", "(II)Z"⟩
abbrev cX12_hang : ByteArray := prog_14_method_62_code
def yX12_hang : MethodName := ⟨RX12, "hang", "(I)I"⟩
abbrev cX12_same : ByteArray := prog_14_method_63_code
def yX12_same : MethodName := ⟨RX12, "same", "(II)I"⟩
abbrev cX12_wager : ByteArray := prog_14_method_64_code
def yX12_wager : MethodName := ⟨RX12, "wager", "(II)I"⟩
abbrev cX12_sell : ByteArray := prog_14_method_65_code
def yX12_sell : MethodName := ⟨RX12, "sell", "(IIII)Z"⟩
abbrev cX12_paid : ByteArray := prog_14_method_66_code
def yX12_paid : MethodName := ⟨RX12, "paid", "(III)Z"⟩
abbrev cX12_sidesOf : ByteArray := prog_14_method_67_code
def yX12_sidesOf : MethodName := ⟨RX12, "sidesOf", "(II)I"⟩
abbrev cX12_balances : ByteArray := prog_14_method_68_code
def yX12_balances : MethodName := ⟨RX12, "balances", "()V"⟩
abbrev cX12_has : ByteArray := prog_14_method_69_code
def yX12_has : MethodName := ⟨RX12, "has", "(I)I"⟩
abbrev cX12_endAtRow : ByteArray := prog_14_method_70_code
def yX12_endAtRow : MethodName := ⟨RX12, "endAtRow", "(II)I"⟩
abbrev cX12_may : ByteArray := prog_14_method_71_code
def yX12_may : MethodName := ⟨RX12, "may", "(II)I"⟩
abbrev cX12_end : ByteArray := prog_14_method_72_code
def yX12_end : MethodName := ⟨RX12, "end", "(II)I"⟩
abbrev cX12_settle : ByteArray := prog_14_method_73_code
def yX12_settle : MethodName := ⟨RX12, "settle", "()I"⟩
abbrev cX12_best : ByteArray := prog_14_method_74_code
def yX12_best : MethodName := ⟨RX12, "best", "(I)I"⟩
abbrev cX12_amount : ByteArray := prog_14_method_75_code
def yX12_amount : MethodName := ⟨RX12, "amount", "(III)I"⟩
abbrev cX12_meets : ByteArray := prog_14_method_76_code
def yX12_meets : MethodName := ⟨RX12, "meets", "()V"⟩
abbrev cX12_wins : ByteArray := prog_14_method_77_code
def yX12_wins : MethodName := ⟨RX12, "wins", "(I)Z"⟩
abbrev cX12_staked : ByteArray := prog_14_method_78_code
def yX12_staked : MethodName := ⟨RX12, "staked", "(I)I"⟩
abbrev cX12_win : ByteArray := prog_14_method_79_code
def yX12_win : MethodName := ⟨RX12, "win", "(II)I"⟩
abbrev cX12_chance : ByteArray := prog_14_method_80_code
def yX12_chance : MethodName := ⟨RX12, "chance", "(III)Z"⟩
abbrev cX12_areWhole : ByteArray := prog_14_method_81_code
def yX12_areWhole : MethodName := ⟨RX12, "areWhole", "()Z"⟩
abbrev cX12_weightOf : ByteArray := prog_14_method_82_code
def yX12_weightOf : MethodName := ⟨RX12, "weightOf", "(I)J"⟩
abbrev cX12_divisor : ByteArray := prog_14_method_83_code
def yX12_divisor : MethodName := ⟨RX12, "divisor", "(JJ)J"⟩
abbrev cX12_part : ByteArray := prog_14_method_84_code
def yX12_part : MethodName := ⟨RX12, "part", "(JJI)J"⟩
abbrev cX12_worth : ByteArray := prog_14_method_85_code
def yX12_worth : MethodName := ⟨RX12, "worth", "(II)J"⟩
abbrev cX12_holds : ByteArray := prog_14_method_86_code
def yX12_holds : MethodName := ⟨RX12, "holds", "(II)J"⟩
abbrev cX12_possibleMany : ByteArray := prog_14_method_87_code
def yX12_possibleMany : MethodName := ⟨RX12, "possibleMany", "()I"⟩
abbrev cX12_luck : ByteArray := prog_14_method_88_code
def yX12_luck : MethodName := ⟨RX12, "luck", "(II)I"⟩
abbrev cX12_image : ByteArray := prog_14_method_89_code
def yX12_image : MethodName := ⟨RX12, "image", "()I"⟩
abbrev cX12_back : ByteArray := prog_14_method_90_code
def yX12_back : MethodName := ⟨RX12, "back", "(I)Z"⟩
abbrev cX12_count : ByteArray := prog_14_method_91_code
def yX12_count : MethodName := ⟨RX12, "count", "(I)I"⟩
def RL : String := "BettingBookLaw"
abbrev cL_law : ByteArray := code
def yL_law : MethodName := ⟨RL, "law", "([I)Z"⟩
theorem inX0 : ∀ w ∈ wsX00, w ∈ lw_tbl := fun w h => by
  have hp : wsX00 = ([586, 588, 590, 592, 594, 596, 598] : List Nat).filterMap (fun i => tables_1[i]?) := by decide +kernel
  rw [hp] at h
  obtain ⟨i, -, hi⟩ := List.mem_filterMap.mp h
  exact List.mem_append_right _ (List.mem_of_getElem? hi)
theorem inX1 : ∀ w ∈ wsX10, w ∈ lw_tbl := fun w h => by
  have hp : wsX10 = ([541, 543, 545, 547, 549] : List Nat).filterMap (fun i => tables_1[i]?) := by decide +kernel
  rw [hp] at h
  obtain ⟨i, -, hi⟩ := List.mem_filterMap.mp h
  exact List.mem_append_right _ (List.mem_of_getElem? hi)
theorem inX2 : ∀ w ∈ wsX20, w ∈ lw_tbl := fun w h => by
  have hp : wsX20 = ([86, 88, 90, 92, 94, 96, 98, 100, 102, 104, 106, 108, 110] : List Nat).filterMap (fun i => tables_1[i]?) := by decide +kernel
  rw [hp] at h
  obtain ⟨i, -, hi⟩ := List.mem_filterMap.mp h
  exact List.mem_append_right _ (List.mem_of_getElem? hi)
theorem inX3 : ∀ w ∈ wsX30, w ∈ lw_tbl := fun w h => by
  have hp : wsX30 = ([199] : List Nat).filterMap (fun i => tables_1[i]?) := by decide +kernel
  rw [hp] at h
  obtain ⟨i, -, hi⟩ := List.mem_filterMap.mp h
  exact List.mem_append_right _ (List.mem_of_getElem? hi)
theorem inX4 : ∀ w ∈ wsX40, w ∈ lw_tbl := fun w h => by
  have hp : wsX40 = ([170, 172, 174, 176, 178] : List Nat).filterMap (fun i => tables_1[i]?) := by decide +kernel
  rw [hp] at h
  obtain ⟨i, -, hi⟩ := List.mem_filterMap.mp h
  exact List.mem_append_right _ (List.mem_of_getElem? hi)
theorem inX5 : ∀ w ∈ wsX50, w ∈ lw_tbl := fun w h => by
  have hp : wsX50 = ([189] : List Nat).filterMap (fun i => tables_1[i]?) := by decide +kernel
  rw [hp] at h
  obtain ⟨i, -, hi⟩ := List.mem_filterMap.mp h
  exact List.mem_append_right _ (List.mem_of_getElem? hi)
theorem inX6 : ∀ w ∈ wsX60, w ∈ lw_tbl := fun w h => by
  have hp : wsX60 = ([136, 138, 140, 142, 144, 146, 148, 150, 152] : List Nat).filterMap (fun i => tables_1[i]?) := by decide +kernel
  rw [hp] at h
  obtain ⟨i, -, hi⟩ := List.mem_filterMap.mp h
  exact List.mem_append_right _ (List.mem_of_getElem? hi)
theorem inX7 : ∀ w ∈ wsX70, w ∈ lw_tbl := fun w h => by
  have hp : wsX70 = ([400, 402] : List Nat).filterMap (fun i => tables_1[i]?) := by decide +kernel
  rw [hp] at h
  obtain ⟨i, -, hi⟩ := List.mem_filterMap.mp h
  exact List.mem_append_right _ (List.mem_of_getElem? hi)
theorem inX8 : ∀ w ∈ wsX80, w ∈ lw_tbl := fun w h => by
  have hp : wsX80 = ([38, 40, 42, 44] : List Nat).filterMap (fun i => tables_1[i]?) := by decide +kernel
  rw [hp] at h
  obtain ⟨i, -, hi⟩ := List.mem_filterMap.mp h
  exact List.mem_append_right _ (List.mem_of_getElem? hi)
theorem inX9 : ∀ w ∈ wsX90, w ∈ lw_tbl := fun w h => by
  have hp : wsX90 = ([218, 220, 222, 224, 226, 228, 230] : List Nat).filterMap (fun i => tables_1[i]?) := by decide +kernel
  rw [hp] at h
  obtain ⟨i, -, hi⟩ := List.mem_filterMap.mp h
  exact List.mem_append_right _ (List.mem_of_getElem? hi)
theorem inX11 : ∀ w ∈ wsX110, w ∈ lw_tbl := fun w h => by
  have hp : wsX110 = ([329, 331, 333, 335, 337, 339, 341, 343, 345, 347, 349, 351, 353, 355, 357] : List Nat).filterMap (fun i => tables_1[i]?) := by decide +kernel
  rw [hp] at h
  obtain ⟨i, -, hi⟩ := List.mem_filterMap.mp h
  exact List.mem_append_right _ (List.mem_of_getElem? hi)
theorem inX12 : ∀ w ∈ wsX120, w ∈ lw_tbl := fun w h => by
  have hp : wsX120 = ([1086, 1088, 1090, 1092, 1094, 1096, 1098, 1100, 1102, 1104, 1106, 1108, 1110, 1112, 1114, 1116, 1118, 1120, 1122, 1124, 1126, 1128, 1130, 1132, 1134, 1136, 1138, 1140, 1142, 1144, 1146, 1148, 1150, 1152, 1154, 1156, 1158, 1160, 1162, 1164, 1166, 1168, 1170, 1172, 1174, 1176, 1178, 1180, 1182, 1184, 1186, 1188, 1190, 1192, 1194, 1196, 1198, 1200, 1202, 1204, 1206, 1208, 1210, 1212] : List Nat).filterMap (fun i => tables_1[i]?) := by decide +kernel
  rw [hp] at h
  obtain ⟨i, -, hi⟩ := List.mem_filterMap.mp h
  exact List.mem_append_right _ (List.mem_of_getElem? hi)
abbrev vwCl : List vw_C := [(RX0, TX0, 7), (RX1, TX1, 5), (RX2, TX2, 13), (RX3, TX3, 1), (RX4, TX4, 5), (RX5, TX5, 1), (RX6, TX6, 9), (RX7, TX7, 2), (RX8, TX8, 4), (RX9, TX9, 7), (RX11, TX11, 15), (RX12, TX12, 64)]
